section
-- ===== PART A: goes FIRST, ahead of the names: the tables' words, and 'selects' of the private methods out of them =====
/-- a private method of a class that the tables say can be made, by its rows of tables_1 -/
def lw_okq (q : MethodName × Nat) : Prop := (q.1.cls ≠ "java/lang/invoke/MethodHandle" ∧ q.1.cls ≠ "java/lang/invoke/VarHandle") ∧ Cond.instantiable q.1.cls q.2 ∈ tables_1 ∧ Cond.privateMethod q.1 ∈ tables_1 ∧ Cond.instanceMethod q.1 ∈ tables_1
theorem lw_p0 : lw_okq (⟨"SoundPress", "isSound", "(I)Z"⟩, 11) := ⟨⟨by decide +kernel, by decide +kernel⟩, List.mem_of_getElem? (i := 19) (by decide +kernel), List.mem_of_getElem? (i := 374) (by decide +kernel), List.mem_of_getElem? (i := 375) (by decide +kernel)⟩
theorem lw_p1 : lw_okq (⟨"SoundPress", "isTwin", "()Z"⟩, 11) := ⟨⟨by decide +kernel, by decide +kernel⟩, List.mem_of_getElem? (i := 19) (by decide +kernel), List.mem_of_getElem? (i := 380) (by decide +kernel), List.mem_of_getElem? (i := 381) (by decide +kernel)⟩
theorem lw_p2 : lw_okq (⟨"SoundPress", "commonShift", "()I"⟩, 11) := ⟨⟨by decide +kernel, by decide +kernel⟩, List.mem_of_getElem? (i := 19) (by decide +kernel), List.mem_of_getElem? (i := 388) (by decide +kernel), List.mem_of_getElem? (i := 389) (by decide +kernel)⟩
theorem lw_p3 : lw_okq (⟨"SoundPress$Encoder", "writeHeads", "(LSoundPress$Work;)V"⟩, 5) := ⟨⟨by decide +kernel, by decide +kernel⟩, List.mem_of_getElem? (i := 98) (by decide +kernel), List.mem_of_getElem? (i := 418) (by decide +kernel), List.mem_of_getElem? (i := 419) (by decide +kernel)⟩
theorem lw_p4 : lw_okq (⟨"SoundPress$Encoder", "foretellAll", "(LSoundPress$Work;)V"⟩, 5) := ⟨⟨by decide +kernel, by decide +kernel⟩, List.mem_of_getElem? (i := 98) (by decide +kernel), List.mem_of_getElem? (i := 435) (by decide +kernel), List.mem_of_getElem? (i := 436) (by decide +kernel)⟩
theorem lw_p5 : lw_okq (⟨"SoundPress$Passes", "baseOf", "(II)I"⟩, 8) := ⟨⟨by decide +kernel, by decide +kernel⟩, List.mem_of_getElem? (i := 186) (by decide +kernel), List.mem_of_getElem? (i := 451) (by decide +kernel), List.mem_of_getElem? (i := 452) (by decide +kernel)⟩
theorem lw_p6 : lw_okq (⟨"SoundPress$Passes", "slot", "(III)I"⟩, 8) := ⟨⟨by decide +kernel, by decide +kernel⟩, List.mem_of_getElem? (i := 186) (by decide +kernel), List.mem_of_getElem? (i := 455) (by decide +kernel), List.mem_of_getElem? (i := 456) (by decide +kernel)⟩
theorem lw_p7 : lw_okq (⟨"SoundPress$Passes", "track", "(II)I"⟩, 8) := ⟨⟨by decide +kernel, by decide +kernel⟩, List.mem_of_getElem? (i := 186) (by decide +kernel), List.mem_of_getElem? (i := 463) (by decide +kernel), List.mem_of_getElem? (i := 464) (by decide +kernel)⟩
theorem lw_p8 : lw_okq (⟨"SoundPress$Passes", "moveWeight", "(II)V"⟩, 8) := ⟨⟨by decide +kernel, by decide +kernel⟩, List.mem_of_getElem? (i := 186) (by decide +kernel), List.mem_of_getElem? (i := 475) (by decide +kernel), List.mem_of_getElem? (i := 476) (by decide +kernel)⟩
theorem lw_p9 : lw_okq (⟨"SoundPress$Encoder", "stillFrames", "(LSoundPress$Work;I)I"⟩, 5) := ⟨⟨by decide +kernel, by decide +kernel⟩, List.mem_of_getElem? (i := 98) (by decide +kernel), List.mem_of_getElem? (i := 496) (by decide +kernel), List.mem_of_getElem? (i := 497) (by decide +kernel)⟩
theorem lw_p10 : lw_okq (⟨"SoundPress$Encoder", "isStill", "(LSoundPress$Work;I)Z"⟩, 5) := ⟨⟨by decide +kernel, by decide +kernel⟩, List.mem_of_getElem? (i := 98) (by decide +kernel), List.mem_of_getElem? (i := 500) (by decide +kernel), List.mem_of_getElem? (i := 501) (by decide +kernel)⟩
theorem lw_p11 : lw_okq (⟨"SoundPress$Encoder", "writeFrame", "(LSoundPress$Work;I)V"⟩, 5) := ⟨⟨by decide +kernel, by decide +kernel⟩, List.mem_of_getElem? (i := 98) (by decide +kernel), List.mem_of_getElem? (i := 524) (by decide +kernel), List.mem_of_getElem? (i := 525) (by decide +kernel)⟩
theorem lw_p12 : lw_okq (⟨"SoundPress$Encoder", "writeRest", "(LSoundPress$Work;II)I"⟩, 5) := ⟨⟨by decide +kernel, by decide +kernel⟩, List.mem_of_getElem? (i := 98) (by decide +kernel), List.mem_of_getElem? (i := 528) (by decide +kernel), List.mem_of_getElem? (i := 529) (by decide +kernel)⟩
theorem lw_p13 : lw_okq (⟨"SoundPress$Medians", "share", "(II)J"⟩, 3) := ⟨⟨by decide +kernel, by decide +kernel⟩, List.mem_of_getElem? (i := 223) (by decide +kernel), List.mem_of_getElem? (i := 537) (by decide +kernel), List.mem_of_getElem? (i := 538) (by decide +kernel)⟩
theorem lw_p14 : lw_okq (⟨"SoundPress$Medians", "move", "(IIZ)V"⟩, 3) := ⟨⟨by decide +kernel, by decide +kernel⟩, List.mem_of_getElem? (i := 223) (by decide +kernel), List.mem_of_getElem? (i := 566) (by decide +kernel), List.mem_of_getElem? (i := 567) (by decide +kernel)⟩
theorem lw_p15 : lw_okq (⟨"SoundPress$Encoder", "writeTails", "()V"⟩, 5) := ⟨⟨by decide +kernel, by decide +kernel⟩, List.mem_of_getElem? (i := 98) (by decide +kernel), List.mem_of_getElem? (i := 599) (by decide +kernel), List.mem_of_getElem? (i := 600) (by decide +kernel)⟩
def lw_privs_1 : List (MethodName × Nat) := [(⟨"SoundPress", "isSound", "(I)Z"⟩, 11), (⟨"SoundPress", "isTwin", "()Z"⟩, 11), (⟨"SoundPress", "commonShift", "()I"⟩, 11), (⟨"SoundPress$Encoder", "writeHeads", "(LSoundPress$Work;)V"⟩, 5), (⟨"SoundPress$Encoder", "foretellAll", "(LSoundPress$Work;)V"⟩, 5), (⟨"SoundPress$Passes", "baseOf", "(II)I"⟩, 8), (⟨"SoundPress$Passes", "slot", "(III)I"⟩, 8), (⟨"SoundPress$Passes", "track", "(II)I"⟩, 8), (⟨"SoundPress$Passes", "moveWeight", "(II)V"⟩, 8), (⟨"SoundPress$Encoder", "stillFrames", "(LSoundPress$Work;I)I"⟩, 5), (⟨"SoundPress$Encoder", "isStill", "(LSoundPress$Work;I)Z"⟩, 5), (⟨"SoundPress$Encoder", "writeFrame", "(LSoundPress$Work;I)V"⟩, 5), (⟨"SoundPress$Encoder", "writeRest", "(LSoundPress$Work;II)I"⟩, 5), (⟨"SoundPress$Medians", "share", "(II)J"⟩, 3), (⟨"SoundPress$Medians", "move", "(IIZ)V"⟩, 3), (⟨"SoundPress$Encoder", "writeTails", "()V"⟩, 5)]
theorem lw_r1 : ∀ q ∈ lw_privs_1, lw_okq q := List.forall_mem_cons.mpr ⟨lw_p0, List.forall_mem_cons.mpr ⟨lw_p1, List.forall_mem_cons.mpr ⟨lw_p2, List.forall_mem_cons.mpr ⟨lw_p3, List.forall_mem_cons.mpr ⟨lw_p4, List.forall_mem_cons.mpr ⟨lw_p5, List.forall_mem_cons.mpr ⟨lw_p6, List.forall_mem_cons.mpr ⟨lw_p7, List.forall_mem_cons.mpr ⟨lw_p8, List.forall_mem_cons.mpr ⟨lw_p9, List.forall_mem_cons.mpr ⟨lw_p10, List.forall_mem_cons.mpr ⟨lw_p11, List.forall_mem_cons.mpr ⟨lw_p12, List.forall_mem_cons.mpr ⟨lw_p13, List.forall_mem_cons.mpr ⟨lw_p14, List.forall_mem_cons.mpr ⟨lw_p15, fun _ h => absurd h List.not_mem_nil⟩⟩⟩⟩⟩⟩⟩⟩⟩⟩⟩⟩⟩⟩⟩⟩
theorem lw_p16 : lw_okq (⟨"SoundPress", "keepSpare", "()V"⟩, 11) := ⟨⟨by decide +kernel, by decide +kernel⟩, List.mem_of_getElem? (i := 19) (by decide +kernel), List.mem_of_getElem? (i := 617) (by decide +kernel), List.mem_of_getElem? (i := 618) (by decide +kernel)⟩
theorem lw_p17 : lw_okq (⟨"SoundPress", "pressed", "(I)LSoundPress$Bytes;"⟩, 11) := ⟨⟨by decide +kernel, by decide +kernel⟩, List.mem_of_getElem? (i := 19) (by decide +kernel), List.mem_of_getElem? (i := 625) (by decide +kernel), List.mem_of_getElem? (i := 626) (by decide +kernel)⟩
theorem lw_p18 : lw_okq (⟨"SoundPress", "fed", "(I)LSoundPress$Bytes;"⟩, 11) := ⟨⟨by decide +kernel, by decide +kernel⟩, List.mem_of_getElem? (i := 19) (by decide +kernel), List.mem_of_getElem? (i := 641) (by decide +kernel), List.mem_of_getElem? (i := 642) (by decide +kernel)⟩
theorem lw_p19 : lw_okq (⟨"SoundPress$Decoder", "readHead", "(LSoundPress$Work;I)Z"⟩, 5) := ⟨⟨by decide +kernel, by decide +kernel⟩, List.mem_of_getElem? (i := 137) (by decide +kernel), List.mem_of_getElem? (i := 690) (by decide +kernel), List.mem_of_getElem? (i := 691) (by decide +kernel)⟩
theorem lw_p20 : lw_okq (⟨"SoundPress$Decoder", "readPlan", "(LSoundPress$Plan;I)Z"⟩, 5) := ⟨⟨by decide +kernel, by decide +kernel⟩, List.mem_of_getElem? (i := 137) (by decide +kernel), List.mem_of_getElem? (i := 698) (by decide +kernel), List.mem_of_getElem? (i := 699) (by decide +kernel)⟩
theorem lw_p21 : lw_okq (⟨"SoundPress$Decoder", "readBody", "(LSoundPress$Work;)I"⟩, 5) := ⟨⟨by decide +kernel, by decide +kernel⟩, List.mem_of_getElem? (i := 137) (by decide +kernel), List.mem_of_getElem? (i := 709) (by decide +kernel), List.mem_of_getElem? (i := 710) (by decide +kernel)⟩
theorem lw_p22 : lw_okq (⟨"SoundPress$Decoder", "passFrameOver", "(LSoundPress$Work;I)V"⟩, 5) := ⟨⟨by decide +kernel, by decide +kernel⟩, List.mem_of_getElem? (i := 137) (by decide +kernel), List.mem_of_getElem? (i := 723) (by decide +kernel), List.mem_of_getElem? (i := 724) (by decide +kernel)⟩
theorem lw_p23 : lw_okq (⟨"SoundPress$Decoder", "readFrame", "(LSoundPress$Work;I)I"⟩, 5) := ⟨⟨by decide +kernel, by decide +kernel⟩, List.mem_of_getElem? (i := 137) (by decide +kernel), List.mem_of_getElem? (i := 733) (by decide +kernel), List.mem_of_getElem? (i := 734) (by decide +kernel)⟩
theorem lw_p24 : lw_okq (⟨"SoundPress$Decoder", "readBounds", "(LSoundPress$Work;I)I"⟩, 5) := ⟨⟨by decide +kernel, by decide +kernel⟩, List.mem_of_getElem? (i := 137) (by decide +kernel), List.mem_of_getElem? (i := 737) (by decide +kernel), List.mem_of_getElem? (i := 738) (by decide +kernel)⟩
theorem lw_p25 : lw_okq (⟨"SoundPress", "keepSound", "()I"⟩, 11) := ⟨⟨by decide +kernel, by decide +kernel⟩, List.mem_of_getElem? (i := 19) (by decide +kernel), List.mem_of_getElem? (i := 757) (by decide +kernel), List.mem_of_getElem? (i := 758) (by decide +kernel)⟩
theorem lw_p26 : lw_okq (⟨"SoundPress$Decoder", "putRight", "(LSoundPress$Work;)Z"⟩, 5) := ⟨⟨by decide +kernel, by decide +kernel⟩, List.mem_of_getElem? (i := 137) (by decide +kernel), List.mem_of_getElem? (i := 773) (by decide +kernel), List.mem_of_getElem? (i := 774) (by decide +kernel)⟩
theorem lw_p27 : lw_okq (⟨"SoundPressModel", "isSound", "(I)Z"⟩, 50) := ⟨⟨by decide +kernel, by decide +kernel⟩, List.mem_of_getElem? (i := 806) (by decide +kernel), List.mem_of_getElem? (i := 971) (by decide +kernel), List.mem_of_getElem? (i := 972) (by decide +kernel)⟩
theorem lw_p28 : lw_okq (⟨"SoundPressModel", "readies", "(IZ)V"⟩, 50) := ⟨⟨by decide +kernel, by decide +kernel⟩, List.mem_of_getElem? (i := 806) (by decide +kernel), List.mem_of_getElem? (i := 977) (by decide +kernel), List.mem_of_getElem? (i := 978) (by decide +kernel)⟩
theorem lw_p29 : lw_okq (⟨"SoundPressModel", "shiftOf", "()I"⟩, 50) := ⟨⟨by decide +kernel, by decide +kernel⟩, List.mem_of_getElem? (i := 806) (by decide +kernel), List.mem_of_getElem? (i := 981) (by decide +kernel), List.mem_of_getElem? (i := 982) (by decide +kernel)⟩
theorem lw_p30 : lw_okq (⟨"SoundPressModel", "areTwins", "()Z"⟩, 50) := ⟨⟨by decide +kernel, by decide +kernel⟩, List.mem_of_getElem? (i := 806) (by decide +kernel), List.mem_of_getElem? (i := 989) (by decide +kernel), List.mem_of_getElem? (i := 990) (by decide +kernel)⟩
theorem lw_p31 : lw_okq (⟨"SoundPressModel", "begins", "()V"⟩, 50) := ⟨⟨by decide +kernel, by decide +kernel⟩, List.mem_of_getElem? (i := 806) (by decide +kernel), List.mem_of_getElem? (i := 993) (by decide +kernel), List.mem_of_getElem? (i := 994) (by decide +kernel)⟩
def lw_privs_2 : List (MethodName × Nat) := [(⟨"SoundPress", "keepSpare", "()V"⟩, 11), (⟨"SoundPress", "pressed", "(I)LSoundPress$Bytes;"⟩, 11), (⟨"SoundPress", "fed", "(I)LSoundPress$Bytes;"⟩, 11), (⟨"SoundPress$Decoder", "readHead", "(LSoundPress$Work;I)Z"⟩, 5), (⟨"SoundPress$Decoder", "readPlan", "(LSoundPress$Plan;I)Z"⟩, 5), (⟨"SoundPress$Decoder", "readBody", "(LSoundPress$Work;)I"⟩, 5), (⟨"SoundPress$Decoder", "passFrameOver", "(LSoundPress$Work;I)V"⟩, 5), (⟨"SoundPress$Decoder", "readFrame", "(LSoundPress$Work;I)I"⟩, 5), (⟨"SoundPress$Decoder", "readBounds", "(LSoundPress$Work;I)I"⟩, 5), (⟨"SoundPress", "keepSound", "()I"⟩, 11), (⟨"SoundPress$Decoder", "putRight", "(LSoundPress$Work;)Z"⟩, 5), (⟨"SoundPressModel", "isSound", "(I)Z"⟩, 50), (⟨"SoundPressModel", "readies", "(IZ)V"⟩, 50), (⟨"SoundPressModel", "shiftOf", "()I"⟩, 50), (⟨"SoundPressModel", "areTwins", "()Z"⟩, 50), (⟨"SoundPressModel", "begins", "()V"⟩, 50)]
theorem lw_r2 : ∀ q ∈ lw_privs_2, lw_okq q := List.forall_mem_cons.mpr ⟨lw_p16, List.forall_mem_cons.mpr ⟨lw_p17, List.forall_mem_cons.mpr ⟨lw_p18, List.forall_mem_cons.mpr ⟨lw_p19, List.forall_mem_cons.mpr ⟨lw_p20, List.forall_mem_cons.mpr ⟨lw_p21, List.forall_mem_cons.mpr ⟨lw_p22, List.forall_mem_cons.mpr ⟨lw_p23, List.forall_mem_cons.mpr ⟨lw_p24, List.forall_mem_cons.mpr ⟨lw_p25, List.forall_mem_cons.mpr ⟨lw_p26, List.forall_mem_cons.mpr ⟨lw_p27, List.forall_mem_cons.mpr ⟨lw_p28, List.forall_mem_cons.mpr ⟨lw_p29, List.forall_mem_cons.mpr ⟨lw_p30, List.forall_mem_cons.mpr ⟨lw_p31, fun _ h => absurd h List.not_mem_nil⟩⟩⟩⟩⟩⟩⟩⟩⟩⟩⟩⟩⟩⟩⟩⟩
theorem lw_p32 : lw_okq (⟨"SoundPressModel", "codesAll", "()V"⟩, 50) := ⟨⟨by decide +kernel, by decide +kernel⟩, List.mem_of_getElem? (i := 806) (by decide +kernel), List.mem_of_getElem? (i := 997) (by decide +kernel), List.mem_of_getElem? (i := 998) (by decide +kernel)⟩
theorem lw_p33 : lw_okq (⟨"SoundPressModel", "maySilent", "()Z"⟩, 50) := ⟨⟨by decide +kernel, by decide +kernel⟩, List.mem_of_getElem? (i := 806) (by decide +kernel), List.mem_of_getElem? (i := 1001) (by decide +kernel), List.mem_of_getElem? (i := 1002) (by decide +kernel)⟩
theorem lw_p34 : lw_okq (⟨"SoundPressModel", "isSilent", "(I)Z"⟩, 50) := ⟨⟨by decide +kernel, by decide +kernel⟩, List.mem_of_getElem? (i := 806) (by decide +kernel), List.mem_of_getElem? (i := 1005) (by decide +kernel), List.mem_of_getElem? (i := 1006) (by decide +kernel)⟩
theorem lw_p35 : lw_okq (⟨"SoundPressModel", "keeps", "()V"⟩, 50) := ⟨⟨by decide +kernel, by decide +kernel⟩, List.mem_of_getElem? (i := 806) (by decide +kernel), List.mem_of_getElem? (i := 1009) (by decide +kernel), List.mem_of_getElem? (i := 1010) (by decide +kernel)⟩
theorem lw_p36 : lw_okq (⟨"SoundPressModel", "foretells", "(I)I"⟩, 50) := ⟨⟨by decide +kernel, by decide +kernel⟩, List.mem_of_getElem? (i := 806) (by decide +kernel), List.mem_of_getElem? (i := 1013) (by decide +kernel), List.mem_of_getElem? (i := 1014) (by decide +kernel)⟩
theorem lw_p37 : lw_okq (⟨"SoundPressModel", "base", "(II)I"⟩, 50) := ⟨⟨by decide +kernel, by decide +kernel⟩, List.mem_of_getElem? (i := 806) (by decide +kernel), List.mem_of_getElem? (i := 1017) (by decide +kernel), List.mem_of_getElem? (i := 1018) (by decide +kernel)⟩
theorem lw_p38 : lw_okq (⟨"SoundPressModel", "input", "(III)I"⟩, 50) := ⟨⟨by decide +kernel, by decide +kernel⟩, List.mem_of_getElem? (i := 806) (by decide +kernel), List.mem_of_getElem? (i := 1021) (by decide +kernel), List.mem_of_getElem? (i := 1022) (by decide +kernel)⟩
theorem lw_p39 : lw_okq (⟨"SoundPressModel", "brings", "()V"⟩, 50) := ⟨⟨by decide +kernel, by decide +kernel⟩, List.mem_of_getElem? (i := 806) (by decide +kernel), List.mem_of_getElem? (i := 1026) (by decide +kernel), List.mem_of_getElem? (i := 1027) (by decide +kernel)⟩
theorem lw_p40 : lw_okq (⟨"SoundPressModel", "learns", "(II)I"⟩, 50) := ⟨⟨by decide +kernel, by decide +kernel⟩, List.mem_of_getElem? (i := 806) (by decide +kernel), List.mem_of_getElem? (i := 1030) (by decide +kernel), List.mem_of_getElem? (i := 1031) (by decide +kernel)⟩
theorem lw_p41 : lw_okq (⟨"SoundPressModel", "putG", "(J)V"⟩, 50) := ⟨⟨by decide +kernel, by decide +kernel⟩, List.mem_of_getElem? (i := 806) (by decide +kernel), List.mem_of_getElem? (i := 1034) (by decide +kernel), List.mem_of_getElem? (i := 1035) (by decide +kernel)⟩
theorem lw_p42 : lw_okq (⟨"SoundPressModel", "bits", "(JI)V"⟩, 50) := ⟨⟨by decide +kernel, by decide +kernel⟩, List.mem_of_getElem? (i := 806) (by decide +kernel), List.mem_of_getElem? (i := 1047) (by decide +kernel), List.mem_of_getElem? (i := 1048) (by decide +kernel)⟩
theorem lw_p43 : lw_okq (⟨"SoundPressModel", "bit", "(I)V"⟩, 50) := ⟨⟨by decide +kernel, by decide +kernel⟩, List.mem_of_getElem? (i := 806) (by decide +kernel), List.mem_of_getElem? (i := 1051) (by decide +kernel), List.mem_of_getElem? (i := 1052) (by decide +kernel)⟩
theorem lw_p44 : lw_okq (⟨"SoundPressModel", "tellsSilence", "(I)V"⟩, 50) := ⟨⟨by decide +kernel, by decide +kernel⟩, List.mem_of_getElem? (i := 806) (by decide +kernel), List.mem_of_getElem? (i := 1055) (by decide +kernel), List.mem_of_getElem? (i := 1056) (by decide +kernel)⟩
theorem lw_p45 : lw_okq (⟨"SoundPressModel", "codes", "(II)V"⟩, 50) := ⟨⟨by decide +kernel, by decide +kernel⟩, List.mem_of_getElem? (i := 806) (by decide +kernel), List.mem_of_getElem? (i := 1059) (by decide +kernel), List.mem_of_getElem? (i := 1060) (by decide +kernel)⟩
theorem lw_p46 : lw_okq (⟨"SoundPressModel", "step", "(II)J"⟩, 50) := ⟨⟨by decide +kernel, by decide +kernel⟩, List.mem_of_getElem? (i := 806) (by decide +kernel), List.mem_of_getElem? (i := 1064) (by decide +kernel), List.mem_of_getElem? (i := 1065) (by decide +kernel)⟩
theorem lw_p47 : lw_okq (⟨"SoundPressModel", "bounds", "(IJ)V"⟩, 50) := ⟨⟨by decide +kernel, by decide +kernel⟩, List.mem_of_getElem? (i := 806) (by decide +kernel), List.mem_of_getElem? (i := 1069) (by decide +kernel), List.mem_of_getElem? (i := 1070) (by decide +kernel)⟩
def lw_privs_3 : List (MethodName × Nat) := [(⟨"SoundPressModel", "codesAll", "()V"⟩, 50), (⟨"SoundPressModel", "maySilent", "()Z"⟩, 50), (⟨"SoundPressModel", "isSilent", "(I)Z"⟩, 50), (⟨"SoundPressModel", "keeps", "()V"⟩, 50), (⟨"SoundPressModel", "foretells", "(I)I"⟩, 50), (⟨"SoundPressModel", "base", "(II)I"⟩, 50), (⟨"SoundPressModel", "input", "(III)I"⟩, 50), (⟨"SoundPressModel", "brings", "()V"⟩, 50), (⟨"SoundPressModel", "learns", "(II)I"⟩, 50), (⟨"SoundPressModel", "putG", "(J)V"⟩, 50), (⟨"SoundPressModel", "bits", "(JI)V"⟩, 50), (⟨"SoundPressModel", "bit", "(I)V"⟩, 50), (⟨"SoundPressModel", "tellsSilence", "(I)V"⟩, 50), (⟨"SoundPressModel", "codes", "(II)V"⟩, 50), (⟨"SoundPressModel", "step", "(II)J"⟩, 50), (⟨"SoundPressModel", "bounds", "(IJ)V"⟩, 50)]
theorem lw_r3 : ∀ q ∈ lw_privs_3, lw_okq q := List.forall_mem_cons.mpr ⟨lw_p32, List.forall_mem_cons.mpr ⟨lw_p33, List.forall_mem_cons.mpr ⟨lw_p34, List.forall_mem_cons.mpr ⟨lw_p35, List.forall_mem_cons.mpr ⟨lw_p36, List.forall_mem_cons.mpr ⟨lw_p37, List.forall_mem_cons.mpr ⟨lw_p38, List.forall_mem_cons.mpr ⟨lw_p39, List.forall_mem_cons.mpr ⟨lw_p40, List.forall_mem_cons.mpr ⟨lw_p41, List.forall_mem_cons.mpr ⟨lw_p42, List.forall_mem_cons.mpr ⟨lw_p43, List.forall_mem_cons.mpr ⟨lw_p44, List.forall_mem_cons.mpr ⟨lw_p45, List.forall_mem_cons.mpr ⟨lw_p46, List.forall_mem_cons.mpr ⟨lw_p47, fun _ h => absurd h List.not_mem_nil⟩⟩⟩⟩⟩⟩⟩⟩⟩⟩⟩⟩⟩⟩⟩⟩
theorem lw_p48 : lw_okq (⟨"SoundPressModel", "falls", "(II)V"⟩, 50) := ⟨⟨by decide +kernel, by decide +kernel⟩, List.mem_of_getElem? (i := 806) (by decide +kernel), List.mem_of_getElem? (i := 1074) (by decide +kernel), List.mem_of_getElem? (i := 1075) (by decide +kernel)⟩
theorem lw_p49 : lw_okq (⟨"SoundPressModel", "rises", "(II)V"⟩, 50) := ⟨⟨by decide +kernel, by decide +kernel⟩, List.mem_of_getElem? (i := 806) (by decide +kernel), List.mem_of_getElem? (i := 1078) (by decide +kernel), List.mem_of_getElem? (i := 1079) (by decide +kernel)⟩
theorem lw_p50 : lw_okq (⟨"SoundPressModel", "putT", "(JJ)V"⟩, 50) := ⟨⟨by decide +kernel, by decide +kernel⟩, List.mem_of_getElem? (i := 806) (by decide +kernel), List.mem_of_getElem? (i := 1085) (by decide +kernel), List.mem_of_getElem? (i := 1086) (by decide +kernel)⟩
theorem lw_p51 : lw_okq (⟨"SoundPressModel", "putSide", "(JI)V"⟩, 50) := ⟨⟨by decide +kernel, by decide +kernel⟩, List.mem_of_getElem? (i := 806) (by decide +kernel), List.mem_of_getElem? (i := 1089) (by decide +kernel), List.mem_of_getElem? (i := 1090) (by decide +kernel)⟩
theorem lw_p52 : lw_okq (⟨"SoundPressModel", "heads", "()I"⟩, 50) := ⟨⟨by decide +kernel, by decide +kernel⟩, List.mem_of_getElem? (i := 806) (by decide +kernel), List.mem_of_getElem? (i := 1096) (by decide +kernel), List.mem_of_getElem? (i := 1097) (by decide +kernel)⟩
theorem lw_p53 : lw_okq (⟨"SoundPressModel", "tells", "()V"⟩, 50) := ⟨⟨by decide +kernel, by decide +kernel⟩, List.mem_of_getElem? (i := 806) (by decide +kernel), List.mem_of_getElem? (i := 1113) (by decide +kernel), List.mem_of_getElem? (i := 1114) (by decide +kernel)⟩
theorem lw_p54 : lw_okq (⟨"SoundPressModel", "decodes", "(Z)I"⟩, 50) := ⟨⟨by decide +kernel, by decide +kernel⟩, List.mem_of_getElem? (i := 806) (by decide +kernel), List.mem_of_getElem? (i := 1121) (by decide +kernel), List.mem_of_getElem? (i := 1122) (by decide +kernel)⟩
theorem lw_p55 : lw_okq (⟨"SoundPressModel", "readsFirst", "(I)Z"⟩, 50) := ⟨⟨by decide +kernel, by decide +kernel⟩, List.mem_of_getElem? (i := 806) (by decide +kernel), List.mem_of_getElem? (i := 1125) (by decide +kernel), List.mem_of_getElem? (i := 1126) (by decide +kernel)⟩
theorem lw_p56 : lw_okq (⟨"SoundPressModel", "opens", "(I)Z"⟩, 50) := ⟨⟨by decide +kernel, by decide +kernel⟩, List.mem_of_getElem? (i := 806) (by decide +kernel), List.mem_of_getElem? (i := 1129) (by decide +kernel), List.mem_of_getElem? (i := 1130) (by decide +kernel)⟩
theorem lw_p57 : lw_okq (⟨"SoundPressModel", "wrong", "(I)Z"⟩, 50) := ⟨⟨by decide +kernel, by decide +kernel⟩, List.mem_of_getElem? (i := 806) (by decide +kernel), List.mem_of_getElem? (i := 1133) (by decide +kernel), List.mem_of_getElem? (i := 1134) (by decide +kernel)⟩
theorem lw_p58 : lw_okq (⟨"SoundPressModel", "nextG", "()J"⟩, 50) := ⟨⟨by decide +kernel, by decide +kernel⟩, List.mem_of_getElem? (i := 806) (by decide +kernel), List.mem_of_getElem? (i := 1143) (by decide +kernel), List.mem_of_getElem? (i := 1144) (by decide +kernel)⟩
theorem lw_p59 : lw_okq (⟨"SoundPressModel", "next", "(II)J"⟩, 50) := ⟨⟨by decide +kernel, by decide +kernel⟩, List.mem_of_getElem? (i := 806) (by decide +kernel), List.mem_of_getElem? (i := 1147) (by decide +kernel), List.mem_of_getElem? (i := 1148) (by decide +kernel)⟩
theorem lw_p60 : lw_okq (⟨"SoundPressModel", "next", "(I)I"⟩, 50) := ⟨⟨by decide +kernel, by decide +kernel⟩, List.mem_of_getElem? (i := 806) (by decide +kernel), List.mem_of_getElem? (i := 1151) (by decide +kernel), List.mem_of_getElem? (i := 1152) (by decide +kernel)⟩
theorem lw_p61 : lw_okq (⟨"SoundPressModel", "passesOver", "(I)V"⟩, 50) := ⟨⟨by decide +kernel, by decide +kernel⟩, List.mem_of_getElem? (i := 806) (by decide +kernel), List.mem_of_getElem? (i := 1155) (by decide +kernel), List.mem_of_getElem? (i := 1156) (by decide +kernel)⟩
theorem lw_p62 : lw_okq (⟨"SoundPressModel", "reads", "(II)V"⟩, 50) := ⟨⟨by decide +kernel, by decide +kernel⟩, List.mem_of_getElem? (i := 806) (by decide +kernel), List.mem_of_getElem? (i := 1159) (by decide +kernel), List.mem_of_getElem? (i := 1160) (by decide +kernel)⟩
theorem lw_p63 : lw_okq (⟨"SoundPressModel", "isRest", "(I)Z"⟩, 50) := ⟨⟨by decide +kernel, by decide +kernel⟩, List.mem_of_getElem? (i := 806) (by decide +kernel), List.mem_of_getElem? (i := 1163) (by decide +kernel), List.mem_of_getElem? (i := 1164) (by decide +kernel)⟩
def lw_privs_4 : List (MethodName × Nat) := [(⟨"SoundPressModel", "falls", "(II)V"⟩, 50), (⟨"SoundPressModel", "rises", "(II)V"⟩, 50), (⟨"SoundPressModel", "putT", "(JJ)V"⟩, 50), (⟨"SoundPressModel", "putSide", "(JI)V"⟩, 50), (⟨"SoundPressModel", "heads", "()I"⟩, 50), (⟨"SoundPressModel", "tells", "()V"⟩, 50), (⟨"SoundPressModel", "decodes", "(Z)I"⟩, 50), (⟨"SoundPressModel", "readsFirst", "(I)Z"⟩, 50), (⟨"SoundPressModel", "opens", "(I)Z"⟩, 50), (⟨"SoundPressModel", "wrong", "(I)Z"⟩, 50), (⟨"SoundPressModel", "nextG", "()J"⟩, 50), (⟨"SoundPressModel", "next", "(II)J"⟩, 50), (⟨"SoundPressModel", "next", "(I)I"⟩, 50), (⟨"SoundPressModel", "passesOver", "(I)V"⟩, 50), (⟨"SoundPressModel", "reads", "(II)V"⟩, 50), (⟨"SoundPressModel", "isRest", "(I)Z"⟩, 50)]
theorem lw_r4 : ∀ q ∈ lw_privs_4, lw_okq q := List.forall_mem_cons.mpr ⟨lw_p48, List.forall_mem_cons.mpr ⟨lw_p49, List.forall_mem_cons.mpr ⟨lw_p50, List.forall_mem_cons.mpr ⟨lw_p51, List.forall_mem_cons.mpr ⟨lw_p52, List.forall_mem_cons.mpr ⟨lw_p53, List.forall_mem_cons.mpr ⟨lw_p54, List.forall_mem_cons.mpr ⟨lw_p55, List.forall_mem_cons.mpr ⟨lw_p56, List.forall_mem_cons.mpr ⟨lw_p57, List.forall_mem_cons.mpr ⟨lw_p58, List.forall_mem_cons.mpr ⟨lw_p59, List.forall_mem_cons.mpr ⟨lw_p60, List.forall_mem_cons.mpr ⟨lw_p61, List.forall_mem_cons.mpr ⟨lw_p62, List.forall_mem_cons.mpr ⟨lw_p63, fun _ h => absurd h List.not_mem_nil⟩⟩⟩⟩⟩⟩⟩⟩⟩⟩⟩⟩⟩⟩⟩⟩
theorem lw_p64 : lw_okq (⟨"SoundPressModel", "readsSecond", "(II)Z"⟩, 50) := ⟨⟨by decide +kernel, by decide +kernel⟩, List.mem_of_getElem? (i := 806) (by decide +kernel), List.mem_of_getElem? (i := 1167) (by decide +kernel), List.mem_of_getElem? (i := 1168) (by decide +kernel)⟩
theorem lw_p65 : lw_okq (⟨"SoundPressModel", "nextT", "(J)J"⟩, 50) := ⟨⟨by decide +kernel, by decide +kernel⟩, List.mem_of_getElem? (i := 806) (by decide +kernel), List.mem_of_getElem? (i := 1171) (by decide +kernel), List.mem_of_getElem? (i := 1172) (by decide +kernel)⟩
theorem lw_p66 : lw_okq (⟨"SoundPressModel", "puts", "()V"⟩, 50) := ⟨⟨by decide +kernel, by decide +kernel⟩, List.mem_of_getElem? (i := 806) (by decide +kernel), List.mem_of_getElem? (i := 1175) (by decide +kernel), List.mem_of_getElem? (i := 1176) (by decide +kernel)⟩
def lw_privs_5 : List (MethodName × Nat) := [(⟨"SoundPressModel", "readsSecond", "(II)Z"⟩, 50), (⟨"SoundPressModel", "nextT", "(J)J"⟩, 50), (⟨"SoundPressModel", "puts", "()V"⟩, 50)]
theorem lw_r5 : ∀ q ∈ lw_privs_5, lw_okq q := List.forall_mem_cons.mpr ⟨lw_p64, List.forall_mem_cons.mpr ⟨lw_p65, List.forall_mem_cons.mpr ⟨lw_p66, fun _ h => absurd h List.not_mem_nil⟩⟩⟩
def lw_privs : List (MethodName × Nat) := lw_privs_1 ++ (lw_privs_2 ++ (lw_privs_3 ++ (lw_privs_4 ++ (lw_privs_5))))
def lw_tbl : List Cond := k2_sels lw_privs ++ tables_1
theorem lw_privs_ok : ∀ q ∈ lw_privs, lw_okq q := by
  show ∀ q ∈ lw_privs_1 ++ (lw_privs_2 ++ (lw_privs_3 ++ (lw_privs_4 ++ (lw_privs_5)))), lw_okq q
  exact List.forall_mem_append.mpr ⟨lw_r1, List.forall_mem_append.mpr ⟨lw_r2, List.forall_mem_append.mpr ⟨lw_r3, List.forall_mem_append.mpr ⟨lw_r4, lw_r5⟩⟩⟩⟩
end
section
def RX0 : String := "SoundPress$BitReader"
def TX0 : u_T := fun k => match k with
  | 0 => ("SoundPress$BitReader", "stream", "LSoundPress$Bytes;", true)
  | 1 => ("SoundPress$BitReader", "at", "I", false)
  | 2 => ("SoundPress$BitReader", "to", "I", false)
  | _ => ("SoundPress$BitReader", "ended", "Z", false)
def tyX0 : Nat → FieldType := fun k => match k with
  | 0 => .object "SoundPress$Bytes"
  | 1 => .int
  | 2 => .int
  | _ => .boolean
theorem nmX0 : ∀ a, a < 4 → ∀ b, b < 4 → a ≠ b → (TX0 a).2.1 ≠ (TX0 b).2.1 := by decide +kernel
theorem tyX0_ok : ∀ k, k < 4 → parseFieldDescriptor (TX0 k).2.2.1 = some (tyX0 k) := by decide +kernel
abbrev cX0_init : ByteArray := prog_2_method_1_code
def yX0_init : MethodName := ⟨RX0, "<init>", "(LSoundPress$Bytes;)V"⟩
abbrev cX0_start : ByteArray := prog_2_method_2_code
def yX0_start : MethodName := ⟨RX0, "start", "(II)V"⟩
abbrev cX0_readBits : ByteArray := prog_2_method_3_code
def yX0_readBits : MethodName := ⟨RX0, "readBits", "(I)J"⟩
abbrev cX0_readOnes : ByteArray := prog_2_method_4_code
def yX0_readOnes : MethodName := ⟨RX0, "readOnes", "()I"⟩
abbrev cX0_readG : ByteArray := prog_2_method_5_code
def yX0_readG : MethodName := ⟨RX0, "readG", "()J"⟩
abbrev cX0_readT : ByteArray := prog_2_method_6_code
def yX0_readT : MethodName := ⟨RX0, "readT", "(J)J"⟩
abbrev cX0_isRestWrong : ByteArray := prog_2_method_7_code
def yX0_isRestWrong : MethodName := ⟨RX0, "isRestWrong", "()Z"⟩
def RX1 : String := "SoundPress$BitWriter"
def TX1 : u_T := fun k => match k with
  | 0 => ("SoundPress$BitWriter", "stream", "LSoundPress$Bytes;", true)
  | 1 => ("SoundPress$BitWriter", "open", "I", false)
  | _ => ("SoundPress$BitWriter", "used", "I", false)
def tyX1 : Nat → FieldType := fun k => match k with
  | 0 => .object "SoundPress$Bytes"
  | 1 => .int
  | _ => .int
theorem nmX1 : ∀ a, a < 3 → ∀ b, b < 3 → a ≠ b → (TX1 a).2.1 ≠ (TX1 b).2.1 := by decide +kernel
theorem tyX1_ok : ∀ k, k < 3 → parseFieldDescriptor (TX1 k).2.2.1 = some (tyX1 k) := by decide +kernel
abbrev cX1_init : ByteArray := prog_3_method_1_code
def yX1_init : MethodName := ⟨RX1, "<init>", "(LSoundPress$Bytes;)V"⟩
abbrev cX1_writeBits : ByteArray := prog_3_method_2_code
def yX1_writeBits : MethodName := ⟨RX1, "writeBits", "(JI)V"⟩
abbrev cX1_writeOnes : ByteArray := prog_3_method_3_code
def yX1_writeOnes : MethodName := ⟨RX1, "writeOnes", "(J)V"⟩
abbrev cX1_writeG : ByteArray := prog_3_method_4_code
def yX1_writeG : MethodName := ⟨RX1, "writeG", "(J)V"⟩
abbrev cX1_writeT : ByteArray := prog_3_method_5_code
def yX1_writeT : MethodName := ⟨RX1, "writeT", "(JJ)V"⟩
abbrev cX1_finish : ByteArray := prog_3_method_6_code
def yX1_finish : MethodName := ⟨RX1, "finish", "()V"⟩
def RX2 : String := "SoundPress$Bytes"
def TX2 : u_T := fun k => match k with
  | 0 => ("SoundPress$Bytes", "held", "[B", true)
  | _ => ("SoundPress$Bytes", "length", "I", false)
def tyX2 : Nat → FieldType := fun k => match k with
  | 0 => .array .byte
  | _ => .int
theorem nmX2 : ∀ a, a < 2 → ∀ b, b < 2 → a ≠ b → (TX2 a).2.1 ≠ (TX2 b).2.1 := by decide +kernel
theorem tyX2_ok : ∀ k, k < 2 → parseFieldDescriptor (TX2 k).2.2.1 = some (tyX2 k) := by decide +kernel
abbrev cX2_init : ByteArray := prog_4_method_1_code
def yX2_init : MethodName := ⟨RX2, "<init>", "(I)V"⟩
abbrev cX2_at : ByteArray := prog_4_method_2_code
def yX2_at : MethodName := ⟨RX2, "at", "(I)I"⟩
abbrev cX2_add : ByteArray := prog_4_method_3_code
def yX2_add : MethodName := ⟨RX2, "add", "(I)V"⟩
abbrev cX2_addWord : ByteArray := prog_4_method_4_code
def yX2_addWord : MethodName := ⟨RX2, "addWord", "(I)V"⟩
abbrev cX2_wordAt : ByteArray := prog_4_method_5_code
def yX2_wordAt : MethodName := ⟨RX2, "wordAt", "(I)I"⟩
abbrev cX2_putWord : ByteArray := prog_4_method_6_code
def yX2_putWord : MethodName := ⟨RX2, "putWord", "(II)V"⟩
abbrev cX2_turn : ByteArray := prog_4_method_7_code
def yX2_turn : MethodName := ⟨RX2, "turn", "(II)Z"⟩
abbrev cX2_shorten : ByteArray := prog_4_method_8_code
def yX2_shorten : MethodName := ⟨RX2, "shorten", "(I)Z"⟩
abbrev cX2_copy : ByteArray := prog_4_method_9_code
def yX2_copy : MethodName := ⟨RX2, "copy", "(LSoundPress$Bytes;)Z"⟩
abbrev cX2_crc : ByteArray := prog_4_method_10_code
def yX2_crc : MethodName := ⟨RX2, "crc", "(I)I"⟩
def RX3 : String := "SoundPress$Decoder"
def TX3 : u_T := fun k => match k with
  | 0 => ("SoundPress$Decoder", "tape", "LSoundPress$Bytes;", true)
  | 1 => ("SoundPress$Decoder", "side", "LSoundPress$Bytes;", true)
  | 2 => ("SoundPress$Decoder", "tapeBits", "LSoundPress$BitReader;", true)
  | 3 => ("SoundPress$Decoder", "sideBits", "LSoundPress$BitReader;", true)
  | _ => ("SoundPress$Decoder", "sheet", "LSoundPress$Sheet;", true)
def tyX3 : Nat → FieldType := fun k => match k with
  | 0 => .object "SoundPress$Bytes"
  | 1 => .object "SoundPress$Bytes"
  | 2 => .object "SoundPress$BitReader"
  | 3 => .object "SoundPress$BitReader"
  | _ => .object "SoundPress$Sheet"
theorem nmX3 : ∀ a, a < 5 → ∀ b, b < 5 → a ≠ b → (TX3 a).2.1 ≠ (TX3 b).2.1 := by decide +kernel
theorem tyX3_ok : ∀ k, k < 5 → parseFieldDescriptor (TX3 k).2.2.1 = some (tyX3 k) := by decide +kernel
abbrev cX3_init : ByteArray := prog_5_method_1_code
def yX3_init : MethodName := ⟨RX3, "<init>", "(LSoundPress$Bytes;LSoundPress$Bytes;LSoundPress$Sheet;)V"⟩
abbrev cX3_readFirst : ByteArray := prog_5_method_2_code
def yX3_readFirst : MethodName := ⟨RX3, "readFirst", "(LSoundPress$Work;)I"⟩
abbrev cX3_readHead : ByteArray := prog_5_method_3_code
def yX3_readHead : MethodName := ⟨RX3, "readHead", "(LSoundPress$Work;I)Z"⟩
abbrev cX3_areFlags : ByteArray := prog_5_method_4_code
def yX3_areFlags : MethodName := ⟨RX3, "areFlags", "(I)Z"⟩
abbrev cX3_readPlan : ByteArray := prog_5_method_5_code
def yX3_readPlan : MethodName := ⟨RX3, "readPlan", "(LSoundPress$Plan;I)Z"⟩
abbrev cX3_readBody : ByteArray := prog_5_method_6_code
def yX3_readBody : MethodName := ⟨RX3, "readBody", "(LSoundPress$Work;)I"⟩
abbrev cX3_passFrameOver : ByteArray := prog_5_method_7_code
def yX3_passFrameOver : MethodName := ⟨RX3, "passFrameOver", "(LSoundPress$Work;I)V"⟩
abbrev cX3_readFrame : ByteArray := prog_5_method_8_code
def yX3_readFrame : MethodName := ⟨RX3, "readFrame", "(LSoundPress$Work;I)I"⟩
abbrev cX3_readBounds : ByteArray := prog_5_method_9_code
def yX3_readBounds : MethodName := ⟨RX3, "readBounds", "(LSoundPress$Work;I)I"⟩
abbrev cX3_readSecond : ByteArray := prog_5_method_10_code
def yX3_readSecond : MethodName := ⟨RX3, "readSecond", "(LSoundPress$Work;)I"⟩
abbrev cX3_putRight : ByteArray := prog_5_method_11_code
def yX3_putRight : MethodName := ⟨RX3, "putRight", "(LSoundPress$Work;)Z"⟩
def RX4 : String := "SoundPress$Encoder"
def TX4 : u_T := fun k => match k with
  | 0 => ("SoundPress$Encoder", "first", "LSoundPress$Bytes;", true)
  | 1 => ("SoundPress$Encoder", "second", "LSoundPress$Bytes;", true)
  | 2 => ("SoundPress$Encoder", "firstBits", "LSoundPress$BitWriter;", true)
  | 3 => ("SoundPress$Encoder", "secondBits", "LSoundPress$BitWriter;", true)
  | _ => ("SoundPress$Encoder", "sheet", "LSoundPress$Sheet;", true)
def tyX4 : Nat → FieldType := fun k => match k with
  | 0 => .object "SoundPress$Bytes"
  | 1 => .object "SoundPress$Bytes"
  | 2 => .object "SoundPress$BitWriter"
  | 3 => .object "SoundPress$BitWriter"
  | _ => .object "SoundPress$Sheet"
theorem nmX4 : ∀ a, a < 5 → ∀ b, b < 5 → a ≠ b → (TX4 a).2.1 ≠ (TX4 b).2.1 := by decide +kernel
theorem tyX4_ok : ∀ k, k < 5 → parseFieldDescriptor (TX4 k).2.2.1 = some (tyX4 k) := by decide +kernel
abbrev cX4_init : ByteArray := prog_6_method_1_code
def yX4_init : MethodName := ⟨RX4, "<init>", "(LSoundPress$Bytes;LSoundPress$Bytes;LSoundPress$Sheet;)V"⟩
abbrev cX4_press : ByteArray := prog_6_method_2_code
def yX4_press : MethodName := ⟨RX4, "press", "(LSoundPress$Work;)V"⟩
abbrev cX4_writeHeads : ByteArray := prog_6_method_3_code
def yX4_writeHeads : MethodName := ⟨RX4, "writeHeads", "(LSoundPress$Work;)V"⟩
abbrev cX4_writeTails : ByteArray := prog_6_method_4_code
def yX4_writeTails : MethodName := ⟨RX4, "writeTails", "()V"⟩
abbrev cX4_foretellAll : ByteArray := prog_6_method_5_code
def yX4_foretellAll : MethodName := ⟨RX4, "foretellAll", "(LSoundPress$Work;)V"⟩
abbrev cX4_stillFrames : ByteArray := prog_6_method_6_code
def yX4_stillFrames : MethodName := ⟨RX4, "stillFrames", "(LSoundPress$Work;I)I"⟩
abbrev cX4_isStill : ByteArray := prog_6_method_7_code
def yX4_isStill : MethodName := ⟨RX4, "isStill", "(LSoundPress$Work;I)Z"⟩
abbrev cX4_writeFrame : ByteArray := prog_6_method_8_code
def yX4_writeFrame : MethodName := ⟨RX4, "writeFrame", "(LSoundPress$Work;I)V"⟩
abbrev cX4_writeRest : ByteArray := prog_6_method_9_code
def yX4_writeRest : MethodName := ⟨RX4, "writeRest", "(LSoundPress$Work;II)I"⟩
def RX5 : String := "SoundPress$Medians"
def TX5 : u_T := fun k => match k with
  | 0 => ("SoundPress$Medians", "middles", "[J", true)
  | 1 => ("SoundPress$Medians", "low", "J", false)
  | _ => ("SoundPress$Medians", "high", "J", false)
def tyX5 : Nat → FieldType := fun k => match k with
  | 0 => .array .long
  | 1 => .long
  | _ => .long
theorem nmX5 : ∀ a, a < 3 → ∀ b, b < 3 → a ≠ b → (TX5 a).2.1 ≠ (TX5 b).2.1 := by decide +kernel
theorem tyX5_ok : ∀ k, k < 3 → parseFieldDescriptor (TX5 k).2.2.1 = some (tyX5 k) := by decide +kernel
abbrev cX5_init : ByteArray := prog_7_method_1_code
def yX5_init : MethodName := ⟨RX5, "<init>", "()V"⟩
abbrev cX5_begin : ByteArray := prog_7_method_2_code
def yX5_begin : MethodName := ⟨RX5, "begin", "()V"⟩
abbrev cX5_middleOf : ByteArray := prog_7_method_3_code
def yX5_middleOf : MethodName := ⟨RX5, "middleOf", "(II)J"⟩
abbrev cX5_isQuiet : ByteArray := prog_7_method_4_code
def yX5_isQuiet : MethodName := ⟨RX5, "isQuiet", "(I)Z"⟩
abbrev cX5_onesOf : ByteArray := prog_7_method_5_code
def yX5_onesOf : MethodName := ⟨RX5, "onesOf", "(IJ)J"⟩
abbrev cX5_bound : ByteArray := prog_7_method_6_code
def yX5_bound : MethodName := ⟨RX5, "bound", "(IJ)V"⟩
abbrev cX5_mid : ByteArray := prog_7_method_7_code
def yX5_mid : MethodName := ⟨RX5, "mid", "()J"⟩
abbrev cX5_halve : ByteArray := prog_7_method_8_code
def yX5_halve : MethodName := ⟨RX5, "halve", "(Z)V"⟩
abbrev cX5_near : ByteArray := prog_7_method_9_code
def yX5_near : MethodName := ⟨RX5, "near", "(Z)I"⟩
abbrev cX5_share : ByteArray := prog_7_method_10_code
def yX5_share : MethodName := ⟨RX5, "share", "(II)J"⟩
abbrev cX5_move : ByteArray := prog_7_method_11_code
def yX5_move : MethodName := ⟨RX5, "move", "(IIZ)V"⟩
def RX6 : String := "SoundPress$Passes"
def TX6 : u_T := fun k => match k with
  | 0 => ("SoundPress$Passes", "plan", "LSoundPress$Plan;", true)
  | 1 => ("SoundPress$Passes", "weights", "[I", true)
  | 2 => ("SoundPress$Passes", "inputs", "[I", true)
  | 3 => ("SoundPress$Passes", "bases", "[I", true)
  | 4 => ("SoundPress$Passes", "guesses", "[I", true)
  | 5 => ("SoundPress$Passes", "coded", "I", false)
  | 6 => ("SoundPress$Passes", "frame", "I", false)
  | _ => ("SoundPress$Passes", "channel", "I", false)
def tyX6 : Nat → FieldType := fun k => match k with
  | 0 => .object "SoundPress$Plan"
  | 1 => .array .int
  | 2 => .array .int
  | 3 => .array .int
  | 4 => .array .int
  | 5 => .int
  | 6 => .int
  | _ => .int
theorem nmX6 : ∀ a, a < 8 → ∀ b, b < 8 → a ≠ b → (TX6 a).2.1 ≠ (TX6 b).2.1 := by decide +kernel
theorem tyX6_ok : ∀ k, k < 8 → parseFieldDescriptor (TX6 k).2.2.1 = some (tyX6 k) := by decide +kernel
abbrev cX6_init : ByteArray := prog_8_method_1_code
def yX6_init : MethodName := ⟨RX6, "<init>", "()V"⟩
abbrev cX6_begin : ByteArray := prog_8_method_2_code
def yX6_begin : MethodName := ⟨RX6, "begin", "(I)V"⟩
abbrev cX6_foretell : ByteArray := prog_8_method_3_code
def yX6_foretell : MethodName := ⟨RX6, "foretell", "(II)I"⟩
abbrev cX6_learn : ByteArray := prog_8_method_4_code
def yX6_learn : MethodName := ⟨RX6, "learn", "(I)I"⟩
abbrev cX6_weightOf : ByteArray := prog_8_method_5_code
def yX6_weightOf : MethodName := ⟨RX6, "weightOf", "(II)I"⟩
abbrev cX6_baseOf : ByteArray := prog_8_method_6_code
def yX6_baseOf : MethodName := ⟨RX6, "baseOf", "(II)I"⟩
abbrev cX6_moveWeight : ByteArray := prog_8_method_7_code
def yX6_moveWeight : MethodName := ⟨RX6, "moveWeight", "(II)V"⟩
abbrev cX6_track : ByteArray := prog_8_method_8_code
def yX6_track : MethodName := ⟨RX6, "track", "(II)I"⟩
abbrev cX6_slot : ByteArray := prog_8_method_9_code
def yX6_slot : MethodName := ⟨RX6, "slot", "(III)I"⟩
def RX7 : String := "SoundPress$Plan"
def TX7 : u_T := fun k => match k with
  | 0 => ("SoundPress$Plan", "terms", "[I", true)
  | 1 => ("SoundPress$Plan", "deltas", "[I", true)
  | _ => ("SoundPress$Plan", "number", "I", false)
def tyX7 : Nat → FieldType := fun k => match k with
  | 0 => .array .int
  | 1 => .array .int
  | _ => .int
theorem nmX7 : ∀ a, a < 3 → ∀ b, b < 3 → a ≠ b → (TX7 a).2.1 ≠ (TX7 b).2.1 := by decide +kernel
theorem tyX7_ok : ∀ k, k < 3 → parseFieldDescriptor (TX7 k).2.2.1 = some (tyX7 k) := by decide +kernel
abbrev cX7_init : ByteArray := prog_9_method_1_code
def yX7_init : MethodName := ⟨RX7, "<init>", "()V"⟩
abbrev cX7_add : ByteArray := prog_9_method_2_code
def yX7_add : MethodName := ⟨RX7, "add", "(II)Z"⟩
abbrev cX7_clear : ByteArray := prog_9_method_3_code
def yX7_clear : MethodName := ⟨RX7, "clear", "()V"⟩
abbrev cX7_copy : ByteArray := prog_9_method_4_code
def yX7_copy : MethodName := ⟨RX7, "copy", "(LSoundPress$Plan;)V"⟩
abbrev cX7_isTerm : ByteArray := prog_9_method_5_code
def yX7_isTerm : MethodName := ⟨RX7, "isTerm", "(I)Z"⟩
def RX8 : String := "SoundPress$Sheet"
def TX8 : u_T := fun k => match k with
  | 0 => ("SoundPress$Sheet", "values", "[I", true)
  | 1 => ("SoundPress$Sheet", "rests", "[I", true)
  | 2 => ("SoundPress$Sheet", "lows", "[J", true)
  | _ => ("SoundPress$Sheet", "spans", "[I", true)
def tyX8 : Nat → FieldType := fun k => match k with
  | 0 => .array .int
  | 1 => .array .int
  | 2 => .array .long
  | _ => .array .int
theorem nmX8 : ∀ a, a < 4 → ∀ b, b < 4 → a ≠ b → (TX8 a).2.1 ≠ (TX8 b).2.1 := by decide +kernel
theorem tyX8_ok : ∀ k, k < 4 → parseFieldDescriptor (TX8 k).2.2.1 = some (tyX8 k) := by decide +kernel
abbrev cX8_init : ByteArray := prog_10_method_1_code
def yX8_init : MethodName := ⟨RX8, "<init>", "()V"⟩
abbrev cX8_has : ByteArray := prog_10_method_2_code
def yX8_has : MethodName := ⟨RX8, "has", "(I)Z"⟩
abbrev cX8_valueAt : ByteArray := prog_10_method_3_code
def yX8_valueAt : MethodName := ⟨RX8, "valueAt", "(I)I"⟩
abbrev cX8_restAt : ByteArray := prog_10_method_4_code
def yX8_restAt : MethodName := ⟨RX8, "restAt", "(I)I"⟩
abbrev cX8_putRest : ByteArray := prog_10_method_5_code
def yX8_putRest : MethodName := ⟨RX8, "putRest", "(II)V"⟩
abbrev cX8_putRead : ByteArray := prog_10_method_6_code
def yX8_putRead : MethodName := ⟨RX8, "putRead", "(IIIJJ)V"⟩
abbrev cX8_fold : ByteArray := prog_10_method_7_code
def yX8_fold : MethodName := ⟨RX8, "fold", "(LSoundPress$Work;[I)V"⟩
abbrev cX8_unfold : ByteArray := prog_10_method_8_code
def yX8_unfold : MethodName := ⟨RX8, "unfold", "(LSoundPress$Work;[I)I"⟩
def RX9 : String := "SoundPress$Work"
def TX9 : u_T := fun k => match k with
  | 0 => ("SoundPress$Work", "passes", "LSoundPress$Passes;", true)
  | 1 => ("SoundPress$Work", "medians", "LSoundPress$Medians;", true)
  | 2 => ("SoundPress$Work", "channels", "I", false)
  | 3 => ("SoundPress$Work", "coded", "I", false)
  | 4 => ("SoundPress$Work", "frames", "I", false)
  | 5 => ("SoundPress$Work", "flags", "I", false)
  | 6 => ("SoundPress$Work", "shift", "I", false)
  | 7 => ("SoundPress$Work", "error", "I", false)
  | 8 => ("SoundPress$Work", "silences", "I", false)
  | 9 => ("SoundPress$Work", "passedOver", "I", false)
  | 10 => ("SoundPress$Work", "mostOnes", "I", false)
  | _ => ("SoundPress$Work", "mostOff", "I", false)
def tyX9 : Nat → FieldType := fun k => match k with
  | 0 => .object "SoundPress$Passes"
  | 1 => .object "SoundPress$Medians"
  | 2 => .int
  | 3 => .int
  | 4 => .int
  | 5 => .int
  | 6 => .int
  | 7 => .int
  | 8 => .int
  | 9 => .int
  | 10 => .int
  | _ => .int
theorem nmX9 : ∀ a, a < 12 → ∀ b, b < 12 → a ≠ b → (TX9 a).2.1 ≠ (TX9 b).2.1 := by decide +kernel
theorem tyX9_ok : ∀ k, k < 12 → parseFieldDescriptor (TX9 k).2.2.1 = some (tyX9 k) := by decide +kernel
abbrev cX9_init : ByteArray := prog_11_method_1_code
def yX9_init : MethodName := ⟨RX9, "<init>", "()V"⟩
abbrev cX9_begin : ByteArray := prog_11_method_2_code
def yX9_begin : MethodName := ⟨RX9, "begin", "(IIII)V"⟩
abbrev cX9_mayBeSilent : ByteArray := prog_11_method_3_code
def yX9_mayBeSilent : MethodName := ⟨RX9, "mayBeSilent", "()Z"⟩
abbrev cX9_noteSilence : ByteArray := prog_11_method_4_code
def yX9_noteSilence : MethodName := ⟨RX9, "noteSilence", "(I)V"⟩
abbrev cX9_noteOnes : ByteArray := prog_11_method_5_code
def yX9_noteOnes : MethodName := ⟨RX9, "noteOnes", "(J)V"⟩
abbrev cX9_noteOff : ByteArray := prog_11_method_6_code
def yX9_noteOff : MethodName := ⟨RX9, "noteOff", "(I)V"⟩
abbrev cX9_tell : ByteArray := prog_11_method_7_code
def yX9_tell : MethodName := ⟨RX9, "tell", "(I)I"⟩
def RX10 : String := "SoundPress"
def TX10 : u_T := fun k => match k with
  | 0 => ("SoundPress", "numbers", "[I", true)
  | 1 => ("SoundPress", "length", "I", false)
  | 2 => ("SoundPress", "plan", "LSoundPress$Plan;", true)
  | 3 => ("SoundPress", "tape", "LSoundPress$Bytes;", true)
  | 4 => ("SoundPress", "side", "LSoundPress$Bytes;", true)
  | 5 => ("SoundPress", "first", "LSoundPress$Bytes;", true)
  | 6 => ("SoundPress", "second", "LSoundPress$Bytes;", true)
  | 7 => ("SoundPress", "encoder", "LSoundPress$Encoder;", true)
  | 8 => ("SoundPress", "decoder", "LSoundPress$Decoder;", true)
  | 9 => ("SoundPress", "last", "LSoundPress$Work;", false)
  | _ => ("SoundPress", "spare", "LSoundPress$Work;", false)
def tyX10 : Nat → FieldType := fun k => match k with
  | 0 => .array .int
  | 1 => .int
  | 2 => .object "SoundPress$Plan"
  | 3 => .object "SoundPress$Bytes"
  | 4 => .object "SoundPress$Bytes"
  | 5 => .object "SoundPress$Bytes"
  | 6 => .object "SoundPress$Bytes"
  | 7 => .object "SoundPress$Encoder"
  | 8 => .object "SoundPress$Decoder"
  | 9 => .object "SoundPress$Work"
  | _ => .object "SoundPress$Work"
theorem nmX10 : ∀ a, a < 11 → ∀ b, b < 11 → a ≠ b → (TX10 a).2.1 ≠ (TX10 b).2.1 := by decide +kernel
theorem tyX10_ok : ∀ k, k < 11 → parseFieldDescriptor (TX10 k).2.2.1 = some (tyX10 k) := by decide +kernel
abbrev cX10_init : ByteArray := prog_1_method_1_code
def yX10_init : MethodName := ⟨RX10, "<init>", "()V"⟩
abbrev cX10_say : ByteArray := prog_1_method_2_code
def yX10_say : MethodName := ⟨RX10, "say", "(IIIII)I"⟩
abbrev cX10_cut : ByteArray := prog_1_method_3_code
def yX10_cut : MethodName := ⟨RX10, "cut", "(I)Z"⟩
abbrev cX10_row : ByteArray := prog_1_method_4_code
def yX10_row : MethodName := ⟨RX10, "row", "(I)I"⟩
abbrev cX10_rows : ByteArray := prog_1_method_5_code
def yX10_rows : MethodName := ⟨RX10, "rows", "()I"⟩
abbrev cX10_pass : ByteArray := prog_1_method_6_code
def yX10_pass : MethodName := ⟨RX10, "pass", "(II)I"⟩
abbrev cX10_unpass : ByteArray := prog_1_method_7_code
def yX10_unpass : MethodName := ⟨RX10, "unpass", "()I"⟩
abbrev cX10_encode : ByteArray := prog_1_method_8_code
def yX10_encode : MethodName := ⟨RX10, "encode", "(IZI)I"⟩
abbrev cX10_size : ByteArray := prog_1_method_9_code
def yX10_size : MethodName := ⟨RX10, "size", "(I)I"⟩
abbrev cX10_out : ByteArray := prog_1_method_10_code
def yX10_out : MethodName := ⟨RX10, "out", "(II)I"⟩
abbrev cX10_feed : ByteArray := prog_1_method_11_code
def yX10_feed : MethodName := ⟨RX10, "feed", "(IIII)I"⟩
abbrev cX10_end : ByteArray := prog_1_method_12_code
def yX10_end : MethodName := ⟨RX10, "end", "(II)Z"⟩
abbrev cX10_take : ByteArray := prog_1_method_13_code
def yX10_take : MethodName := ⟨RX10, "take", "(I)I"⟩
abbrev cX10_harm : ByteArray := prog_1_method_14_code
def yX10_harm : MethodName := ⟨RX10, "harm", "(III)Z"⟩
abbrev cX10_seal : ByteArray := prog_1_method_15_code
def yX10_seal : MethodName := ⟨RX10, "seal", "(I)Z"⟩
abbrev cX10_decode : ByteArray := prog_1_method_16_code
def yX10_decode : MethodName := ⟨RX10, "decode", "()I"⟩
abbrev cX10_decodeBoth : ByteArray := prog_1_method_17_code
def yX10_decodeBoth : MethodName := ⟨RX10, "decodeBoth", "()I"⟩
abbrev cX10_look : ByteArray := prog_1_method_18_code
def yX10_look : MethodName := ⟨RX10, "look", "(I)I"⟩
abbrev cX10_weight : ByteArray := prog_1_method_19_code
def yX10_weight : MethodName := ⟨RX10, "weight", "(II)I"⟩
abbrev cX10_median : ByteArray := prog_1_method_20_code
def yX10_median : MethodName := ⟨RX10, "median", "(II)J"⟩
abbrev cX10_count : ByteArray := prog_1_method_21_code
def yX10_count : MethodName := ⟨RX10, "count", "(I)I"⟩
abbrev cX10_fed : ByteArray := prog_1_method_22_code
def yX10_fed : MethodName := ⟨RX10, "fed", "(I)LSoundPress$Bytes;"⟩
abbrev cX10_pressed : ByteArray := prog_1_method_23_code
def yX10_pressed : MethodName := ⟨RX10, "pressed", "(I)LSoundPress$Bytes;"⟩
abbrev cX10_isSound : ByteArray := prog_1_method_24_code
def yX10_isSound : MethodName := ⟨RX10, "isSound", "(I)Z"⟩
abbrev cX10_isTwin : ByteArray := prog_1_method_25_code
def yX10_isTwin : MethodName := ⟨RX10, "isTwin", "()Z"⟩
abbrev cX10_commonShift : ByteArray := prog_1_method_26_code
def yX10_commonShift : MethodName := ⟨RX10, "commonShift", "()I"⟩
abbrev cX10_keepSound : ByteArray := prog_1_method_27_code
def yX10_keepSound : MethodName := ⟨RX10, "keepSound", "()I"⟩
abbrev cX10_keepSpare : ByteArray := prog_1_method_28_code
def yX10_keepSpare : MethodName := ⟨RX10, "keepSpare", "()V"⟩
abbrev cX10_highestBit : ByteArray := prog_1_method_29_code
def yX10_highestBit : MethodName := ⟨RX10, "highestBit", "(J)I"⟩
def RX11 : String := "SoundPressModel"
def TX11 : u_T := fun k => match k with
  | 0 => ("SoundPressModel", "row", "[I", true)
  | 1 => ("SoundPressModel", "rows", "I", false)
  | 2 => ("SoundPressModel", "terms", "[I", true)
  | 3 => ("SoundPressModel", "deltas", "[I", true)
  | 4 => ("SoundPressModel", "passes", "I", false)
  | 5 => ("SoundPressModel", "tapes", "[B", true)
  | 6 => ("SoundPressModel", "taped", "[I", true)
  | 7 => ("SoundPressModel", "first", "[B", true)
  | 8 => ("SoundPressModel", "second", "[B", true)
  | 9 => ("SoundPressModel", "firstMany", "I", false)
  | 10 => ("SoundPressModel", "secondMany", "I", false)
  | 11 => ("SoundPressModel", "seen", "[I", true)
  | 12 => ("SoundPressModel", "seenWeights", "[I", true)
  | 13 => ("SoundPressModel", "seenMedians", "[J", true)
  | 14 => ("SoundPressModel", "planned", "I", false)
  | 15 => ("SoundPressModel", "channels", "I", false)
  | 16 => ("SoundPressModel", "term", "[I", true)
  | 17 => ("SoundPressModel", "delta", "[I", true)
  | 18 => ("SoundPressModel", "weights", "[I", true)
  | 19 => ("SoundPressModel", "inputs", "[I", true)
  | 20 => ("SoundPressModel", "guesses", "[I", true)
  | 21 => ("SoundPressModel", "bases", "[I", true)
  | 22 => ("SoundPressModel", "keptWeights", "[I", true)
  | 23 => ("SoundPressModel", "keptInputs", "[I", true)
  | 24 => ("SoundPressModel", "medians", "[J", true)
  | 25 => ("SoundPressModel", "silences", "I", false)
  | 26 => ("SoundPressModel", "passedOver", "I", false)
  | 27 => ("SoundPressModel", "greatestOnes", "J", false)
  | 28 => ("SoundPressModel", "low", "J", false)
  | 29 => ("SoundPressModel", "high", "J", false)
  | 30 => ("SoundPressModel", "bits", "[B", true)
  | 31 => ("SoundPressModel", "bitMany", "I", false)
  | 32 => ("SoundPressModel", "bitAt", "I", false)
  | 33 => ("SoundPressModel", "bitEnd", "I", false)
  | 34 => ("SoundPressModel", "sideBits", "[B", true)
  | 35 => ("SoundPressModel", "sideMany", "I", false)
  | 36 => ("SoundPressModel", "error", "I", false)
  | 37 => ("SoundPressModel", "shift", "I", false)
  | 38 => ("SoundPressModel", "frames", "I", false)
  | 39 => ("SoundPressModel", "flags", "I", false)
  | 40 => ("SoundPressModel", "greatest", "I", false)
  | 41 => ("SoundPressModel", "coded", "[I", true)
  | 42 => ("SoundPressModel", "fault", "I", false)
  | 43 => ("SoundPressModel", "read", "[B", true)
  | 44 => ("SoundPressModel", "lows", "[J", true)
  | 45 => ("SoundPressModel", "highs", "[J", true)
  | 46 => ("SoundPressModel", "restsTaken", "[J", true)
  | 47 => ("SoundPressModel", "isBelow", "[Z", true)
  | 48 => ("SoundPressModel", "isWritten", "[Z", true)
  | _ => ("SoundPressModel", "five", "[I", true)
def tyX11 : Nat → FieldType := fun k => match k with
  | 0 => .array .int
  | 1 => .int
  | 2 => .array .int
  | 3 => .array .int
  | 4 => .int
  | 5 => .array .byte
  | 6 => .array .int
  | 7 => .array .byte
  | 8 => .array .byte
  | 9 => .int
  | 10 => .int
  | 11 => .array .int
  | 12 => .array .int
  | 13 => .array .long
  | 14 => .int
  | 15 => .int
  | 16 => .array .int
  | 17 => .array .int
  | 18 => .array .int
  | 19 => .array .int
  | 20 => .array .int
  | 21 => .array .int
  | 22 => .array .int
  | 23 => .array .int
  | 24 => .array .long
  | 25 => .int
  | 26 => .int
  | 27 => .long
  | 28 => .long
  | 29 => .long
  | 30 => .array .byte
  | 31 => .int
  | 32 => .int
  | 33 => .int
  | 34 => .array .byte
  | 35 => .int
  | 36 => .int
  | 37 => .int
  | 38 => .int
  | 39 => .int
  | 40 => .int
  | 41 => .array .int
  | 42 => .int
  | 43 => .array .byte
  | 44 => .array .long
  | 45 => .array .long
  | 46 => .array .long
  | 47 => .array .boolean
  | 48 => .array .boolean
  | _ => .array .int
theorem nmX11 : ∀ a, a < 50 → ∀ b, b < 50 → a ≠ b → (TX11 a).2.1 ≠ (TX11 b).2.1 := by decide +kernel
theorem tyX11_ok : ∀ k, k < 50 → parseFieldDescriptor (TX11 k).2.2.1 = some (tyX11 k) := by decide +kernel
abbrev cX11_init : ByteArray := prog_13_method_1_code
def yX11_init : MethodName := ⟨RX11, "<init>", "()V"⟩
abbrev cX11_crc : ByteArray := prog_13_method_2_code
def yX11_crc : MethodName := ⟨RX11, "crc", "([BII)I"⟩
abbrev cX11_intAt : ByteArray := prog_13_method_3_code
def yX11_intAt : MethodName := ⟨RX11, "intAt", "([BI)I"⟩
abbrev cX11_putInt : ByteArray := prog_13_method_4_code
def yX11_putInt : MethodName := ⟨RX11, "putInt", "([BII)V"⟩
abbrev cX11_begins : ByteArray := prog_13_method_5_code
def yX11_begins : MethodName := ⟨RX11, "begins", "()V"⟩
abbrev cX11_keeps : ByteArray := prog_13_method_6_code
def yX11_keeps : MethodName := ⟨RX11, "keeps", "()V"⟩
abbrev cX11_brings : ByteArray := prog_13_method_7_code
def yX11_brings : MethodName := ⟨RX11, "brings", "()V"⟩
abbrev cX11_input : ByteArray := prog_13_method_8_code
def yX11_input : MethodName := ⟨RX11, "input", "(III)I"⟩
abbrev cX11_base : ByteArray := prog_13_method_9_code
def yX11_base : MethodName := ⟨RX11, "base", "(II)I"⟩
abbrev cX11_foretells : ByteArray := prog_13_method_10_code
def yX11_foretells : MethodName := ⟨RX11, "foretells", "(I)I"⟩
abbrev cX11_learns : ByteArray := prog_13_method_11_code
def yX11_learns : MethodName := ⟨RX11, "learns", "(II)I"⟩
abbrev cX11_rises : ByteArray := prog_13_method_12_code
def yX11_rises : MethodName := ⟨RX11, "rises", "(II)V"⟩
abbrev cX11_falls : ByteArray := prog_13_method_13_code
def yX11_falls : MethodName := ⟨RX11, "falls", "(II)V"⟩
abbrev cX11_step : ByteArray := prog_13_method_14_code
def yX11_step : MethodName := ⟨RX11, "step", "(II)J"⟩
abbrev cX11_bounds : ByteArray := prog_13_method_15_code
def yX11_bounds : MethodName := ⟨RX11, "bounds", "(IJ)V"⟩
abbrev cX11_middle : ByteArray := prog_13_method_16_code
def yX11_middle : MethodName := ⟨RX11, "middle", "(JJ)J"⟩
abbrev cX11_maySilent : ByteArray := prog_13_method_17_code
def yX11_maySilent : MethodName := ⟨RX11, "maySilent", "()Z"⟩
abbrev cX11_bit : ByteArray := prog_13_method_18_code
def yX11_bit : MethodName := ⟨RX11, "bit", "(I)V"⟩
abbrev cX11_bits : ByteArray := prog_13_method_19_code
def yX11_bits : MethodName := ⟨RX11, "bits", "(JI)V"⟩
abbrev cX11_length : ByteArray := prog_13_method_20_code
def yX11_length : MethodName := ⟨RX11, "length", "(J)I"⟩
abbrev cX11_putG : ByteArray := prog_13_method_21_code
def yX11_putG : MethodName := ⟨RX11, "putG", "(J)V"⟩
abbrev cX11_putSide : ByteArray := prog_13_method_22_code
def yX11_putSide : MethodName := ⟨RX11, "putSide", "(JI)V"⟩
abbrev cX11_putT : ByteArray := prog_13_method_23_code
def yX11_putT : MethodName := ⟨RX11, "putT", "(JJ)V"⟩
abbrev cX11_isSound : ByteArray := prog_13_method_24_code
def yX11_isSound : MethodName := ⟨RX11, "isSound", "(I)Z"⟩
abbrev cX11_shiftOf : ByteArray := prog_13_method_25_code
def yX11_shiftOf : MethodName := ⟨RX11, "shiftOf", "()I"⟩
abbrev cX11_areTwins : ByteArray := prog_13_method_26_code
def yX11_areTwins : MethodName := ⟨RX11, "areTwins", "()Z"⟩
abbrev cX11_readies : ByteArray := prog_13_method_27_code
def yX11_readies : MethodName := ⟨RX11, "readies", "(IZ)V"⟩
abbrev cX11_isSilent : ByteArray := prog_13_method_28_code
def yX11_isSilent : MethodName := ⟨RX11, "isSilent", "(I)Z"⟩
abbrev cX11_codes : ByteArray := prog_13_method_29_code
def yX11_codes : MethodName := ⟨RX11, "codes", "(II)V"⟩
abbrev cX11_codesAll : ByteArray := prog_13_method_30_code
def yX11_codesAll : MethodName := ⟨RX11, "codesAll", "()V"⟩
abbrev cX11_tellsSilence : ByteArray := prog_13_method_31_code
def yX11_tellsSilence : MethodName := ⟨RX11, "tellsSilence", "(I)V"⟩
abbrev cX11_packs : ByteArray := prog_13_method_32_code
def yX11_packs : MethodName := ⟨RX11, "packs", "([BI[BI)I"⟩
abbrev cX11_closes : ByteArray := prog_13_method_33_code
def yX11_closes : MethodName := ⟨RX11, "closes", "([BI)I"⟩
abbrev cX11_heads : ByteArray := prog_13_method_34_code
def yX11_heads : MethodName := ⟨RX11, "heads", "()I"⟩
abbrev cX11_encode : ByteArray := prog_13_method_35_code
def yX11_encode : MethodName := ⟨RX11, "encode", "(IZI)I"⟩
abbrev cX11_tells : ByteArray := prog_13_method_36_code
def yX11_tells : MethodName := ⟨RX11, "tells", "()V"⟩
abbrev cX11_wrong : ByteArray := prog_13_method_37_code
def yX11_wrong : MethodName := ⟨RX11, "wrong", "(I)Z"⟩
abbrev cX11_next : ByteArray := prog_13_method_38_code
def yX11_next : MethodName := ⟨RX11, "next", "(I)I"⟩
abbrev cX11_next_ : ByteArray := prog_13_method_39_code
def yX11_next_ : MethodName := ⟨RX11, "next", "(II)J"⟩
abbrev cX11_nextG : ByteArray := prog_13_method_40_code
def yX11_nextG : MethodName := ⟨RX11, "nextG", "()J"⟩
abbrev cX11_isTerm : ByteArray := prog_13_method_41_code
def yX11_isTerm : MethodName := ⟨RX11, "isTerm", "(I)Z"⟩
abbrev cX11_opens : ByteArray := prog_13_method_42_code
def yX11_opens : MethodName := ⟨RX11, "opens", "(I)Z"⟩
abbrev cX11_reads : ByteArray := prog_13_method_43_code
def yX11_reads : MethodName := ⟨RX11, "reads", "(II)V"⟩
abbrev cX11_passesOver : ByteArray := prog_13_method_44_code
def yX11_passesOver : MethodName := ⟨RX11, "passesOver", "(I)V"⟩
abbrev cX11_readsFirst : ByteArray := prog_13_method_45_code
def yX11_readsFirst : MethodName := ⟨RX11, "readsFirst", "(I)Z"⟩
abbrev cX11_isRest : ByteArray := prog_13_method_46_code
def yX11_isRest : MethodName := ⟨RX11, "isRest", "(I)Z"⟩
abbrev cX11_nextT : ByteArray := prog_13_method_47_code
def yX11_nextT : MethodName := ⟨RX11, "nextT", "(J)J"⟩
abbrev cX11_readsSecond : ByteArray := prog_13_method_48_code
def yX11_readsSecond : MethodName := ⟨RX11, "readsSecond", "(II)Z"⟩
abbrev cX11_puts : ByteArray := prog_13_method_49_code
def yX11_puts : MethodName := ⟨RX11, "puts", "()V"⟩
abbrev cX11_decodes : ByteArray := prog_13_method_50_code
def yX11_decodes : MethodName := ⟨RX11, "decodes", "(Z)I"⟩
abbrev cX11_decode : ByteArray := prog_13_method_51_code
def yX11_decode : MethodName := ⟨RX11, "decode", "()I"⟩
abbrev cX11_decodeBoth : ByteArray := prog_13_method_52_code
def yX11_decodeBoth : MethodName := ⟨RX11, "decodeBoth", "()I"⟩
abbrev cX11_say : ByteArray := prog_13_method_53_code
def yX11_say : MethodName := ⟨RX11, "say", "(IIIII)I"⟩
abbrev cX11_cut : ByteArray := prog_13_method_54_code
def yX11_cut : MethodName := ⟨RX11, "cut", "(I)Z"⟩
abbrev cX11_row : ByteArray := prog_13_method_55_code
def yX11_row : MethodName := ⟨RX11, "row", "(I)I"⟩
abbrev cX11_rows : ByteArray := prog_13_method_56_code
def yX11_rows : MethodName := ⟨RX11, "rows", "()I"⟩
abbrev cX11_pass : ByteArray := prog_13_method_57_code
def yX11_pass : MethodName := ⟨RX11, "pass", "(II)I"⟩
abbrev cX11_unpass : ByteArray := prog_13_method_58_code
def yX11_unpass : MethodName := ⟨RX11, "unpass", "()I"⟩
abbrev cX11_noWhich : ByteArray := prog_13_method_59_code
def yX11_noWhich : MethodName := ⟨RX11, "noWhich", "(I)Z"⟩
abbrev cX11_size : ByteArray := prog_13_method_60_code
def yX11_size : MethodName := ⟨RX11, "size", "(I)I"⟩
abbrev cX11_out : ByteArray := prog_13_method_61_code
def yX11_out : MethodName := ⟨RX11, "out", "(II)I"⟩
abbrev cX11_feed : ByteArray := prog_13_method_62_code
def yX11_feed : MethodName := ⟨RX11, "feed", "(IIII)I"⟩
abbrev cX11_end : ByteArray := prog_13_method_63_code
def yX11_end : MethodName := ⟨RX11, "end", "(II)Z"⟩
abbrev cX11_take : ByteArray := prog_13_method_64_code
def yX11_take : MethodName := ⟨RX11, "take", "(I)I"⟩
abbrev cX11_harm : ByteArray := prog_13_method_65_code
def yX11_harm : MethodName := ⟨RX11, "harm", "(III)Z"⟩
abbrev cX11_seal : ByteArray := prog_13_method_66_code
def yX11_seal : MethodName := ⟨RX11, "seal", "(I)Z"⟩
abbrev cX11_look : ByteArray := prog_13_method_67_code
def yX11_look : MethodName := ⟨RX11, "look", "(I)I"⟩
abbrev cX11_weight : ByteArray := prog_13_method_68_code
def yX11_weight : MethodName := ⟨RX11, "weight", "(II)I"⟩
abbrev cX11_median : ByteArray := prog_13_method_69_code
def yX11_median : MethodName := ⟨RX11, "median", "(II)J"⟩
abbrev cX11_count : ByteArray := prog_13_method_70_code
def yX11_count : MethodName := ⟨RX11, "count", "(I)I"⟩
def RJ6 : String := "java/lang/Integer"
def TJ6 : u_T := fun k => match k with
  | _ => ("", "", "", false)
def tyJ6 : Nat → FieldType := fun k => match k with
  | _ => .int
theorem nmJ6 : ∀ a, a < 0 → ∀ b, b < 0 → a ≠ b → (TJ6 a).2.1 ≠ (TJ6 b).2.1 := by decide +kernel
theorem tyJ6_ok : ∀ k, k < 0 → parseFieldDescriptor (TJ6 k).2.2.1 = some (tyJ6 k) := by decide +kernel
abbrev cJ6_numberOfLeadingZeros_0f7a4 : ByteArray := prog_14_method_47_code
def yJ6_numberOfLeadingZeros_0f7a4 : MethodName := ⟨RJ6, "numberOfLeadingZeros", "(I)I"⟩
abbrev cJ6_numberOfTrailingZeros_0f7a4 : ByteArray := prog_14_method_48_code
def yJ6_numberOfTrailingZeros_0f7a4 : MethodName := ⟨RJ6, "numberOfTrailingZeros", "(I)I"⟩
def RJ13 : String := "java/lang/Long"
def TJ13 : u_T := fun k => match k with
  | _ => ("", "", "", false)
def tyJ13 : Nat → FieldType := fun k => match k with
  | _ => .int
theorem nmJ13 : ∀ a, a < 0 → ∀ b, b < 0 → a ≠ b → (TJ13 a).2.1 ≠ (TJ13 b).2.1 := by decide +kernel
theorem tyJ13_ok : ∀ k, k < 0 → parseFieldDescriptor (TJ13 k).2.2.1 = some (tyJ13 k) := by decide +kernel
abbrev cJ13_numberOfLeadingZeros_95d88 : ByteArray := prog_15_method_48_code
def yJ13_numberOfLeadingZeros_95d88 : MethodName := ⟨RJ13, "numberOfLeadingZeros", "(J)I"⟩
def RJ9 : String := "java/lang/Math"
def TJ9 : u_T := fun k => match k with
  | _ => ("", "", "", false)
def tyJ9 : Nat → FieldType := fun k => match k with
  | _ => .int
theorem nmJ9 : ∀ a, a < 0 → ∀ b, b < 0 → a ≠ b → (TJ9 a).2.1 ≠ (TJ9 b).2.1 := by decide +kernel
theorem tyJ9_ok : ∀ k, k < 0 → parseFieldDescriptor (TJ9 k).2.2.1 = some (tyJ9 k) := by decide +kernel
abbrev cJ9_abs_0f7a4 : ByteArray := prog_16_method_59_code
def yJ9_abs_0f7a4 : MethodName := ⟨RJ9, "abs", "(I)I"⟩
abbrev cJ9_max_7cf53 : ByteArray := prog_16_method_65_code
def yJ9_max_7cf53 : MethodName := ⟨RJ9, "max", "(II)I"⟩
abbrev cJ9_max_f86c9 : ByteArray := prog_16_method_66_code
def yJ9_max_f86c9 : MethodName := ⟨RJ9, "max", "(JJ)J"⟩
abbrev cJ9_min_7cf53 : ByteArray := prog_16_method_69_code
def yJ9_min_7cf53 : MethodName := ⟨RJ9, "min", "(II)I"⟩
abbrev cJ9_min_f86c9 : ByteArray := prog_16_method_70_code
def yJ9_min_f86c9 : MethodName := ⟨RJ9, "min", "(JJ)J"⟩
def RJ10 : String := "java/lang/System"
def TJ10 : u_T := fun k => match k with
  | _ => ("", "", "", false)
def tyJ10 : Nat → FieldType := fun k => match k with
  | _ => .int
theorem nmJ10 : ∀ a, a < 0 → ∀ b, b < 0 → a ≠ b → (TJ10 a).2.1 ≠ (TJ10 b).2.1 := by decide +kernel
theorem tyJ10_ok : ∀ k, k < 0 → parseFieldDescriptor (TJ10 k).2.2.1 = some (tyJ10 k) := by decide +kernel
def RJ7 : String := "java/util/Arrays"
def TJ7 : u_T := fun k => match k with
  | _ => ("", "", "", false)
def tyJ7 : Nat → FieldType := fun k => match k with
  | _ => .int
theorem nmJ7 : ∀ a, a < 0 → ∀ b, b < 0 → a ≠ b → (TJ7 a).2.1 ≠ (TJ7 b).2.1 := by decide +kernel
theorem tyJ7_ok : ∀ k, k < 0 → parseFieldDescriptor (TJ7 k).2.2.1 = some (tyJ7 k) := by decide +kernel
abbrev cJ7_fill_d0a16 : ByteArray := prog_18_method_101_code
def yJ7_fill_d0a16 : MethodName := ⟨RJ7, "fill", "([JJ)V"⟩
abbrev cJ7_fill_53178 : ByteArray := prog_18_method_103_code
def yJ7_fill_53178 : MethodName := ⟨RJ7, "fill", "([II)V"⟩
def RL : String := "SoundPressLaw"
abbrev cL_law : ByteArray := code
def yL_law : MethodName := ⟨RL, "law", "([I)Z"⟩
abbrev vwCl : List vw_C := [(RX0, TX0, 4), (RX1, TX1, 3), (RX2, TX2, 2), (RX3, TX3, 5), (RX4, TX4, 5), (RX5, TX5, 3), (RX6, TX6, 8), (RX7, TX7, 3), (RX8, TX8, 4), (RX9, TX9, 12), (RX10, TX10, 11), (RX11, TX11, 50)]
abbrev NEST_R : Nat := 34
abbrev NEST_W : Nat := 36
abbrev NEST_B : Nat := 39
end
section
/-! THE LAYER. E: launch, class numbers and slots, array classes (0 int, 1 byte, 2 boolean, 3 long), the address of the static table. X: one frame's fixed things. G: from here the frame comes to its end. Bd: what is fixed of the frame. Ev: a method's contract, any end that Q allows. -/
abbrev g_E : Type := Launch × va_G × (Nat → ClassId) × Nat
abbrev g_X : Type := Program × Env × State × MethodId × Array Value × List Frame × Method × Code × Room × (Nat → Prop) × (State → Prop)
abbrev g_M : Type := MethodName × ByteArray × Nat × Option FieldType
abbrev g_ty (E : g_E) : List (ClassId × FieldType) := [(E.2.2.1 0, .int), (E.2.2.1 1, .byte), (E.2.2.1 2, .boolean), (E.2.2.1 3, .long)]
abbrev g_cw (M : g_M) : Cond := Cond.code M.1 M.2.1 M.2.2.1 M.2.2.2
def g_tbl : List Cond := lw_tbl.filter goodWord
theorem g_tbl_in {w : Cond} (i : Nat) (h : lw_tbl[i]? = some w) (hg : goodWord w = true) : w ∈ g_tbl := List.mem_filter.mpr ⟨List.mem_of_getElem? h, hg⟩
def g_w (M : g_M) : List Cond := g_cw M :: g_tbl
/-- the words about nest mates, which are not among those that keep by themselves -/
def g_N (U : State) : Prop := va_Nw (.methodLinkNest "SoundPress$BitReader" NEST_R yX10_highestBit "SoundPress") U ∧ va_Nw (.methodLinkNest "SoundPress$BitWriter" NEST_W yX10_highestBit "SoundPress") U ∧ va_Nw (.fieldLinkNest "SoundPress$Bytes" NEST_B "SoundPress" "CRC_STEPS" "[I" "SoundPress") U
theorem g_N.warm {s U : State} (hW : s.WarmedH U.vm) (h : g_N s) : g_N U := ⟨h.1.warmM hW, h.2.1.warmM hW, h.2.2.warmF hW⟩
theorem g_N.same {u U : State} (e : u.vm = U.vm) (h : g_N u) : g_N U := ⟨va_Nw.same rfl e h.1, va_Nw.same rfl e h.2.1, va_Nw.same rfl e h.2.2⟩
def g_crc : List Int32 := [0x00000000, 0x1db71064, 0x3b6e20c8, 0x26d930ac, 0x76dc4190, 0x6b6b51f4, 0x4db26158, 0x5005713c, 0xedb88320, 0xf00f9344, 0xd6d6a3e8, 0xcb61b38c, 0x9b64c2b0, 0x86d3d2d4, 0xa00ae278, 0xbdbdf21c]
/-- the one static table: where it stands, what it holds; nothing in A touches it -/
def g_St (E : g_E) (A : Nat → Prop) (U : State) (H : Heap) : Prop := va_Z "SoundPress" "CRC_STEPS" "[I" (.ref E.2.2.2) A U H ∧ va_T .int E.2.2.2 16 (fun j => .int (g_crc.getD j 0)) A U H
def G (E : g_E) (X : g_X) (nL : Nat) (ws : va_W) (nc ns : Nat) (lv : List (Nat × Value)) (pc : Nat) (st : List Value) : Prop := match X with
  | (p, e, s, m, args, below, meth, c, R, A, Q) => ∀ (H : Heap) (locs : List Loc) (ls : Array Slot), va_P E.2.1 vwCl ws H → va_D A ws → va_S A s.heap H locs → lv_has ls nL lv → W p E.1 e R s m args below meth c H locs nc ns Q (F0 m pc ls st)
def Bd (E : g_E) (X : g_X) (cc : ByteArray) (own : String) (nL fr lo mc ms : Nat) : Prop := match X with
  | (p, _, s, m, args, _, meth, c, R, A, _) => p.tables.exec = Jvm.exec ∧ c.code = cc ∧ c.maxLocals = nL ∧ s.vm.findClass own = some m.cls ∧ (∀ w ∈ g_tbl, w.before args s = true) ∧ va_K E.2.1 vwCl (g_ty E) s ∧ (∀ q, s.heap.size ≤ q → A q) ∧ g_St E A s s.heap ∧ g_N s ∧ meth.locks = false ∧ R = { frames := fr, cells := mc, slots := ms, locals := lo }
def g_Qc (E : g_E) (Q : Option Value → va_W → Prop) (A : Nat → Prop) : Array Value → State → Outcome → State → Prop := fun _ st oc t => (∃ (v : Option Value) (w : va_W), oc = .returned v ∧ Q v w ∧ va_P E.2.1 vwCl w t.heap ∧ va_K E.2.1 vwCl (g_ty E) t ∧ va_D A w) ∧ va_F A st t
/-- how the frame ends -/
def Rt (E : g_E) (X : g_X) (ret : Option FieldType) (mc ms : Nat) (Q : Option Value → va_W → Prop) : Prop := match X with
  | (_, _, s, _, args, below, meth, _, _, A, QQ) => meth.sig.returnType = ret ∧ QQ = MQ below (g_Qc E Q A) args s mc ms A
def In (X : g_X) : Prop := match X with
  | (_, _, _, _, _, _, meth, _, _, _, _) => meth.name = "<init>"
def Ev (E : g_E) (M : g_M) (fr lo mc ms : Nat) (args : List Value) (ws : va_W) (Q : Option Value → va_W → Prop) : Prop :=
  ∀ sz : Nat, Met E.1 M.1 (g_w M) { frames := fr, cells := mc, slots := ms, locals := lo } (va_Pc args (fun U => U.heap.size = sz ∧ va_P E.2.1 vwCl ws U.heap ∧ va_K E.2.1 vwCl (g_ty E) U ∧ va_D (fun _ => True) ws ∧ g_St E (va_A ws sz) U U.heap ∧ g_N U)) (g_Qc E Q (va_A ws sz)) mc ms (va_A ws sz)
theorem g_St.moved {E : g_E} {A : Nat → Prop} {u U : State} {H : Heap} (hvm : u.vm.Alike U.vm) (h : g_St E A u H) : g_St E A U H := ⟨h.1.moved hvm, h.2.moved hvm⟩
theorem g_St.kept {E : g_E} {A : Nat → Prop} {U : State} {H H1 : Heap} (h : g_St E A U H) (hq : ∀ a : Nat, a < H.size → ¬ A a → H1[a]? = H[a]?) : g_St E A U H1 := ⟨h.1.kept hq, h.2.kept hq⟩
theorem g_St.narrow {E : g_E} {A B : Nat → Prop} {U : State} {H : Heap} (h : g_St E A U H) (hAB : ∀ q, B q → A q) : g_St E B U H := ⟨h.1.narrow hAB, h.2.narrow hAB⟩
/-- into a method's body -/
theorem Ev.intro {E : g_E} {M : g_M} {fr lo mc ms : Nat} {args : List Value} {ws : va_W} {Q : Option Value → va_W → Prop} (hy : plainName M.1.cls = true) (hn : (lg_sl args).length ≤ M.2.2.1)
    (body : ∀ X : g_X, Bd E X M.2.1 M.1.cls M.2.2.1 fr lo mc ms → Rt E X M.2.2.2 mc ms Q → (M.1.name = "<init>" → In X) → G E X M.2.2.1 ws 0 0 (lv_args 0 args) 0 []) : Ev E M fr lo mc ms args ws Q := by
  intro sz
  obtain ⟨y, cc, maxL, ret⟩ := M
  refine Met.ofW (cc := cc) (maxL := maxL) (ret := ret) (ws' := g_tbl) hy rfl ?_
  intro p e s m args' below meth c s₁ B hml hv
  obtain ⟨rfl, hsz, hP, hK, hD0, hSt, hNe⟩ := hv
  have hts := atoms_spec (ws := g_w (y, cc, maxL, ret)) B.pre
  have hown : s.vm.findClass y.cls = some m.cls := findClass_of_methodNamed B.named
  subst hsz
  have hl := lv_entry args (n := maxL) hn
  rw [lg_entry_eq]
  exact body (p, e, s, m, args.toArray, below, meth, c, _, va_A ws s.heap.size, _) ⟨B.exec, B.bytes, hml, hown, fun w hw => hts w (List.mem_cons_of_mem _ hw), hK, fun q h => Or.inr h, hSt, hNe, B.notSynchronized, rfl⟩ ⟨B.returns, rfl⟩ (fun h => (name_of_methodNamed B.named B.method).1.trans h) s.heap [] _ hP hD0.self va_S.rf hl
theorem Ev.imp {E : g_E} {M : g_M} {fr lo mc ms : Nat} {args : List Value} {ws : va_W} {Q Q' : Option Value → va_W → Prop} (h : Ev E M fr lo mc ms args ws Q) (hQ : ∀ v w, Q v w → Q' v w) : Ev E M fr lo mc ms args ws Q' := by
  intro sz
  have h1 := h sz
  unfold Met at h1 ⊢
  refine MetFree.mono h1 (fun _ _ h => h) (fun _ _ _ _ _ h => h) (fun a s o t _ hq => ?_)
  obtain ⟨⟨⟨v, w, e1, e2, e3⟩, hf⟩, hL⟩ := hq
  exact ⟨⟨⟨v, w, e1, hQ v w e2, e3⟩, hf⟩, hL⟩
theorem o_1 {x y : Int32} (h : ¬ x < y) : y ≤ x := Int32.not_lt.mp h
theorem o_2 {x y : Int32} (h : ¬ y ≤ x) : x < y := Int32.not_le.mp h
theorem o_3 {x y : Int32} (h : x < y) : ¬ y ≤ x := Int32.not_le.mpr h
theorem o_4 {x y : Int32} (h : y ≤ x) : ¬ x < y := Int32.not_lt.mpr h
section LAYER
variable {E : g_E} {X : g_X} {cc : ByteArray} {own : String} {nL fr lo mc ms : Nat} {ws : va_W} {nc ns : Nat} {lv : List (Nat × Value)} {pc : Nat} {st : List Value}

theorem g_iconst (B : Bd E X cc own nL fr lo mc ms) {n : Int} {v : Int32} (hd : decode cc pc = .ok (.iconst n, 1)) (hv : Int32.ofInt n = v) (k : G E X nL ws nc ns lv (pc + 1) (.int v :: st)) : G E X nL ws nc ns lv pc (st) := by
  obtain ⟨p, e, s, m, args, below, meth, c, R, A, Q⟩ := X
  obtain ⟨hx, hb, hml, hown, hts, hK, hA, hSt, hNe, hlk, hR⟩ := B
  intro H locs ls hP hD hS hl
  exact lv_iconst hx hb hd hv (k H locs ls hP hD hS hl)
theorem g_bipush (B : Bd E X cc own nL fr lo mc ms) {n : Int} {v : Int32} (hd : decode cc pc = .ok (.bipush n, 2)) (hv : (Int8.ofInt n).toInt32 = v) (k : G E X nL ws nc ns lv (pc + 2) (.int v :: st)) : G E X nL ws nc ns lv pc (st) := by
  obtain ⟨p, e, s, m, args, below, meth, c, R, A, Q⟩ := X
  obtain ⟨hx, hb, hml, hown, hts, hK, hA, hSt, hNe, hlk, hR⟩ := B
  intro H locs ls hP hD hS hl
  exact lv_bipush hx hb hd hv (k H locs ls hP hD hS hl)
theorem g_sipush (B : Bd E X cc own nL fr lo mc ms) {n : Int} {v : Int32} (hd : decode cc pc = .ok (.sipush n, 3)) (hv : (Int16.ofInt n).toInt32 = v) (k : G E X nL ws nc ns lv (pc + 3) (.int v :: st)) : G E X nL ws nc ns lv pc (st) := by
  obtain ⟨p, e, s, m, args, below, meth, c, R, A, Q⟩ := X
  obtain ⟨hx, hb, hml, hown, hts, hK, hA, hSt, hNe, hlk, hR⟩ := B
  intro H locs ls hP hD hS hl
  exact lv_sipush hx hb hd hv (k H locs ls hP hD hS hl)
theorem g_lconst (B : Bd E X cc own nL fr lo mc ms) {n : Fin 2} {v : Int64} (hd : decode cc pc = .ok (.lconst n, 1)) (hv : Int64.ofNat (n : Nat) = v) (k : G E X nL ws nc ns lv (pc + 1) (.long v :: st)) : G E X nL ws nc ns lv pc (st) := by
  obtain ⟨p, e, s, m, args, below, meth, c, R, A, Q⟩ := X
  obtain ⟨hx, hb, hml, hown, hts, hK, hA, hSt, hNe, hlk, hR⟩ := B
  intro H locs ls hP hD hS hl
  exact lv_lconst hx hb hd hv (k H locs ls hP hD hS hl)
theorem g_null (B : Bd E X cc own nL fr lo mc ms)  (hd : decode cc pc = .ok (.aconst_null, 1))  (k : G E X nL ws nc ns lv (pc + 1) (.null :: st)) : G E X nL ws nc ns lv pc (st) := by
  obtain ⟨p, e, s, m, args, below, meth, c, R, A, Q⟩ := X
  obtain ⟨hx, hb, hml, hown, hts, hK, hA, hSt, hNe, hlk, hR⟩ := B
  intro H locs ls hP hD hS hl
  exact lv_null hx hb hd  (k H locs ls hP hD hS hl)
theorem g_iload_n (B : Bd E X cc own nL fr lo mc ms) {k0 : Fin 4} {i : Nat} {x : Int32} (hd : decode cc pc = .ok (.iload_n k0, 1)) (hi : (k0 : Nat) = i) (j : Nat) (hj : lv[j]? = some (i, .int x)) (k : G E X nL ws nc ns lv (pc + 1) (.int x :: st)) : G E X nL ws nc ns lv pc (st) := by
  obtain ⟨p, e, s, m, args, below, meth, c, R, A, Q⟩ := X
  obtain ⟨hx, hb, hml, hown, hts, hK, hA, hSt, hNe, hlk, hR⟩ := B
  intro H locs ls hP hD hS hl
  exact lv_iload_n hx hb hd hi (lv_at hl j hj) (k H locs ls hP hD hS hl)
theorem g_iload (B : Bd E X cc own nL fr lo mc ms) {i : Nat} {x : Int32} (hd : decode cc pc = .ok (.iload i, 2)) (j : Nat) (hj : lv[j]? = some (i, .int x)) (k : G E X nL ws nc ns lv (pc + 2) (.int x :: st)) : G E X nL ws nc ns lv pc (st) := by
  obtain ⟨p, e, s, m, args, below, meth, c, R, A, Q⟩ := X
  obtain ⟨hx, hb, hml, hown, hts, hK, hA, hSt, hNe, hlk, hR⟩ := B
  intro H locs ls hP hD hS hl
  exact lv_iload hx hb hd (lv_at hl j hj) (k H locs ls hP hD hS hl)
theorem g_istore_n (B : Bd E X cc own nL fr lo mc ms) {k0 : Fin 4} {i : Nat} {x : Int32} {lv' : List (Nat × Value)} (hd : decode cc pc = .ok (.istore_n k0, 1)) (hi : (k0 : Nat) = i) (hn : i < nL) (hl' : (i, Value.int x) :: lv.filter (fun q => !(q.1 == i) && !(q.1 + 1 == i && q.2.category == 2)) = lv') (k : G E X nL ws nc ns lv' (pc + 1) st) : G E X nL ws nc ns lv pc (.int x :: st) := by
  obtain ⟨p, e, s, m, args, below, meth, c, R, A, Q⟩ := X
  obtain ⟨hx, hb, hml, hown, hts, hK, hA, hSt, hNe, hlk, hR⟩ := B
  intro H locs ls hP hD hS hl
  exact lv_istore_n hx hb hd hi hl hn hl' (fun ls' hl2 => k H locs ls' hP hD hS hl2)
theorem g_istore (B : Bd E X cc own nL fr lo mc ms) {i : Nat} {x : Int32} {lv' : List (Nat × Value)} (hd : decode cc pc = .ok (.istore i, 2)) (hn : i < nL) (hl' : (i, Value.int x) :: lv.filter (fun q => !(q.1 == i) && !(q.1 + 1 == i && q.2.category == 2)) = lv') (k : G E X nL ws nc ns lv' (pc + 2) st) : G E X nL ws nc ns lv pc (.int x :: st) := by
  obtain ⟨p, e, s, m, args, below, meth, c, R, A, Q⟩ := X
  obtain ⟨hx, hb, hml, hown, hts, hK, hA, hSt, hNe, hlk, hR⟩ := B
  intro H locs ls hP hD hS hl
  exact lv_istore hx hb hd hl hn hl' (fun ls' hl2 => k H locs ls' hP hD hS hl2)
theorem g_lload_n (B : Bd E X cc own nL fr lo mc ms) {k0 : Fin 4} {i : Nat} {x : Int64} (hd : decode cc pc = .ok (.lload_n k0, 1)) (hi : (k0 : Nat) = i) (j : Nat) (hj : lv[j]? = some (i, .long x)) (k : G E X nL ws nc ns lv (pc + 1) (.long x :: st)) : G E X nL ws nc ns lv pc (st) := by
  obtain ⟨p, e, s, m, args, below, meth, c, R, A, Q⟩ := X
  obtain ⟨hx, hb, hml, hown, hts, hK, hA, hSt, hNe, hlk, hR⟩ := B
  intro H locs ls hP hD hS hl
  exact lv_lload_n hx hb hd hi (lv_at hl j hj) (k H locs ls hP hD hS hl)
theorem g_lload (B : Bd E X cc own nL fr lo mc ms) {i : Nat} {x : Int64} (hd : decode cc pc = .ok (.lload i, 2)) (j : Nat) (hj : lv[j]? = some (i, .long x)) (k : G E X nL ws nc ns lv (pc + 2) (.long x :: st)) : G E X nL ws nc ns lv pc (st) := by
  obtain ⟨p, e, s, m, args, below, meth, c, R, A, Q⟩ := X
  obtain ⟨hx, hb, hml, hown, hts, hK, hA, hSt, hNe, hlk, hR⟩ := B
  intro H locs ls hP hD hS hl
  exact lv_lload hx hb hd (lv_at hl j hj) (k H locs ls hP hD hS hl)
theorem g_lstore_n (B : Bd E X cc own nL fr lo mc ms) {k0 : Fin 4} {i : Nat} {x : Int64} {lv' : List (Nat × Value)} (hd : decode cc pc = .ok (.lstore_n k0, 1)) (hi : (k0 : Nat) = i) (hn : i + 1 < nL) (hl' : (i, Value.long x) :: lv.filter (fun q => !(q.1 == i) && (!(q.1 == i + 1) && !(q.1 + 1 == i && q.2.category == 2))) = lv') (k : G E X nL ws nc ns lv' (pc + 1) st) : G E X nL ws nc ns lv pc (.long x :: st) := by
  obtain ⟨p, e, s, m, args, below, meth, c, R, A, Q⟩ := X
  obtain ⟨hx, hb, hml, hown, hts, hK, hA, hSt, hNe, hlk, hR⟩ := B
  intro H locs ls hP hD hS hl
  exact lv_lstore_n hx hb hd hi hl hn hl' (fun ls' hl2 => k H locs ls' hP hD hS hl2)
theorem g_lstore (B : Bd E X cc own nL fr lo mc ms) {i : Nat} {x : Int64} {lv' : List (Nat × Value)} (hd : decode cc pc = .ok (.lstore i, 2)) (hn : i + 1 < nL) (hl' : (i, Value.long x) :: lv.filter (fun q => !(q.1 == i) && (!(q.1 == i + 1) && !(q.1 + 1 == i && q.2.category == 2))) = lv') (k : G E X nL ws nc ns lv' (pc + 2) st) : G E X nL ws nc ns lv pc (.long x :: st) := by
  obtain ⟨p, e, s, m, args, below, meth, c, R, A, Q⟩ := X
  obtain ⟨hx, hb, hml, hown, hts, hK, hA, hSt, hNe, hlk, hR⟩ := B
  intro H locs ls hP hD hS hl
  exact lv_lstore hx hb hd hl hn hl' (fun ls' hl2 => k H locs ls' hP hD hS hl2)
theorem g_aload_n (B : Bd E X cc own nL fr lo mc ms) {k0 : Fin 4} {i : Nat} {x : Nat} (hd : decode cc pc = .ok (.aload_n k0, 1)) (hi : (k0 : Nat) = i) (j : Nat) (hj : lv[j]? = some (i, .ref x)) (k : G E X nL ws nc ns lv (pc + 1) (.ref x :: st)) : G E X nL ws nc ns lv pc (st) := by
  obtain ⟨p, e, s, m, args, below, meth, c, R, A, Q⟩ := X
  obtain ⟨hx, hb, hml, hown, hts, hK, hA, hSt, hNe, hlk, hR⟩ := B
  intro H locs ls hP hD hS hl
  exact lv_aload_n hx hb hd hi (lv_at hl j hj) (k H locs ls hP hD hS hl)
theorem g_aload (B : Bd E X cc own nL fr lo mc ms) {i : Nat} {x : Nat} (hd : decode cc pc = .ok (.aload i, 2)) (j : Nat) (hj : lv[j]? = some (i, .ref x)) (k : G E X nL ws nc ns lv (pc + 2) (.ref x :: st)) : G E X nL ws nc ns lv pc (st) := by
  obtain ⟨p, e, s, m, args, below, meth, c, R, A, Q⟩ := X
  obtain ⟨hx, hb, hml, hown, hts, hK, hA, hSt, hNe, hlk, hR⟩ := B
  intro H locs ls hP hD hS hl
  exact lv_aload hx hb hd (lv_at hl j hj) (k H locs ls hP hD hS hl)
theorem g_astore_n (B : Bd E X cc own nL fr lo mc ms) {k0 : Fin 4} {i : Nat} {x : Nat} {lv' : List (Nat × Value)} (hd : decode cc pc = .ok (.astore_n k0, 1)) (hi : (k0 : Nat) = i) (hn : i < nL) (hl' : (i, Value.ref x) :: lv.filter (fun q => !(q.1 == i) && !(q.1 + 1 == i && q.2.category == 2)) = lv') (k : G E X nL ws nc ns lv' (pc + 1) st) : G E X nL ws nc ns lv pc (.ref x :: st) := by
  obtain ⟨p, e, s, m, args, below, meth, c, R, A, Q⟩ := X
  obtain ⟨hx, hb, hml, hown, hts, hK, hA, hSt, hNe, hlk, hR⟩ := B
  intro H locs ls hP hD hS hl
  exact lv_astore_n hx hb hd hi hl hn hl' (fun ls' hl2 => k H locs ls' hP hD hS hl2)
theorem g_astore (B : Bd E X cc own nL fr lo mc ms) {i : Nat} {x : Nat} {lv' : List (Nat × Value)} (hd : decode cc pc = .ok (.astore i, 2)) (hn : i < nL) (hl' : (i, Value.ref x) :: lv.filter (fun q => !(q.1 == i) && !(q.1 + 1 == i && q.2.category == 2)) = lv') (k : G E X nL ws nc ns lv' (pc + 2) st) : G E X nL ws nc ns lv pc (.ref x :: st) := by
  obtain ⟨p, e, s, m, args, below, meth, c, R, A, Q⟩ := X
  obtain ⟨hx, hb, hml, hown, hts, hK, hA, hSt, hNe, hlk, hR⟩ := B
  intro H locs ls hP hD hS hl
  exact lv_astore hx hb hd hl hn hl' (fun ls' hl2 => k H locs ls' hP hD hS hl2)
theorem g_iinc (B : Bd E X cc own nL fr lo mc ms) {i : Nat} {n : Int} {x v : Int32} {lv' : List (Nat × Value)} (hd : decode cc pc = .ok (.iinc i n, 3)) (j : Nat) (hj : lv[j]? = some (i, .int x)) (hv : x + Int32.ofInt n = v) (hn : i < nL) (hl' : (i, Value.int v) :: lv.filter (fun q => !(q.1 == i) && !(q.1 + 1 == i && q.2.category == 2)) = lv') (k : G E X nL ws nc ns lv' (pc + 3) st) : G E X nL ws nc ns lv pc st := by
  obtain ⟨p, e, s, m, args, below, meth, c, R, A, Q⟩ := X
  obtain ⟨hx, hb, hml, hown, hts, hK, hA, hSt, hNe, hlk, hR⟩ := B
  intro H locs ls hP hD hS hl
  exact lv_iinc hx hb hd hl hj hv hn hl' (fun ls' hl2 => k H locs ls' hP hD hS hl2)
theorem g_iadd (B : Bd E X cc own nL fr lo mc ms) {x y : Int32} (hd : decode cc pc = .ok (.iadd, 1))  (k : G E X nL ws nc ns lv (pc + 1) (.int (x + y) :: st)) : G E X nL ws nc ns lv pc (.int y :: .int x :: st) := by
  obtain ⟨p, e, s, m, args, below, meth, c, R, A, Q⟩ := X
  obtain ⟨hx, hb, hml, hown, hts, hK, hA, hSt, hNe, hlk, hR⟩ := B
  intro H locs ls hP hD hS hl
  exact lv_iadd hx hb hd  (k H locs ls hP hD hS hl)
theorem g_isub (B : Bd E X cc own nL fr lo mc ms) {x y : Int32} (hd : decode cc pc = .ok (.isub, 1))  (k : G E X nL ws nc ns lv (pc + 1) (.int (x - y) :: st)) : G E X nL ws nc ns lv pc (.int y :: .int x :: st) := by
  obtain ⟨p, e, s, m, args, below, meth, c, R, A, Q⟩ := X
  obtain ⟨hx, hb, hml, hown, hts, hK, hA, hSt, hNe, hlk, hR⟩ := B
  intro H locs ls hP hD hS hl
  exact lv_isub hx hb hd  (k H locs ls hP hD hS hl)
theorem g_imul (B : Bd E X cc own nL fr lo mc ms) {x y : Int32} (hd : decode cc pc = .ok (.imul, 1))  (k : G E X nL ws nc ns lv (pc + 1) (.int (x * y) :: st)) : G E X nL ws nc ns lv pc (.int y :: .int x :: st) := by
  obtain ⟨p, e, s, m, args, below, meth, c, R, A, Q⟩ := X
  obtain ⟨hx, hb, hml, hown, hts, hK, hA, hSt, hNe, hlk, hR⟩ := B
  intro H locs ls hP hD hS hl
  exact lv_imul hx hb hd  (k H locs ls hP hD hS hl)
theorem g_iand (B : Bd E X cc own nL fr lo mc ms) {x y : Int32} (hd : decode cc pc = .ok (.iand, 1))  (k : G E X nL ws nc ns lv (pc + 1) (.int (x &&& y) :: st)) : G E X nL ws nc ns lv pc (.int y :: .int x :: st) := by
  obtain ⟨p, e, s, m, args, below, meth, c, R, A, Q⟩ := X
  obtain ⟨hx, hb, hml, hown, hts, hK, hA, hSt, hNe, hlk, hR⟩ := B
  intro H locs ls hP hD hS hl
  exact lv_iand hx hb hd  (k H locs ls hP hD hS hl)
theorem g_ior (B : Bd E X cc own nL fr lo mc ms) {x y : Int32} (hd : decode cc pc = .ok (.ior, 1))  (k : G E X nL ws nc ns lv (pc + 1) (.int (x ||| y) :: st)) : G E X nL ws nc ns lv pc (.int y :: .int x :: st) := by
  obtain ⟨p, e, s, m, args, below, meth, c, R, A, Q⟩ := X
  obtain ⟨hx, hb, hml, hown, hts, hK, hA, hSt, hNe, hlk, hR⟩ := B
  intro H locs ls hP hD hS hl
  exact lv_ior hx hb hd  (k H locs ls hP hD hS hl)
theorem g_ixor (B : Bd E X cc own nL fr lo mc ms) {x y : Int32} (hd : decode cc pc = .ok (.ixor, 1))  (k : G E X nL ws nc ns lv (pc + 1) (.int (x ^^^ y) :: st)) : G E X nL ws nc ns lv pc (.int y :: .int x :: st) := by
  obtain ⟨p, e, s, m, args, below, meth, c, R, A, Q⟩ := X
  obtain ⟨hx, hb, hml, hown, hts, hK, hA, hSt, hNe, hlk, hR⟩ := B
  intro H locs ls hP hD hS hl
  exact lv_ixor hx hb hd  (k H locs ls hP hD hS hl)
theorem g_ishl (B : Bd E X cc own nL fr lo mc ms) {x y : Int32} (hd : decode cc pc = .ok (.ishl, 1))  (k : G E X nL ws nc ns lv (pc + 1) (.int (x <<< (y &&& 31)) :: st)) : G E X nL ws nc ns lv pc (.int y :: .int x :: st) := by
  obtain ⟨p, e, s, m, args, below, meth, c, R, A, Q⟩ := X
  obtain ⟨hx, hb, hml, hown, hts, hK, hA, hSt, hNe, hlk, hR⟩ := B
  intro H locs ls hP hD hS hl
  exact lv_ishl hx hb hd  (k H locs ls hP hD hS hl)
theorem g_ishr (B : Bd E X cc own nL fr lo mc ms) {x y : Int32} (hd : decode cc pc = .ok (.ishr, 1))  (k : G E X nL ws nc ns lv (pc + 1) (.int (x >>> (y &&& 31)) :: st)) : G E X nL ws nc ns lv pc (.int y :: .int x :: st) := by
  obtain ⟨p, e, s, m, args, below, meth, c, R, A, Q⟩ := X
  obtain ⟨hx, hb, hml, hown, hts, hK, hA, hSt, hNe, hlk, hR⟩ := B
  intro H locs ls hP hD hS hl
  exact lv_ishr hx hb hd  (k H locs ls hP hD hS hl)
theorem g_idiv (B : Bd E X cc own nL fr lo mc ms) {x y : Int32} (hd : decode cc pc = .ok (.idiv, 1)) (hne : ¬ y = 0) (k : G E X nL ws nc ns lv (pc + 1) (.int (x / y) :: st)) : G E X nL ws nc ns lv pc (.int y :: .int x :: st) := by
  obtain ⟨p, e, s, m, args, below, meth, c, R, A, Q⟩ := X
  obtain ⟨hx, hb, hml, hown, hts, hK, hA, hSt, hNe, hlk, hR⟩ := B
  intro H locs ls hP hD hS hl
  exact lv_idiv hx hb hd hne (k H locs ls hP hD hS hl)
theorem g_irem (B : Bd E X cc own nL fr lo mc ms) {x y : Int32} (hd : decode cc pc = .ok (.irem, 1)) (hne : ¬ y = 0) (k : G E X nL ws nc ns lv (pc + 1) (.int (x - x / y * y) :: st)) : G E X nL ws nc ns lv pc (.int y :: .int x :: st) := by
  obtain ⟨p, e, s, m, args, below, meth, c, R, A, Q⟩ := X
  obtain ⟨hx, hb, hml, hown, hts, hK, hA, hSt, hNe, hlk, hR⟩ := B
  intro H locs ls hP hD hS hl
  exact lv_irem hx hb hd hne (k H locs ls hP hD hS hl)
theorem g_iushr (B : Bd E X cc own nL fr lo mc ms) {x y : Int32} (hd : decode cc pc = .ok (.iushr, 1))  (k : G E X nL ws nc ns lv (pc + 1) (.int ((x.toUInt32 >>> (y.toUInt32 &&& Int32.toUInt32 31)).toInt32) :: st)) : G E X nL ws nc ns lv pc (.int y :: .int x :: st) := by
  obtain ⟨p, e, s, m, args, below, meth, c, R, A, Q⟩ := X
  obtain ⟨hx, hb, hml, hown, hts, hK, hA, hSt, hNe, hlk, hR⟩ := B
  intro H locs ls hP hD hS hl
  exact lv_iushr hx hb hd rfl (k H locs ls hP hD hS hl)
theorem g_ineg (B : Bd E X cc own nL fr lo mc ms) {x : Int32} (hd : decode cc pc = .ok (.ineg, 1))  (k : G E X nL ws nc ns lv (pc + 1) (.int (-x) :: st)) : G E X nL ws nc ns lv pc (.int x :: st) := by
  obtain ⟨p, e, s, m, args, below, meth, c, R, A, Q⟩ := X
  obtain ⟨hx, hb, hml, hown, hts, hK, hA, hSt, hNe, hlk, hR⟩ := B
  intro H locs ls hP hD hS hl
  exact lv_ineg hx hb hd  (k H locs ls hP hD hS hl)
theorem g_ladd (B : Bd E X cc own nL fr lo mc ms) {x y : Int64} (hd : decode cc pc = .ok (.ladd, 1))  (k : G E X nL ws nc ns lv (pc + 1) (.long (x + y) :: st)) : G E X nL ws nc ns lv pc (.long y :: .long x :: st) := by
  obtain ⟨p, e, s, m, args, below, meth, c, R, A, Q⟩ := X
  obtain ⟨hx, hb, hml, hown, hts, hK, hA, hSt, hNe, hlk, hR⟩ := B
  intro H locs ls hP hD hS hl
  exact lv_ladd hx hb hd  (k H locs ls hP hD hS hl)
theorem g_lsub (B : Bd E X cc own nL fr lo mc ms) {x y : Int64} (hd : decode cc pc = .ok (.lsub, 1))  (k : G E X nL ws nc ns lv (pc + 1) (.long (x - y) :: st)) : G E X nL ws nc ns lv pc (.long y :: .long x :: st) := by
  obtain ⟨p, e, s, m, args, below, meth, c, R, A, Q⟩ := X
  obtain ⟨hx, hb, hml, hown, hts, hK, hA, hSt, hNe, hlk, hR⟩ := B
  intro H locs ls hP hD hS hl
  exact lv_lsub hx hb hd  (k H locs ls hP hD hS hl)
theorem g_lmul (B : Bd E X cc own nL fr lo mc ms) {x y : Int64} (hd : decode cc pc = .ok (.lmul, 1))  (k : G E X nL ws nc ns lv (pc + 1) (.long (x * y) :: st)) : G E X nL ws nc ns lv pc (.long y :: .long x :: st) := by
  obtain ⟨p, e, s, m, args, below, meth, c, R, A, Q⟩ := X
  obtain ⟨hx, hb, hml, hown, hts, hK, hA, hSt, hNe, hlk, hR⟩ := B
  intro H locs ls hP hD hS hl
  exact lv_lmul hx hb hd  (k H locs ls hP hD hS hl)
theorem g_land (B : Bd E X cc own nL fr lo mc ms) {x y : Int64} (hd : decode cc pc = .ok (.land, 1))  (k : G E X nL ws nc ns lv (pc + 1) (.long (x &&& y) :: st)) : G E X nL ws nc ns lv pc (.long y :: .long x :: st) := by
  obtain ⟨p, e, s, m, args, below, meth, c, R, A, Q⟩ := X
  obtain ⟨hx, hb, hml, hown, hts, hK, hA, hSt, hNe, hlk, hR⟩ := B
  intro H locs ls hP hD hS hl
  exact lv_land hx hb hd  (k H locs ls hP hD hS hl)
theorem g_lor (B : Bd E X cc own nL fr lo mc ms) {x y : Int64} (hd : decode cc pc = .ok (.lor, 1))  (k : G E X nL ws nc ns lv (pc + 1) (.long (x ||| y) :: st)) : G E X nL ws nc ns lv pc (.long y :: .long x :: st) := by
  obtain ⟨p, e, s, m, args, below, meth, c, R, A, Q⟩ := X
  obtain ⟨hx, hb, hml, hown, hts, hK, hA, hSt, hNe, hlk, hR⟩ := B
  intro H locs ls hP hD hS hl
  exact lv_lor hx hb hd  (k H locs ls hP hD hS hl)
theorem g_ldiv (B : Bd E X cc own nL fr lo mc ms) {x y : Int64} (hd : decode cc pc = .ok (.ldiv, 1)) (hne : ¬ y = 0) (k : G E X nL ws nc ns lv (pc + 1) (.long (x / y) :: st)) : G E X nL ws nc ns lv pc (.long y :: .long x :: st) := by
  obtain ⟨p, e, s, m, args, below, meth, c, R, A, Q⟩ := X
  obtain ⟨hx, hb, hml, hown, hts, hK, hA, hSt, hNe, hlk, hR⟩ := B
  intro H locs ls hP hD hS hl
  exact lv_ldiv hx hb hd hne (k H locs ls hP hD hS hl)
theorem g_lneg (B : Bd E X cc own nL fr lo mc ms) {x : Int64} (hd : decode cc pc = .ok (.lneg, 1))  (k : G E X nL ws nc ns lv (pc + 1) (.long (-x) :: st)) : G E X nL ws nc ns lv pc (.long x :: st) := by
  obtain ⟨p, e, s, m, args, below, meth, c, R, A, Q⟩ := X
  obtain ⟨hx, hb, hml, hown, hts, hK, hA, hSt, hNe, hlk, hR⟩ := B
  intro H locs ls hP hD hS hl
  exact lv_lneg hx hb hd  (k H locs ls hP hD hS hl)
theorem g_lshl (B : Bd E X cc own nL fr lo mc ms) {x : Int64} {y : Int32} (hd : decode cc pc = .ok (.lshl, 1))  (k : G E X nL ws nc ns lv (pc + 1) (.long (x <<< (y.toInt64 &&& 63)) :: st)) : G E X nL ws nc ns lv pc (.int y :: .long x :: st) := by
  obtain ⟨p, e, s, m, args, below, meth, c, R, A, Q⟩ := X
  obtain ⟨hx, hb, hml, hown, hts, hK, hA, hSt, hNe, hlk, hR⟩ := B
  intro H locs ls hP hD hS hl
  exact lv_lshl hx hb hd rfl (k H locs ls hP hD hS hl)
theorem g_lshr (B : Bd E X cc own nL fr lo mc ms) {x : Int64} {y : Int32} (hd : decode cc pc = .ok (.lshr, 1))  (k : G E X nL ws nc ns lv (pc + 1) (.long (x >>> (y.toInt64 &&& 63)) :: st)) : G E X nL ws nc ns lv pc (.int y :: .long x :: st) := by
  obtain ⟨p, e, s, m, args, below, meth, c, R, A, Q⟩ := X
  obtain ⟨hx, hb, hml, hown, hts, hK, hA, hSt, hNe, hlk, hR⟩ := B
  intro H locs ls hP hD hS hl
  exact lv_lshr hx hb hd rfl (k H locs ls hP hD hS hl)
theorem g_lushr (B : Bd E X cc own nL fr lo mc ms) {x : Int64} {y : Int32} (hd : decode cc pc = .ok (.lushr, 1))  (k : G E X nL ws nc ns lv (pc + 1) (.long ((x.toUInt64 >>> (y.toInt64.toUInt64 &&& Int64.toUInt64 63)).toInt64) :: st)) : G E X nL ws nc ns lv pc (.int y :: .long x :: st) := by
  obtain ⟨p, e, s, m, args, below, meth, c, R, A, Q⟩ := X
  obtain ⟨hx, hb, hml, hown, hts, hK, hA, hSt, hNe, hlk, hR⟩ := B
  intro H locs ls hP hD hS hl
  exact lv_lushr hx hb hd rfl (k H locs ls hP hD hS hl)
theorem g_lcmp (B : Bd E X cc own nL fr lo mc ms) {x y : Int64} (hd : decode cc pc = .ok (.lcmp, 1))  (k : G E X nL ws nc ns lv (pc + 1) (.int (lg_cmp x y) :: st)) : G E X nL ws nc ns lv pc (.long y :: .long x :: st) := by
  obtain ⟨p, e, s, m, args, below, meth, c, R, A, Q⟩ := X
  obtain ⟨hx, hb, hml, hown, hts, hK, hA, hSt, hNe, hlk, hR⟩ := B
  intro H locs ls hP hD hS hl
  exact W.lcmp hx hb hd  (k H locs ls hP hD hS hl)
theorem g_i2l (B : Bd E X cc own nL fr lo mc ms) {x : Int32} (hd : decode cc pc = .ok (.i2l, 1))  (k : G E X nL ws nc ns lv (pc + 1) (.long x.toInt64 :: st)) : G E X nL ws nc ns lv pc (.int x :: st) := by
  obtain ⟨p, e, s, m, args, below, meth, c, R, A, Q⟩ := X
  obtain ⟨hx, hb, hml, hown, hts, hK, hA, hSt, hNe, hlk, hR⟩ := B
  intro H locs ls hP hD hS hl
  exact lv_i2l hx hb hd rfl (k H locs ls hP hD hS hl)
theorem g_l2i (B : Bd E X cc own nL fr lo mc ms) {x : Int64} (hd : decode cc pc = .ok (.l2i, 1))  (k : G E X nL ws nc ns lv (pc + 1) (.int x.toInt32 :: st)) : G E X nL ws nc ns lv pc (.long x :: st) := by
  obtain ⟨p, e, s, m, args, below, meth, c, R, A, Q⟩ := X
  obtain ⟨hx, hb, hml, hown, hts, hK, hA, hSt, hNe, hlk, hR⟩ := B
  intro H locs ls hP hD hS hl
  exact lv_l2i hx hb hd rfl (k H locs ls hP hD hS hl)
theorem g_i2b (B : Bd E X cc own nL fr lo mc ms) {x : Int32} (hd : decode cc pc = .ok (.i2b, 1))  (k : G E X nL ws nc ns lv (pc + 1) (.int x.toInt8.toInt32 :: st)) : G E X nL ws nc ns lv pc (.int x :: st) := by
  obtain ⟨p, e, s, m, args, below, meth, c, R, A, Q⟩ := X
  obtain ⟨hx, hb, hml, hown, hts, hK, hA, hSt, hNe, hlk, hR⟩ := B
  intro H locs ls hP hD hS hl
  exact lv_i2b hx hb hd rfl (k H locs ls hP hD hS hl)
theorem g_dup (B : Bd E X cc own nL fr lo mc ms) {va : Value} (hd : decode cc pc = .ok (.dup, 1)) (hva : va.category = 1) (k : G E X nL ws nc ns lv (pc + 1) (va :: va :: st)) : G E X nL ws nc ns lv pc (va :: st) := by
  obtain ⟨p, e, s, m, args, below, meth, c, R, A, Q⟩ := X
  obtain ⟨hx, hb, hml, hown, hts, hK, hA, hSt, hNe, hlk, hR⟩ := B
  intro H locs ls hP hD hS hl
  exact lv_dup hx hb hd hva (k H locs ls hP hD hS hl)
theorem g_pop (B : Bd E X cc own nL fr lo mc ms) {va : Value} (hd : decode cc pc = .ok (.pop, 1)) (hva : va.category = 1) (k : G E X nL ws nc ns lv (pc + 1) (st)) : G E X nL ws nc ns lv pc (va :: st) := by
  obtain ⟨p, e, s, m, args, below, meth, c, R, A, Q⟩ := X
  obtain ⟨hx, hb, hml, hown, hts, hK, hA, hSt, hNe, hlk, hR⟩ := B
  intro H locs ls hP hD hS hl
  exact lv_pop hx hb hd hva (k H locs ls hP hD hS hl)
theorem g_dup2_11 (B : Bd E X cc own nL fr lo mc ms) {va vb : Value} (hd : decode cc pc = .ok (.dup2, 1)) (hva : va.category = 1) (hvb : vb.category = 1) (k : G E X nL ws nc ns lv (pc + 1) (va :: vb :: va :: vb :: st)) : G E X nL ws nc ns lv pc (va :: vb :: st) := by
  obtain ⟨p, e, s, m, args, below, meth, c, R, A, Q⟩ := X
  obtain ⟨hx, hb, hml, hown, hts, hK, hA, hSt, hNe, hlk, hR⟩ := B
  intro H locs ls hP hD hS hl
  exact lv_dup2_11 hx hb hd hva hvb (k H locs ls hP hD hS hl)
theorem g_dup2_2 (B : Bd E X cc own nL fr lo mc ms) {va : Value} (hd : decode cc pc = .ok (.dup2, 1)) (hva : va.category = 2) (k : G E X nL ws nc ns lv (pc + 1) (va :: va :: st)) : G E X nL ws nc ns lv pc (va :: st) := by
  obtain ⟨p, e, s, m, args, below, meth, c, R, A, Q⟩ := X
  obtain ⟨hx, hb, hml, hown, hts, hK, hA, hSt, hNe, hlk, hR⟩ := B
  intro H locs ls hP hD hS hl
  exact lv_dup2_2 hx hb hd hva (k H locs ls hP hD hS hl)
theorem g_if_eq (B : Bd E X cc own nL fr lo mc ms) {x : Int32} {off : Int} {tgt : Nat} (hd : decode cc pc = .ok (.ifCond .eq off, 3)) (ht : (pc : Int) + off = (tgt : Int)) (kt : x = 0 → G E X nL ws nc ns lv tgt st) (kf : ¬ (x = 0) → G E X nL ws nc ns lv (pc + 3) st) : G E X nL ws nc ns lv pc (.int x :: st) := by
  obtain ⟨p, e, s, m, args, below, meth, c, R, A, Q⟩ := X
  obtain ⟨hx, hb, hml, hown, hts, hK, hA, hSt, hNe, hlk, hR⟩ := B
  intro H locs ls hP hD hS hl
  exact lv_if_eq hx hb hd ht (fun h => kt h H locs ls hP hD hS hl) (fun h => kf h H locs ls hP hD hS hl)
theorem g_icmp_eq (B : Bd E X cc own nL fr lo mc ms) {x y : Int32} {off : Int} {tgt : Nat} (hd : decode cc pc = .ok (.if_icmp .eq off, 3)) (ht : (pc : Int) + off = (tgt : Int)) (kt : x = y → G E X nL ws nc ns lv tgt st) (kf : ¬ (x = y) → G E X nL ws nc ns lv (pc + 3) st) : G E X nL ws nc ns lv pc (.int y :: .int x :: st) := by
  obtain ⟨p, e, s, m, args, below, meth, c, R, A, Q⟩ := X
  obtain ⟨hx, hb, hml, hown, hts, hK, hA, hSt, hNe, hlk, hR⟩ := B
  intro H locs ls hP hD hS hl
  exact lv_icmp_eq hx hb hd ht (fun h => kt h H locs ls hP hD hS hl) (fun h => kf h H locs ls hP hD hS hl)
theorem g_if_ne (B : Bd E X cc own nL fr lo mc ms) {x : Int32} {off : Int} {tgt : Nat} (hd : decode cc pc = .ok (.ifCond .ne off, 3)) (ht : (pc : Int) + off = (tgt : Int)) (kt : ¬ x = 0 → G E X nL ws nc ns lv tgt st) (kf : x = 0 → G E X nL ws nc ns lv (pc + 3) st) : G E X nL ws nc ns lv pc (.int x :: st) := by
  obtain ⟨p, e, s, m, args, below, meth, c, R, A, Q⟩ := X
  obtain ⟨hx, hb, hml, hown, hts, hK, hA, hSt, hNe, hlk, hR⟩ := B
  intro H locs ls hP hD hS hl
  exact lv_if_ne hx hb hd ht (fun h => kt h H locs ls hP hD hS hl) (fun h => kf h H locs ls hP hD hS hl)
theorem g_icmp_ne (B : Bd E X cc own nL fr lo mc ms) {x y : Int32} {off : Int} {tgt : Nat} (hd : decode cc pc = .ok (.if_icmp .ne off, 3)) (ht : (pc : Int) + off = (tgt : Int)) (kt : ¬ x = y → G E X nL ws nc ns lv tgt st) (kf : x = y → G E X nL ws nc ns lv (pc + 3) st) : G E X nL ws nc ns lv pc (.int y :: .int x :: st) := by
  obtain ⟨p, e, s, m, args, below, meth, c, R, A, Q⟩ := X
  obtain ⟨hx, hb, hml, hown, hts, hK, hA, hSt, hNe, hlk, hR⟩ := B
  intro H locs ls hP hD hS hl
  exact lv_icmp_ne hx hb hd ht (fun h => kt h H locs ls hP hD hS hl) (fun h => kf h H locs ls hP hD hS hl)
theorem g_if_lt (B : Bd E X cc own nL fr lo mc ms) {x : Int32} {off : Int} {tgt : Nat} (hd : decode cc pc = .ok (.ifCond .lt off, 3)) (ht : (pc : Int) + off = (tgt : Int)) (kt : x < 0 → G E X nL ws nc ns lv tgt st) (kf : ¬ (x < 0) → G E X nL ws nc ns lv (pc + 3) st) : G E X nL ws nc ns lv pc (.int x :: st) := by
  obtain ⟨p, e, s, m, args, below, meth, c, R, A, Q⟩ := X
  obtain ⟨hx, hb, hml, hown, hts, hK, hA, hSt, hNe, hlk, hR⟩ := B
  intro H locs ls hP hD hS hl
  exact lv_if_lt hx hb hd ht (fun h => kt h H locs ls hP hD hS hl) (fun h => kf h H locs ls hP hD hS hl)
theorem g_icmp_lt (B : Bd E X cc own nL fr lo mc ms) {x y : Int32} {off : Int} {tgt : Nat} (hd : decode cc pc = .ok (.if_icmp .lt off, 3)) (ht : (pc : Int) + off = (tgt : Int)) (kt : x < y → G E X nL ws nc ns lv tgt st) (kf : ¬ (x < y) → G E X nL ws nc ns lv (pc + 3) st) : G E X nL ws nc ns lv pc (.int y :: .int x :: st) := by
  obtain ⟨p, e, s, m, args, below, meth, c, R, A, Q⟩ := X
  obtain ⟨hx, hb, hml, hown, hts, hK, hA, hSt, hNe, hlk, hR⟩ := B
  intro H locs ls hP hD hS hl
  exact lv_icmp_lt hx hb hd ht (fun h => kt h H locs ls hP hD hS hl) (fun h => kf h H locs ls hP hD hS hl)
theorem g_if_ge (B : Bd E X cc own nL fr lo mc ms) {x : Int32} {off : Int} {tgt : Nat} (hd : decode cc pc = .ok (.ifCond .ge off, 3)) (ht : (pc : Int) + off = (tgt : Int)) (kt : 0 ≤ x → G E X nL ws nc ns lv tgt st) (kf : ¬ (0 ≤ x) → G E X nL ws nc ns lv (pc + 3) st) : G E X nL ws nc ns lv pc (.int x :: st) := by
  obtain ⟨p, e, s, m, args, below, meth, c, R, A, Q⟩ := X
  obtain ⟨hx, hb, hml, hown, hts, hK, hA, hSt, hNe, hlk, hR⟩ := B
  intro H locs ls hP hD hS hl
  exact lv_if_ge hx hb hd ht (fun h => kt h H locs ls hP hD hS hl) (fun h => kf h H locs ls hP hD hS hl)
theorem g_icmp_ge (B : Bd E X cc own nL fr lo mc ms) {x y : Int32} {off : Int} {tgt : Nat} (hd : decode cc pc = .ok (.if_icmp .ge off, 3)) (ht : (pc : Int) + off = (tgt : Int)) (kt : y ≤ x → G E X nL ws nc ns lv tgt st) (kf : ¬ (y ≤ x) → G E X nL ws nc ns lv (pc + 3) st) : G E X nL ws nc ns lv pc (.int y :: .int x :: st) := by
  obtain ⟨p, e, s, m, args, below, meth, c, R, A, Q⟩ := X
  obtain ⟨hx, hb, hml, hown, hts, hK, hA, hSt, hNe, hlk, hR⟩ := B
  intro H locs ls hP hD hS hl
  exact lv_icmp_ge hx hb hd ht (fun h => kt h H locs ls hP hD hS hl) (fun h => kf h H locs ls hP hD hS hl)
theorem g_if_gt (B : Bd E X cc own nL fr lo mc ms) {x : Int32} {off : Int} {tgt : Nat} (hd : decode cc pc = .ok (.ifCond .gt off, 3)) (ht : (pc : Int) + off = (tgt : Int)) (kt : 0 < x → G E X nL ws nc ns lv tgt st) (kf : ¬ (0 < x) → G E X nL ws nc ns lv (pc + 3) st) : G E X nL ws nc ns lv pc (.int x :: st) := by
  obtain ⟨p, e, s, m, args, below, meth, c, R, A, Q⟩ := X
  obtain ⟨hx, hb, hml, hown, hts, hK, hA, hSt, hNe, hlk, hR⟩ := B
  intro H locs ls hP hD hS hl
  exact lv_if_gt hx hb hd ht (fun h => kt h H locs ls hP hD hS hl) (fun h => kf h H locs ls hP hD hS hl)
theorem g_icmp_gt (B : Bd E X cc own nL fr lo mc ms) {x y : Int32} {off : Int} {tgt : Nat} (hd : decode cc pc = .ok (.if_icmp .gt off, 3)) (ht : (pc : Int) + off = (tgt : Int)) (kt : y < x → G E X nL ws nc ns lv tgt st) (kf : ¬ (y < x) → G E X nL ws nc ns lv (pc + 3) st) : G E X nL ws nc ns lv pc (.int y :: .int x :: st) := by
  obtain ⟨p, e, s, m, args, below, meth, c, R, A, Q⟩ := X
  obtain ⟨hx, hb, hml, hown, hts, hK, hA, hSt, hNe, hlk, hR⟩ := B
  intro H locs ls hP hD hS hl
  exact lv_icmp_gt hx hb hd ht (fun h => kt h H locs ls hP hD hS hl) (fun h => kf h H locs ls hP hD hS hl)
theorem g_if_le (B : Bd E X cc own nL fr lo mc ms) {x : Int32} {off : Int} {tgt : Nat} (hd : decode cc pc = .ok (.ifCond .le off, 3)) (ht : (pc : Int) + off = (tgt : Int)) (kt : x ≤ 0 → G E X nL ws nc ns lv tgt st) (kf : ¬ (x ≤ 0) → G E X nL ws nc ns lv (pc + 3) st) : G E X nL ws nc ns lv pc (.int x :: st) := by
  obtain ⟨p, e, s, m, args, below, meth, c, R, A, Q⟩ := X
  obtain ⟨hx, hb, hml, hown, hts, hK, hA, hSt, hNe, hlk, hR⟩ := B
  intro H locs ls hP hD hS hl
  exact lv_if_le hx hb hd ht (fun h => kt h H locs ls hP hD hS hl) (fun h => kf h H locs ls hP hD hS hl)
theorem g_icmp_le (B : Bd E X cc own nL fr lo mc ms) {x y : Int32} {off : Int} {tgt : Nat} (hd : decode cc pc = .ok (.if_icmp .le off, 3)) (ht : (pc : Int) + off = (tgt : Int)) (kt : x ≤ y → G E X nL ws nc ns lv tgt st) (kf : ¬ (x ≤ y) → G E X nL ws nc ns lv (pc + 3) st) : G E X nL ws nc ns lv pc (.int y :: .int x :: st) := by
  obtain ⟨p, e, s, m, args, below, meth, c, R, A, Q⟩ := X
  obtain ⟨hx, hb, hml, hown, hts, hK, hA, hSt, hNe, hlk, hR⟩ := B
  intro H locs ls hP hD hS hl
  exact lv_icmp_le hx hb hd ht (fun h => kt h H locs ls hP hD hS hl) (fun h => kf h H locs ls hP hD hS hl)
theorem g_goto (B : Bd E X cc own nL fr lo mc ms) {off : Int} {tgt : Nat} (hd : decode cc pc = .ok (.goto off, 3)) (ht : (pc : Int) + off = (tgt : Int)) (k : G E X nL ws nc ns lv tgt st) : G E X nL ws nc ns lv pc st := by
  obtain ⟨p, e, s, m, args, below, meth, c, R, A, Q⟩ := X
  obtain ⟨hx, hb, hml, hown, hts, hK, hA, hSt, hNe, hlk, hR⟩ := B
  intro H locs ls hP hD hS hl
  exact lv_goto hx hb hd ht (k H locs ls hP hD hS hl)
theorem g_ifnull (B : Bd E X cc own nL fr lo mc ms) {x : Nat} {off : Int} (hd : decode cc pc = .ok (.ifnull off, 3)) (k : G E X nL ws nc ns lv (pc + 3) st) : G E X nL ws nc ns lv pc (.ref x :: st) := by
  obtain ⟨p, e, s, m, args, below, meth, c, R, A, Q⟩ := X
  obtain ⟨hx, hb, hml, hown, hts, hK, hA, hSt, hNe, hlk, hR⟩ := B
  intro H locs ls hP hD hS hl
  exact lv_ifnull hx hb hd (k H locs ls hP hD hS hl)
theorem g_ifnullN (B : Bd E X cc own nL fr lo mc ms) {off : Int} {tgt : Nat} (hd : decode cc pc = .ok (.ifnull off, 3)) (ht : (pc : Int) + off = (tgt : Int)) (k : G E X nL ws nc ns lv tgt st) : G E X nL ws nc ns lv pc (.null :: st) := by
  obtain ⟨p, e, s, m, args, below, meth, c, R, A, Q⟩ := X
  obtain ⟨hx, hb, hml, hown, hts, hK, hA, hSt, hNe, hlk, hR⟩ := B
  intro H locs ls hP hD hS hl
  exact lv_ifnullN hx hb hd ht (k H locs ls hP hD hS hl)
theorem g_ifnonnull (B : Bd E X cc own nL fr lo mc ms) {x : Nat} {off : Int} {tgt : Nat} (hd : decode cc pc = .ok (.ifnonnull off, 3)) (ht : (pc : Int) + off = (tgt : Int)) (k : G E X nL ws nc ns lv tgt st) : G E X nL ws nc ns lv pc (.ref x :: st) := by
  obtain ⟨p, e, s, m, args, below, meth, c, R, A, Q⟩ := X
  obtain ⟨hx, hb, hml, hown, hts, hK, hA, hSt, hNe, hlk, hR⟩ := B
  intro H locs ls hP hD hS hl
  exact lv_ifnonnull hx hb hd ht (k H locs ls hP hD hS hl)
theorem g_ifnonnullN (B : Bd E X cc own nL fr lo mc ms) {off : Int} (hd : decode cc pc = .ok (.ifnonnull off, 3)) (k : G E X nL ws nc ns lv (pc + 3) st) : G E X nL ws nc ns lv pc (.null :: st) := by
  obtain ⟨p, e, s, m, args, below, meth, c, R, A, Q⟩ := X
  obtain ⟨hx, hb, hml, hown, hts, hK, hA, hSt, hNe, hlk, hR⟩ := B
  intro H locs ls hP hD hS hl
  exact lv_ifnonnullN hx hb hd (k H locs ls hP hD hS hl)
theorem g_tableIn (B : Bd E X cc own nL fr lo mc ms) {dflt lo0 hi : Int} {offs : Array Int} {len : Nat} {x : Int32} {off : Int} {tgt : Nat} (hd : decode cc pc = .ok (.tableswitch dflt lo0 hi offs, len)) (h1 : ¬ x.toInt < lo0) (h2 : ¬ hi < x.toInt) (ho : offs[(x.toInt - lo0).toNat]? = some off) (ht : (pc : Int) + off = (tgt : Int)) (k : G E X nL ws nc ns lv tgt st) : G E X nL ws nc ns lv pc (.int x :: st) := by
  obtain ⟨p, e, s, m, args, below, meth, c, R, A, Q⟩ := X
  obtain ⟨hx, hb, hml, hown, hts, hK, hA, hSt, hNe, hlk, hR⟩ := B
  intro H locs ls hP hD hS hl
  exact lv_tableIn hx hb hd h1 h2 ho ht (k H locs ls hP hD hS hl)
theorem g_tableOut (B : Bd E X cc own nL fr lo mc ms) {dflt lo0 hi : Int} {offs : Array Int} {len : Nat} {x : Int32} {tgt : Nat} (hd : decode cc pc = .ok (.tableswitch dflt lo0 hi offs, len)) (h : x.toInt < lo0 ∨ hi < x.toInt) (ht : (pc : Int) + dflt = (tgt : Int)) (k : G E X nL ws nc ns lv tgt st) : G E X nL ws nc ns lv pc (.int x :: st) := by
  obtain ⟨p, e, s, m, args, below, meth, c, R, A, Q⟩ := X
  obtain ⟨hx, hb, hml, hown, hts, hK, hA, hSt, hNe, hlk, hR⟩ := B
  intro H locs ls hP hD hS hl
  exact lv_tableOut hx hb hd h ht (k H locs ls hP hD hS hl)
theorem g_topi {x : Int32} (k : ∀ y : Int32, y = x → G E X nL ws nc ns lv pc (.int y :: st)) : G E X nL ws nc ns lv pc (.int x :: st) := k x rfl
theorem g_topl {x : Int64} (k : ∀ y : Int64, y = x → G E X nL ws nc ns lv pc (.long y :: st)) : G E X nL ws nc ns lv pc (.long x :: st) := k x rfl
theorem g_ldc (B : Bd E X cc own nL fr lo mc ms) {index : Nat} {v : Int32} (hw : Cond.constant own index v ∈ g_tbl) (hd : decode cc pc = .ok (.ldc index, 2)) (k : G E X nL ws nc ns lv (pc + 2) (.int v :: st)) : G E X nL ws nc ns lv pc st := by
  obtain ⟨p, e, s, m, args, below, meth, c, R, A, Q⟩ := X
  obtain ⟨hx, hb, hml, hown, hts, hK, hA, hSt, hNe, hlk, hR⟩ := B
  intro H locs ls hP hD hS hl
  exact lv_ldc hx hb hown (hts _ hw) hd (k H locs ls hP hD hS hl)
theorem g_ldc2 (B : Bd E X cc own nL fr lo mc ms) {index : Nat} {v : Int64} (hw : Cond.constantLong own index v ∈ g_tbl) (hd : decode cc pc = .ok (.ldc2_w index, 3)) (k : G E X nL ws nc ns lv (pc + 3) (.long v :: st)) : G E X nL ws nc ns lv pc st := by
  obtain ⟨p, e, s, m, args, below, meth, c, R, A, Q⟩ := X
  obtain ⟨hx, hb, hml, hown, hts, hK, hA, hSt, hNe, hlk, hR⟩ := B
  intro H locs ls hP hD hS hl
  exact lv_ldc2 hx hb hown (hts _ hw) hd (k H locs ls hP hD hS hl)
/-- a field: its class, its place, its words -/
def FL (own : String) (idx ci k : Nat) : Prop := ∃ (C : String) (T : u_T) (N : Nat), vwCl[ci]? = some (C, T, N) ∧ k < N ∧ (∀ w ∈ u_ws C T N, w ∈ g_tbl) ∧ Cond.fieldLink own idx (T k).1 (T k).2.1 (T k).2.2.1 ∈ g_tbl
/-- what a store wants besides -/
def PF (ci k : Nat) (ty : FieldType) (fin : Bool) : Prop := ∀ (C : String) (T : u_T) (N : Nat), vwCl[ci]? = some (C, T, N) → (∃ ty0 : Nat → FieldType, ∀ j, j < N → parseFieldDescriptor (T j).2.2.1 = some (ty0 j)) ∧ (∀ a, a < N → ∀ b, b < N → a ≠ b → (T a).2.1 ≠ (T b).2.1) ∧ parseFieldDescriptor (T k).2.2.1 = some ty ∧ (T k).2.2.2 = fin ∧ (T k).1 = C
theorem g_get (B : Bd E X cc own nL fr lo mc ms) {a ci idx : Nat} {fs : List Value} {v : Value} (q k : Nat) (hF : FL own idx ci k) (he : ws[q]? = some (a, .inr (ci, fs))) (hv : fs[k]? = some v) (hd : decode cc pc = .ok (.getfield idx, 3)) (kk : G E X nL ws nc ns lv (pc + 3) (v :: st)) : G E X nL ws nc ns lv pc (.ref a :: st) := by
  obtain ⟨p, e, s, m, args, below, meth, c, R, A, Q⟩ := X
  obtain ⟨hx, hb, hml, hown, hts, hK, hA, hSt, hNe, hlk, hR⟩ := B
  intro H locs ls hP hD hS hl
  obtain ⟨C, T, N, hc, hk, hin, hfl⟩ := hF
  exact va_get (D := E.2.1) (ci := ci) (v := v) (C := C) (T := T) (N := N) hx hb hts hin hown hK hP q he hc k hk (hts _ hfl) (fun _ h9 => h9) hv hd (kk H locs ls hP hD hS hl)
theorem g_put (B : Bd E X cc own nL fr lo mc ms) {a ci idx : Nat} {fs : List Value} {v : Value} {ty : FieldType} {ws' : va_W} (q k : Nat) (hF : FL own idx ci k) (hPF : PF ci k ty false) (he : ws[q]? = some (a, .inr (ci, fs))) (hlt : k < fs.length) (hn : narrow ty v = v) (hfit : fits ty v = true) (hw : ws.set q (a, .inr (ci, fs.set k v)) = ws') (hd : decode cc pc = .ok (.putfield idx, 3)) (kk : G E X nL ws' nc ns lv (pc + 3) st) : G E X nL ws nc ns lv pc (v :: .ref a :: st) := by
  obtain ⟨p, e, s, m, args, below, meth, c, R, A, Q⟩ := X
  obtain ⟨hx, hb, hml, hown, hts, hK, hA, hSt, hNe, hlk, hR⟩ := B
  intro H locs ls hP hD hS hl
  obtain ⟨C, T, N, hc, hk, hin, hfl⟩ := hF
  obtain ⟨⟨ty0, hty⟩, hnm, hpd, hfin, hcl⟩ := hPF C T N hc
  subst hw
  exact va_put (D := E.2.1) (ci := ci) (v := v) (ty := ty) (C := C) (T := T) (N := N) hx hb hts hin ty0 hty hnm hown hK hP hD hS q he hc k hk (hts _ hfl) (fun _ h9 => h9) hfin hpd hn hfit hlt hd (fun H1 locs1 hP1 hD1 hS1 => kk H1 locs1 ls hP1 hD1 hS1 hl)
theorem g_putF (B : Bd E X cc own nL fr lo mc ms) (hI : In X) {a ci idx : Nat} {fs : List Value} {v : Value} {ty : FieldType} {ws' : va_W} (q k : Nat) (hF : FL own idx ci k) (hPF : PF ci k ty true) (hco : ∀ q : vw_C, vwCl[ci]? = some q → q.1 = own) (he : ws[q]? = some (a, .inr (ci, fs))) (hlt : k < fs.length) (hn : narrow ty v = v) (hfit : fits ty v = true) (hw : ws.set q (a, .inr (ci, fs.set k v)) = ws') (hd : decode cc pc = .ok (.putfield idx, 3)) (kk : G E X nL ws' nc ns lv (pc + 3) st) : G E X nL ws nc ns lv pc (v :: .ref a :: st) := by
  obtain ⟨p, e, s, m, args, below, meth, c, R, A, Q⟩ := X
  obtain ⟨hx, hb, hml, hown, hts, hK, hA, hSt, hNe, hlk, hR⟩ := B
  intro H locs ls hP hD hS hl
  obtain ⟨C, T, N, hc, hk, hin, hfl⟩ := hF
  obtain ⟨⟨ty0, hty⟩, hnm, hpd, hfin, hcl⟩ := hPF C T N hc
  have ho : C = own := hco _ hc
  subst hw
  exact va_putF (D := E.2.1) (ci := ci) (v := v) (ty := ty) (C := C) (T := T) (N := N) hx hb hts hin ty0 hty hnm hown hK hP hD hS q he hc k hk (hts _ hfl) (fun _ h9 => h9) hfin hI (hcl.trans ho) hpd hn hfit hlt hd (fun H1 locs1 hP1 hD1 hS1 => kk H1 locs1 ls hP1 hD1 hS1 hl)
theorem g_iald (B : Bd E X cc own nL fr lo mc ms) {a n : Nat} {f : Nat → Int32} {i : Int32} (q : Nat) (he : ws[q]? = some (a, .inl (E.2.2.1 0, n, .inl f))) (hin : vp_in i n) (hd : decode cc pc = .ok (.iaload, 1)) (kk : G E X nL ws nc ns lv (pc + 1) (.int (f i.toNatClampNeg) :: st)) : G E X nL ws nc ns lv pc (.int i :: .ref a :: st) := by
  obtain ⟨p, e, s, m, args, below, meth, c, R, A, Q⟩ := X
  obtain ⟨hx, hb, hml, hown, hts, hK, hA, hSt, hNe, hlk, hR⟩ := B
  intro H locs ls hP hD hS hl
  exact va_iald hx hb hK hP q 0 he rfl hin hd (kk H locs ls hP hD hS hl)
theorem g_bald (B : Bd E X cc own nL fr lo mc ms) {a n : Nat} {f : Nat → Int32} {i : Int32} (q : Nat) (he : ws[q]? = some (a, .inl (E.2.2.1 1, n, .inl f))) (hin : vp_in i n) (hd : decode cc pc = .ok (.baload, 1)) (kk : G E X nL ws nc ns lv (pc + 1) (.int (f i.toNatClampNeg) :: st)) : G E X nL ws nc ns lv pc (.int i :: .ref a :: st) := by
  obtain ⟨p, e, s, m, args, below, meth, c, R, A, Q⟩ := X
  obtain ⟨hx, hb, hml, hown, hts, hK, hA, hSt, hNe, hlk, hR⟩ := B
  intro H locs ls hP hD hS hl
  exact va_bald hx hb hK hP q 1 he rfl hin hd (kk H locs ls hP hD hS hl)
theorem g_zald (B : Bd E X cc own nL fr lo mc ms) {a n : Nat} {f : Nat → Int32} {i : Int32} (q : Nat) (he : ws[q]? = some (a, .inl (E.2.2.1 2, n, .inl f))) (hin : vp_in i n) (hd : decode cc pc = .ok (.baload, 1)) (kk : G E X nL ws nc ns lv (pc + 1) (.int (f i.toNatClampNeg) :: st)) : G E X nL ws nc ns lv pc (.int i :: .ref a :: st) := by
  obtain ⟨p, e, s, m, args, below, meth, c, R, A, Q⟩ := X
  obtain ⟨hx, hb, hml, hown, hts, hK, hA, hSt, hNe, hlk, hR⟩ := B
  intro H locs ls hP hD hS hl
  exact va_zald hx hb hK hP q 2 he rfl hin hd (kk H locs ls hP hD hS hl)
theorem g_lald (B : Bd E X cc own nL fr lo mc ms) {a n : Nat} {f : Nat → Int64} {i : Int32} (q : Nat) (he : ws[q]? = some (a, .inl (E.2.2.1 3, n, .inr (.inl f)))) (hin : vp_in i n) (hd : decode cc pc = .ok (.laload, 1)) (kk : G E X nL ws nc ns lv (pc + 1) (.long (f i.toNatClampNeg) :: st)) : G E X nL ws nc ns lv pc (.int i :: .ref a :: st) := by
  obtain ⟨p, e, s, m, args, below, meth, c, R, A, Q⟩ := X
  obtain ⟨hx, hb, hml, hown, hts, hK, hA, hSt, hNe, hlk, hR⟩ := B
  intro H locs ls hP hD hS hl
  exact va_lald hx hb hK hP q 3 he rfl hin hd (kk H locs ls hP hD hS hl)
theorem g_iast (B : Bd E X cc own nL fr lo mc ms) {a n : Nat} {f : Nat → Int32} {i : Int32} {x : Int32} {ws' : va_W} (q : Nat) (he : ws[q]? = some (a, .inl (E.2.2.1 0, n, .inl f))) (hin : vp_in i n) (hw : ws.set q (a, .inl (E.2.2.1 0, n, .inl (upd f i.toNatClampNeg x))) = ws') (hd : decode cc pc = .ok (.iastore, 1)) (kk : G E X nL ws' nc ns lv (pc + 1) st) : G E X nL ws nc ns lv pc (.int x :: .int i :: .ref a :: st) := by
  obtain ⟨p, e, s, m, args, below, meth, c, R, A, Q⟩ := X
  obtain ⟨hx, hb, hml, hown, hts, hK, hA, hSt, hNe, hlk, hR⟩ := B
  intro H locs ls hP hD hS hl
  subst hw
  exact va_iast hx hb hK hP hD hS q 0 he rfl hin hd (fun H1 locs1 hP1 hD1 hS1 => kk H1 locs1 ls hP1 hD1 hS1 hl)
theorem g_bast (B : Bd E X cc own nL fr lo mc ms) {a n : Nat} {f : Nat → Int32} {i : Int32} {x : Int32} {ws' : va_W} (q : Nat) (he : ws[q]? = some (a, .inl (E.2.2.1 1, n, .inl f))) (hin : vp_in i n) (hw : ws.set q (a, .inl (E.2.2.1 1, n, .inl (upd f i.toNatClampNeg (vp_nar .byte x)))) = ws') (hd : decode cc pc = .ok (.bastore, 1)) (kk : G E X nL ws' nc ns lv (pc + 1) st) : G E X nL ws nc ns lv pc (.int x :: .int i :: .ref a :: st) := by
  obtain ⟨p, e, s, m, args, below, meth, c, R, A, Q⟩ := X
  obtain ⟨hx, hb, hml, hown, hts, hK, hA, hSt, hNe, hlk, hR⟩ := B
  intro H locs ls hP hD hS hl
  subst hw
  exact va_bast hx hb hK hP hD hS q 1 he rfl hin hd (fun H1 locs1 hP1 hD1 hS1 => kk H1 locs1 ls hP1 hD1 hS1 hl)
theorem g_zast (B : Bd E X cc own nL fr lo mc ms) {a n : Nat} {f : Nat → Int32} {i : Int32} {x : Int32} {ws' : va_W} (q : Nat) (he : ws[q]? = some (a, .inl (E.2.2.1 2, n, .inl f))) (hin : vp_in i n) (hw : ws.set q (a, .inl (E.2.2.1 2, n, .inl (upd f i.toNatClampNeg (vp_nar .boolean x)))) = ws') (hd : decode cc pc = .ok (.bastore, 1)) (kk : G E X nL ws' nc ns lv (pc + 1) st) : G E X nL ws nc ns lv pc (.int x :: .int i :: .ref a :: st) := by
  obtain ⟨p, e, s, m, args, below, meth, c, R, A, Q⟩ := X
  obtain ⟨hx, hb, hml, hown, hts, hK, hA, hSt, hNe, hlk, hR⟩ := B
  intro H locs ls hP hD hS hl
  subst hw
  exact va_zast hx hb hK hP hD hS q 2 he rfl hin hd (fun H1 locs1 hP1 hD1 hS1 => kk H1 locs1 ls hP1 hD1 hS1 hl)
theorem g_last (B : Bd E X cc own nL fr lo mc ms) {a n : Nat} {f : Nat → Int64} {i : Int32} {x : Int64} {ws' : va_W} (q : Nat) (he : ws[q]? = some (a, .inl (E.2.2.1 3, n, .inr (.inl f)))) (hin : vp_in i n) (hw : ws.set q (a, .inl (E.2.2.1 3, n, .inr (.inl (vp_updL f i.toNatClampNeg x)))) = ws') (hd : decode cc pc = .ok (.lastore, 1)) (kk : G E X nL ws' nc ns lv (pc + 1) st) : G E X nL ws nc ns lv pc (.long x :: .int i :: .ref a :: st) := by
  obtain ⟨p, e, s, m, args, below, meth, c, R, A, Q⟩ := X
  obtain ⟨hx, hb, hml, hown, hts, hK, hA, hSt, hNe, hlk, hR⟩ := B
  intro H locs ls hP hD hS hl
  subst hw
  exact va_last hx hb hK hP hD hS q 3 he rfl hin hd (fun H1 locs1 hP1 hD1 hS1 => kk H1 locs1 ls hP1 hD1 hS1 hl)
theorem g_alen (B : Bd E X cc own nL fr lo mc ms) {a t0 : Nat} {x : vp_A} {v : Int32} (q : Nat) (ht0 : t0 < 4) (he : ws[q]? = some (a, .inl (E.2.2.1 t0, x))) (hv : Int32.ofNat x.1 = v) (hd : decode cc pc = .ok (.arraylength, 1)) (kk : G E X nL ws nc ns lv (pc + 1) (.int v :: st)) : G E X nL ws nc ns lv pc (.ref a :: st) := by
  obtain ⟨p, e, s, m, args, below, meth, c, R, A, Q⟩ := X
  obtain ⟨hx, hb, hml, hown, hts, hK, hA, hSt, hNe, hlk, hR⟩ := B
  intro H locs ls hP hD hS hl
  match t0, ht0, he with
  | 0, _, he => exact va_alen hx hb hK hP q 0 he (ty := .int) rfl hv hd (kk H locs ls hP hD hS hl)
  | 1, _, he => exact va_alen hx hb hK hP q 1 he (ty := .byte) rfl hv hd (kk H locs ls hP hD hS hl)
  | 2, _, he => exact va_alen hx hb hK hP q 2 he (ty := .boolean) rfl hv hd (kk H locs ls hP hD hS hl)
  | 3, _, he => exact va_alen hx hb hK hP q 3 he (ty := .long) rfl hv hd (kk H locs ls hP hD hS hl)
  | (_ + 4), h, _ => exact absurd h (by omega)
theorem g_sub {ws' : va_W} (is : List Nat) (hn : va_nd is = true) (hs : is.map (fun i => ws[i]?) = ws'.map some) (kk : G E X nL ws' nc ns lv pc st) : G E X nL ws nc ns lv pc st := by
  obtain ⟨p, e, s, m, args, below, meth, c, R, A, Q⟩ := X
  intro H locs ls hP hD hS hl
  have hP' : va_P E.2.1 vwCl ws' H := by
    intro k q hq
    have h1 : (is.map (fun i => ws[i]?))[k]? = some (some q) := by rw [hs, List.getElem?_map, hq]; rfl
    rw [List.getElem?_map] at h1
    cases hi : is[k]? with
    | none => rw [hi] at h1; cases h1
    | some i => rw [hi] at h1; exact hP i q (Option.some.inj h1)
  exact kk H locs ls hP' (hD.sub is hn hs) hS hl
theorem g_lvsub {lv' : List (Nat × Value)} (ks : List Nat) (h : lv_pick lv ks = lv') (kk : G E X nL ws nc ns lv' pc st) : G E X nL ws nc ns lv pc st := by
  obtain ⟨p, e, s, m, args, below, meth, c, R, A, Q⟩ := X
  intro H locs ls hP hD hS hl
  exact kk H locs ls hP hD hS (lv_sub hl ks h)
theorem g_iret (B : Bd E X cc own nL fr lo mc ms) {Q : Option Value → va_W → Prop} (hr : Rt E X (some .int) mc ms Q) {v : Int32} (hd : decode cc pc = .ok (.ireturn, 1)) (hc : nc ≤ mc) (hs : ns ≤ ms) (hq : Q (some (.int v)) ws) : G E X nL ws nc ns lv pc [.int v] := by
  obtain ⟨p, e, s, m, args, below, meth, c, R, A, QQ⟩ := X
  obtain ⟨hx, hb, hml, hown, hts, hK, hA, hSt, hNe, hlk, hR⟩ := B
  intro H locs ls hP hD hS hl
  obtain ⟨hr1, rfl⟩ := hr
  refine W.widen hc hs ?_
  exact W.iret (v := v) hx hb hr1 (fun t ht hW => ⟨⟨_, ws, rfl, hq, by rw [ht]; exact hP, va_K.moved hW.alike hK, hD⟩, hS.F ht⟩) hS.2.2 hd
theorem g_zret (B : Bd E X cc own nL fr lo mc ms) {Q : Option Value → va_W → Prop} (hr : Rt E X (some .boolean) mc ms Q) {v : Int32} (hn : narrow .boolean (.int v) = .int v) (hd : decode cc pc = .ok (.ireturn, 1)) (hc : nc ≤ mc) (hs : ns ≤ ms) (hq : Q (some (.int v)) ws) : G E X nL ws nc ns lv pc [.int v] := by
  obtain ⟨p, e, s, m, args, below, meth, c, R, A, QQ⟩ := X
  obtain ⟨hx, hb, hml, hown, hts, hK, hA, hSt, hNe, hlk, hR⟩ := B
  intro H locs ls hP hD hS hl
  obtain ⟨hr1, rfl⟩ := hr
  refine W.widen hc hs ?_
  exact W.zret (v := v) hx hb hr1 hn (fun t ht hW => ⟨⟨_, ws, rfl, hq, by rw [ht]; exact hP, va_K.moved hW.alike hK, hD⟩, hS.F ht⟩) hS.2.2 hd
theorem g_lret (B : Bd E X cc own nL fr lo mc ms) {Q : Option Value → va_W → Prop} (hr : Rt E X (some .long) mc ms Q) {v : Int64} (hd : decode cc pc = .ok (.lreturn, 1)) (hc : nc ≤ mc) (hs : ns ≤ ms) (hq : Q (some (.long v)) ws) : G E X nL ws nc ns lv pc [.long v] := by
  obtain ⟨p, e, s, m, args, below, meth, c, R, A, QQ⟩ := X
  obtain ⟨hx, hb, hml, hown, hts, hK, hA, hSt, hNe, hlk, hR⟩ := B
  intro H locs ls hP hD hS hl
  obtain ⟨hr1, rfl⟩ := hr
  refine W.widen hc hs ?_
  exact W.lret (v := v) hx hb hr1 (fun t ht hW => ⟨⟨_, ws, rfl, hq, by rw [ht]; exact hP, va_K.moved hW.alike hK, hD⟩, hS.F ht⟩) hS.2.2 hd
theorem g_vret (B : Bd E X cc own nL fr lo mc ms) {Q : Option Value → va_W → Prop} (hr : Rt E X none mc ms Q) (hd : decode cc pc = .ok (.return_, 1)) (hc : nc ≤ mc) (hs : ns ≤ ms) (hq : Q none ws) : G E X nL ws nc ns lv pc [] := by
  obtain ⟨p, e, s, m, args, below, meth, c, R, A, QQ⟩ := X
  obtain ⟨hx, hb, hml, hown, hts, hK, hA, hSt, hNe, hlk, hR⟩ := B
  intro H locs ls hP hD hS hl
  obtain ⟨hr1, rfl⟩ := hr
  refine W.widen hc hs ?_
  exact W.vret hx hb hr1 (fun t ht hW => ⟨⟨_, ws, rfl, hq, by rw [ht]; exact hP, va_K.moved hW.alike hK, hD⟩, hS.F ht⟩) hS.2.2 hd
theorem g_aret (B : Bd E X cc own nL fr lo mc ms) {Q : Option Value → va_W → Prop} {ot : String} (hr : Rt E X (some (.object ot)) mc ms Q) {v : Value} (hv : v = .null ∨ ∃ a, v = .ref a) (hd : decode cc pc = .ok (.areturn, 1)) (hc : nc ≤ mc) (hs : ns ≤ ms) (hq : Q (some v) ws) : G E X nL ws nc ns lv pc [v] := by
  obtain ⟨p, e, s, m, args, below, meth, c, R, A, QQ⟩ := X
  obtain ⟨hx, hb, hml, hown, hts, hK, hA, hSt, hNe, hlk, hR⟩ := B
  intro H locs ls hP hD hS hl
  obtain ⟨hr1, rfl⟩ := hr
  refine W.widen hc hs ?_
  exact W.aret (v := v) hx hb hr1 (Or.inl ⟨_, rfl⟩) hv (fun t ht hW => ⟨⟨_, ws, rfl, hq, by rw [ht]; exact hP, va_K.moved hW.alike hK, hD⟩, hS.F ht⟩) hS.2.2 hd
/-- Object's constructor -/
theorem g_obj (B : Bd E X cc own nL fr lo mc ms) {idx a : Nat} (hw : Cond.methodLink own idx objectInit ∈ g_tbl) (h1 : Cond.instanceMethod objectInit ∈ g_tbl) (h2 : Cond.code objectInit ⟨#[0xb1]⟩ 1 none ∈ g_tbl) (hf : 1 ≤ fr) (hlo : (st.map fun v => v.category).sum + 12 ≤ lo) (hd : decode cc pc = .ok (.invokespecial idx, 3)) (kk : G E X nL ws nc ns lv (pc + 3) st) : G E X nL ws nc ns lv pc (.ref a :: st) := by
  obtain ⟨p, e, s, m, args, below, meth, c, R, A, Q⟩ := X
  obtain ⟨hx, hb, hml, hown, hts, hK, hA, hSt, hNe, hlk, hR⟩ := B
  intro H locs ls hP hD hS hl
  subst hR
  exact W.objInit hx hb hown (hts _ hw) (hts _ h1) (hts _ h2) rfl (by rw [hml]; exact hl.1) rfl hd hf (by show 2 * 0 + _ + 12 ≤ lo; omega) (kk H locs ls hP hD hS hl)
/-- a new array of numbers -/
theorem g_newa (B : Bd E X cc own nL fr lo mc ms) {atype : ArrayType} {ty : FieldType} {t0 : Nat} {n : Int32} {N nc' ns' : Nat} {a0 : vp_A} {ws' : Nat → va_W} (hw : Cond.arrayClass ty ∈ g_tbl) (hty : newarray.typeOf atype = ty) (ht : (g_ty E)[t0]? = some (E.2.2.1 t0, ty)) (hk : refKind ty = false) (ha : ∀ cA : ClassId, vp_cell cA a0 = arrV cA N (fun _ => defaultValue ty)) (hn : ¬ n < 0) (hN : n.toNatClampNeg = N) (hbytes : N * componentBytes ty ≤ 536870912) (hc : nc + 1 = nc') (hs : ns + N = ns') (hcm : nc' ≤ mc) (hsm : ns' ≤ ms) (hws : ∀ q, ws ++ [(q, .inl (E.2.2.1 t0, a0))] = ws' q) (hd : decode cc pc = .ok (.newarray atype, 2)) (kk : ∀ q, G E X nL (ws' q) nc' ns' lv (pc + 2) (.ref q :: st)) : G E X nL ws nc ns lv pc (.int n :: st) := by
  obtain ⟨p, e, s, m, args, below, meth, c, R, A, Q⟩ := X
  obtain ⟨hx, hb, hml, hown, hts, hK, hA, hSt, hNe, hlk, hR⟩ := B
  intro H locs ls hP hD hS hl
  subst hc hs hR hty
  refine va_newa hx hb (hts _ hw) rfl hK hP hD hS hA ha hn hN hbytes hcm hsm hd (fun q cA H1 hK1 hP1 hD1 hS1 => ?_)
  have e1 := (hK1.2 4 _ rfl).2
  have e2 := (hK.2 t0 _ ht).2
  have e3 : cA = E.2.2.1 t0 := by
    cases atype <;> exact Option.some.inj (e1.symm.trans e2)
  subst e3
  rw [hws q] at hP1 hD1
  exact kk q H1 locs ls hP1 hD1 hS1 hl
/-- a class of which objects are made: its words -/
def NL (own : String) (idx ci N : Nat) (fs : List Value) : Prop := ∃ (C : String) (T : u_T) (ty : Nat → FieldType), vwCl[ci]? = some (C, T, N) ∧ (∀ w ∈ u_ws C T N, w ∈ g_tbl) ∧ (∀ k, k < N → parseFieldDescriptor (T k).2.2.1 = some (ty k)) ∧ Cond.classLink own idx C ∈ g_tbl ∧ Cond.instantiable C N ∈ g_tbl ∧ Cond.initialized C ∈ g_tbl ∧ ∀ j, j < N → defaultValue (ty j) = vp_V fs j
theorem g_new (B : Bd E X cc own nL fr lo mc ms) {idx ci N nc' ns' : Nat} {fs : List Value} {ws' : Nat → va_W} (hN : NL own idx ci N fs) (hc : nc + 1 = nc') (hs : ns + N = ns') (hcm : nc' ≤ mc) (hsm : ns' ≤ ms) (hws : ∀ q, ws ++ [(q, .inr (ci, fs))] = ws' q) (hd : decode cc pc = .ok (.new idx, 3)) (kk : ∀ q, G E X nL (ws' q) nc' ns' lv (pc + 3) (.ref q :: st)) : G E X nL ws nc ns lv pc st := by
  obtain ⟨p, e, s, m, args, below, meth, c, R, A, Q⟩ := X
  obtain ⟨hx, hb, hml, hown, hts, hK, hA, hSt, hNe, hlk, hR⟩ := B
  intro H locs ls hP hD hS hl
  subst hc hs hR
  obtain ⟨C, T, ty, h1, h2, h3, h4, h5, h6, h7⟩ := hN
  refine va_new (ci := ci) (fs := fs) (C := C) (T := T) (N := N) hx hb hts h2 ty h3 hown (hts _ h4) (hts _ h5) (hts _ h6) hK hP hD hS hA h1 h7 hcm hsm hd (fun q H1 hP1 hD1 hS1 => ?_)
  rw [hws q] at hP1 hD1
  exact kk q H1 locs ls hP1 hD1 hS1 hl
/-- the static table, from a nest mate -/
theorem g_getsN (B : Bd E X cc "SoundPress$Bytes" nL fr lo mc ms) (hd : decode cc pc = .ok (.getstatic NEST_B, 3)) (kk : G E X nL ws nc ns lv (pc + 3) (.ref E.2.2.2 :: st)) : G E X nL ws nc ns lv pc st := by
  obtain ⟨p, e, s, m, args, below, meth, c, R, A, Q⟩ := X
  obtain ⟨hx, hb, hml, hown, hts, hK, hA, hSt, hNe, hlk, hR⟩ := B
  intro H locs ls hP hD hS hl
  exact va_getsN hx hb hSt.1 hS hown (hNe.2.2.use rfl) (fun _ h => h) hd (kk H locs ls hP hD hS hl)
theorem g_tald (B : Bd E X cc own nL fr lo mc ms) {i : Int32} (hin : vp_in i 16) (hd : decode cc pc = .ok (.iaload, 1)) (kk : G E X nL ws nc ns lv (pc + 1) (.int (g_crc.getD i.toNatClampNeg 0) :: st)) : G E X nL ws nc ns lv pc (.int i :: .ref E.2.2.2 :: st) := by
  obtain ⟨p, e, s, m, args, below, meth, c, R, A, Q⟩ := X
  obtain ⟨hx, hb, hml, hown, hts, hK, hA, hSt, hNe, hlk, hR⟩ := B
  intro H locs ls hP hD hS hl
  exact va_ti hx hb hSt.2 hS hin rfl hd (kk H locs ls hP hD hS hl)
theorem g_mmax (B : Bd E X cc own nL fr lo mc ms) {idx : Nat} {x y : Int32} (h1 : Cond.methodLink own idx Lib.Math.max.name ∈ g_tbl) (h2 : Cond.static Lib.Math.max.name ∈ g_tbl) (h3 : Cond.initialized "java/lang/Math" ∈ g_tbl) (h4 : Cond.code Lib.Math.max.name Lib.Math.max.code 2 (some .int) ∈ g_tbl) (hf : 1 ≤ fr) (hlo : (st.map fun v => v.category).sum + 13 ≤ lo) (hc : nc ≤ mc) (hs : ns ≤ ms) (hd : decode cc pc = .ok (.invokestatic idx, 3)) (kk : G E X nL ws nc ns lv (pc + 3) (.int (if x < y then y else x) :: st)) : G E X nL ws nc ns lv pc (.int y :: .int x :: st) := by
  obtain ⟨p, e, s, m, args, below, meth, c, R, A, Q⟩ := X
  obtain ⟨hx, hb, hml, hown, hts, hK, hA, hSt, hNe, hlk, hR⟩ := B
  intro H locs ls hP hD hS hl
  subst hR
  exact va_mmax hx hb (hml.trans hl.1.symm) hown (hts _ h1) (hts _ h2) (hts _ h3) (hts _ h4) hf hlo hc hs hd (kk H locs ls hP hD hS hl)
theorem g_mmin (B : Bd E X cc own nL fr lo mc ms) {idx : Nat} {x y : Int32} (h1 : Cond.methodLink own idx Lib.Math.min.name ∈ g_tbl) (h2 : Cond.static Lib.Math.min.name ∈ g_tbl) (h3 : Cond.initialized "java/lang/Math" ∈ g_tbl) (h4 : Cond.code Lib.Math.min.name Lib.Math.min.code 2 (some .int) ∈ g_tbl) (hf : 1 ≤ fr) (hlo : (st.map fun v => v.category).sum + 13 ≤ lo) (hc : nc ≤ mc) (hs : ns ≤ ms) (hd : decode cc pc = .ok (.invokestatic idx, 3)) (kk : G E X nL ws nc ns lv (pc + 3) (.int (if y < x then y else x) :: st)) : G E X nL ws nc ns lv pc (.int y :: .int x :: st) := by
  obtain ⟨p, e, s, m, args, below, meth, c, R, A, Q⟩ := X
  obtain ⟨hx, hb, hml, hown, hts, hK, hA, hSt, hNe, hlk, hR⟩ := B
  intro H locs ls hP hD hS hl
  subst hR
  exact va_mmin hx hb (hml.trans hl.1.symm) hown (hts _ h1) (hts _ h2) (hts _ h3) (hts _ h4) hf hlo hc hs hd (kk H locs ls hP hD hS hl)
theorem g_mabs (B : Bd E X cc own nL fr lo mc ms) {idx : Nat} {x : Int32} (h1 : Cond.methodLink own idx Lib.Math.abs.name ∈ g_tbl) (h2 : Cond.static Lib.Math.abs.name ∈ g_tbl) (h3 : Cond.initialized "java/lang/Math" ∈ g_tbl) (h4 : Cond.code Lib.Math.abs.name Lib.Math.abs.code 1 (some .int) ∈ g_tbl) (hf : 1 ≤ fr) (hlo : (st.map fun v => v.category).sum + 13 ≤ lo) (hc : nc ≤ mc) (hs : ns ≤ ms) (hd : decode cc pc = .ok (.invokestatic idx, 3)) (kk : G E X nL ws nc ns lv (pc + 3) (.int (if 0 ≤ x then x else 0 - x) :: st)) : G E X nL ws nc ns lv pc (.int x :: st) := by
  obtain ⟨p, e, s, m, args, below, meth, c, R, A, Q⟩ := X
  obtain ⟨hx, hb, hml, hown, hts, hK, hA, hSt, hNe, hlk, hR⟩ := B
  intro H locs ls hP hD hS hl
  subst hR
  exact va_mabs hx hb (hml.trans hl.1.symm) hown (hts _ h1) (hts _ h2) (hts _ h3) (hts _ h4) hf hlo hc hs hd (kk H locs ls hP hD hS hl)
theorem g_mmaxl (B : Bd E X cc own nL fr lo mc ms) {idx : Nat} {x y : Int64} (h1 : Cond.methodLink own idx Lib.MathLoose.max_long.x ∈ g_tbl) (h2 : Cond.static Lib.MathLoose.max_long.x ∈ g_tbl) (h3 : Cond.initialized "java/lang/Math" ∈ g_tbl) (h4 : Cond.code Lib.MathLoose.max_long.x Lib.MathLoose.max_long.code 4 (some .long) ∈ g_tbl) (hf : 1 ≤ fr) (hlo : (st.map fun v => v.category).sum + 15 ≤ lo) (hc : nc ≤ mc) (hs : ns ≤ ms) (hd : decode cc pc = .ok (.invokestatic idx, 3)) (kk : G E X nL ws nc ns lv (pc + 3) (.long (if y < x then x else y) :: st)) : G E X nL ws nc ns lv pc (.long y :: .long x :: st) := by
  obtain ⟨p, e, s, m, args, below, meth, c, R, A, Q⟩ := X
  obtain ⟨hx, hb, hml, hown, hts, hK, hA, hSt, hNe, hlk, hR⟩ := B
  intro H locs ls hP hD hS hl
  subst hR
  exact va_mmax_long hx hb (hml.trans hl.1.symm) hown (hts _ h1) (hts _ h2) (hts _ h3) (hts _ h4) hf hlo hc hs hd (kk H locs ls hP hD hS hl)
theorem g_mminl (B : Bd E X cc own nL fr lo mc ms) {idx : Nat} {x y : Int64} (h1 : Cond.methodLink own idx Lib.MathLoose.min_long.x ∈ g_tbl) (h2 : Cond.static Lib.MathLoose.min_long.x ∈ g_tbl) (h3 : Cond.initialized "java/lang/Math" ∈ g_tbl) (h4 : Cond.code Lib.MathLoose.min_long.x Lib.MathLoose.min_long.code 4 (some .long) ∈ g_tbl) (hf : 1 ≤ fr) (hlo : (st.map fun v => v.category).sum + 15 ≤ lo) (hc : nc ≤ mc) (hs : ns ≤ ms) (hd : decode cc pc = .ok (.invokestatic idx, 3)) (kk : G E X nL ws nc ns lv (pc + 3) (.long (if y < x then y else x) :: st)) : G E X nL ws nc ns lv pc (.long y :: .long x :: st) := by
  obtain ⟨p, e, s, m, args, below, meth, c, R, A, Q⟩ := X
  obtain ⟨hx, hb, hml, hown, hts, hK, hA, hSt, hNe, hlk, hR⟩ := B
  intro H locs ls hP hD hS hl
  subst hR
  exact va_mmin_long hx hb (hml.trans hl.1.symm) hown (hts _ h1) (hts _ h2) (hts _ h3) (hts _ h4) hf hlo hc hs hd (kk H locs ls hP hD hS hl)
/-- behind a call -/
theorem g_back {p : Program} {l : Launch} {e : Env} {R : Room} {s : State} {m : MethodId} {args : Array Value} {below : List Frame} {meth : Method} {c : Code} {H : Heap} {locs : List Loc} {cells slots mc' ms' : Nat} {Q : State → Prop} {ls : Array Slot} {rest st0 : List Value} {A0 A1 : Nat → Prop} {H0 : Heap} {free : Addr → Prop} {Qc : Option Value → va_W → Prop} {a : Array Value}
    (hr : va_Run p l e R s m args below meth c H locs cells slots mc' ms' (F0 m pc ls st0) rest (g_Qc E Qc A1 a) free) (hS : va_S A0 H0 H locs) (hA : ∀ q, q < H.size → A1 q → A0 q) (hf : ∀ q, free q → A0 q)
    (kk : ∀ (v : Option Value) (w : va_W) (H1 : Heap) (locs1 : List Loc), Qc v w → va_P E.2.1 vwCl w H1 → va_D A1 w → H.size ≤ H1.size → (∀ q : Nat, q < H.size → ¬ A1 q → H1[q]? = H[q]?) → va_S A0 H0 H1 locs1 → W p l e R s m args below meth c H1 locs1 (cells + mc') (slots + ms') Q (F0 m (pc + 3) ls (v.toList ++ rest))) : W p l e R s m args below meth c H locs cells slots Q (F0 m pc ls st0) := by
  intro T hT X
  obtain ⟨v, st₀, t, T', L, h0, X', hL, e1, e2, ⟨⟨v', w, hv, hq, hP, hK, hD⟩, hz, hk⟩, st⟩ := hr T hT X
  cases hv
  rw [h0] at hz hk
  obtain ⟨t2, a1, b1⟩ := kk v w T'.heap (locs ++ L) hq (by rw [e1]; exact hP) hD (by rw [e1]; exact hz) (fun q h1 h2 => by rw [e1]; exact hk q h1 h2)
    ⟨Nat.le_trans hS.1 (by rw [e1]; exact hz), fun q h1 h2 => by rw [e1, hk q (Nat.lt_of_lt_of_le h1 hS.1) (fun z => h2 (hA q (Nat.lt_of_lt_of_le h1 hS.1) z))]; exact hS.2.1 q h1 h2, fun q hq => by
      rcases List.mem_append.mp hq with h | h
      · exact hS.2.2 q h
      · exact hf _ (hL q h)⟩ T' rfl X'
  exact ⟨t2, st t2 a1, b1⟩
theorem g_subP {D : va_G} {cl : List vw_C} {ws wc : va_W} {H : Heap} (hP : va_P D cl ws H) (is : List Nat) (hs : is.map (fun i => ws[i]?) = wc.map some) : va_P D cl wc H := by
  intro k q hq
  have h1 : (is.map (fun i => ws[i]?))[k]? = some (some q) := by rw [hs, List.getElem?_map, hq]; rfl
  rw [List.getElem?_map] at h1
  cases hi : is[k]? with
  | none => rw [hi] at h1; cases h1
  | some i => rw [hi] at h1; exact hP i q (Option.some.inj h1)
/-- a contract's start sees no frames -/
theorem g_blind {args : List Value} {wc : va_W} {sz : Nat} : FrameBlind (va_Pc args (fun U => U.heap.size = sz ∧ va_P E.2.1 vwCl wc U.heap ∧ va_K E.2.1 vwCl (g_ty E) U ∧ va_D (fun _ => True) wc ∧ g_St E (va_A wc sz) U U.heap ∧ g_N U)) := by
  intro a U g mk q
  obtain ⟨q0, q1, qP, qK, qD, qS, qN⟩ := q
  exact ⟨q0, q1, qP, va_K.moved (u := U) (U := U.calling g mk a) (Vm.Alike.refl U.vm) qK, qD, qS.moved (u := U) (U := U.calling g mk a) (Vm.Alike.refl U.vm), qN.same (u := U) (U := U.calling g mk a) rfl⟩
/-- words of a method that is called: link, code -/
def CL (own : String) (idx n : Nat) (M : g_M) : Prop := Cond.methodLink own idx M.1 ∈ g_tbl ∧ g_cw M ∈ g_tbl ∧ Cond.initialized M.1.cls ∈ g_tbl ∧ M.1.cls ≠ "java/lang/invoke/MethodHandle" ∧ M.1.cls ≠ "java/lang/invoke/VarHandle" ∧ (parseMethodDescriptor M.1.desc).map (fun d => d.parameters.length) = some n
theorem g_good {M : g_M} (h : g_cw M ∈ g_tbl) : GoodIn g_tbl (g_w M) := by
  intro w hw
  have h1 : w ∈ g_tbl := by
    rcases List.mem_cons.mp hw with h2 | h2
    · rw [h2]; exact h
    · exact h2
  exact ⟨h1, good_of_word (List.mem_filter.mp h1).2⟩
theorem g_callV (B : Bd E X cc own nL fr lo mc ms) {M : g_M} {f1 l1 c1 s1 idx n b ci nc' ns' : Nat} {As : List Value} {stk : List Value} {wc wr : va_W} {Qc : Option Value → va_W → Prop} {fs : List Value} (hC : CL own idx n M) (hI : Cond.instanceMethod M.1 ∈ g_tbl) (hV : Cond.selects M.1.cls M.1 M.1 ∈ g_tbl) (hE : Ev E M f1 l1 c1 s1 (.ref b :: As) wc Qc) (hn : As.length = n) (isC isR : List Nat) (h1 : isC.map (fun i => ws[i]?) = wc.map some) (h2 : isR.map (fun i => ws[i]?) = wr.map some) (h3 : va_nd isC = true) (h4 : va_nd isR = true) (h5 : ∀ i ∈ isR, i ∉ isC) (q0 : Nat) (he : wc[q0]? = some (b, .inr (ci, fs))) (hcl : ∀ q : vw_C, vwCl[ci]? = some q → q.1 = M.1.cls) (hci : (vwCl[ci]?).isSome = true) (hroom : f1 + 1 ≤ fr ∧ 8 + (M.2.2.1 + 11) + l1 ≤ lo) (hnc : nc + c1 = nc') (hns : ns + s1 = ns') (hcm : nc' ≤ mc) (hsm : ns' ≤ ms) (hstk : stk = As.reverse ++ .ref b :: st) (hst : (st.map fun v => v.category).sum ≤ 8) (hd : decode cc pc = .ok (.invokevirtual idx, 3)) (kk : ∀ (v : Option Value) (w : va_W), Qc v w → G E X nL (wr ++ w) nc' ns' lv (pc + 3) (v.toList ++ st)) : G E X nL ws nc ns lv pc stk := by
  obtain ⟨p, e, s, m, args, below, meth, c, R, A, Q⟩ := X
  obtain ⟨hx, hb, hml, hown, hts, hK, hA, hSt, hNe, hlk, hR⟩ := B
  intro H locs ls hP hD hS hl
  subst hnc hns hR hstk
  obtain ⟨cM, cC, cI, cn1, cn2, cd⟩ := hC
  obtain ⟨q, hq⟩ := Option.isSome_iff_exists.mp hci
  have hPc := g_subP hP isC h1
  have hDc := hD.sub isC h3 h1
  have hFc := va_free (wc := wc) hD hS hA isC h1
  obtain ⟨y, yc, yL, yr⟩ := M
  have hcw : CallW { frames := fr, cells := mc, slots := ms, locals := lo } s args own y.cls idx y yc yL yr (g_w (y, yc, yL, yr)) { frames := f1, cells := c1, slots := s1, locals := l1 } c1 s1 n := ⟨callB_of n hts (g_good cC) rfl rfl rfl (hts _ cI) (hts _ cM) ⟨cn1, cn2, cd⟩ hroom, hts _ hI, hts _ hV⟩
  refine g_back (va_runV (As := As) (rest := st) (Ts := g_tbl) ⟨hx, hb, hml, hown, hts⟩ (hE H.size) hcw ⟨g_blind, ?_, fun U hU hW => ⟨rfl, by rw [hU], by rw [hU]; exact hPc, va_K.moved hW.alike hK, hDc.weaken (fun _ _ _ _ => trivial), ?_, hNe.warm hW⟩⟩ rfl hn hl.1 rfl (lv_room hst) hd ⟨hcm, hsm⟩) hS (fun q _ h => hFc q h) hFc (fun v w H1 locs1 hqc hP1 hD1 hz1 hk1 hS1 => ?_)
  · have h9 := va_recv (q := q) hK hPc hq he
    rw [hcl q hq] at h9
    exact h9
  · rw [hU]
    exact ((hSt.kept (H1 := H) (fun a ha hna => hS.2.1 a ha hna)).narrow hFc).moved hW.alike
  · obtain ⟨hP2, hD2⟩ := va_join hP hD isC isR h1 h2 h4 h5 hk1 hFc hP1 hD1
    exact kk v w hqc H1 locs1 ls hP2 hD2 hS1 hl
theorem g_callI (B : Bd E X cc own nL fr lo mc ms) {M : g_M} {f1 l1 c1 s1 idx n b nc' ns' : Nat} {As : List Value} {stk : List Value} {wc wr : va_W} {Qc : Option Value → va_W → Prop} (hC : CL own idx n M) (hI : Cond.instanceMethod M.1 ∈ g_tbl) (hN : M.1.name = "<init>") (hrt : M.2.2.2 = none) (hE : Ev E M f1 l1 c1 s1 (.ref b :: As) wc Qc) (hn : As.length = n) (isC isR : List Nat) (h1 : isC.map (fun i => ws[i]?) = wc.map some) (h2 : isR.map (fun i => ws[i]?) = wr.map some) (h3 : va_nd isC = true) (h4 : va_nd isR = true) (h5 : ∀ i ∈ isR, i ∉ isC) (hroom : f1 + 1 ≤ fr ∧ 8 + (M.2.2.1 + 11) + l1 ≤ lo) (hnc : nc + c1 = nc') (hns : ns + s1 = ns') (hcm : nc' ≤ mc) (hsm : ns' ≤ ms) (hstk : stk = As.reverse ++ .ref b :: st) (hst : (st.map fun v => v.category).sum ≤ 8) (hd : decode cc pc = .ok (.invokespecial idx, 3)) (kk : ∀ (v : Option Value) (w : va_W), Qc v w → G E X nL (wr ++ w) nc' ns' lv (pc + 3) (v.toList ++ st)) : G E X nL ws nc ns lv pc stk := by
  obtain ⟨p, e, s, m, args, below, meth, c, R, A, Q⟩ := X
  obtain ⟨hx, hb, hml, hown, hts, hK, hA, hSt, hNe, hlk, hR⟩ := B
  intro H locs ls hP hD hS hl
  subst hnc hns hR hstk
  obtain ⟨cM, cC, cI, cn1, cn2, cd⟩ := hC
  have hPc := g_subP hP isC h1
  have hDc := hD.sub isC h3 h1
  have hFc := va_free (wc := wc) hD hS hA isC h1
  obtain ⟨y, yc, yL, yr⟩ := M
  subst hrt
  have hcw : CallB { frames := fr, cells := mc, slots := ms, locals := lo } s args own idx y yc yL none (g_w (y, yc, yL, none)) { frames := f1, cells := c1, slots := s1, locals := l1 } c1 s1 n := callB_of n hts (g_good cC) rfl rfl rfl (hts _ cI) (hts _ cM) ⟨cn1, cn2, cd⟩ hroom
  refine g_back (va_runI (As := As) (rest := st) (Ts := g_tbl) ⟨hx, hb, hml, hown, hts⟩ (hE H.size) ⟨hcw, hN, hts _ hI⟩ ⟨g_blind, fun U hU hW => ⟨rfl, by rw [hU], by rw [hU]; exact hPc, va_K.moved hW.alike hK, hDc.weaken (fun _ _ _ _ => trivial), ?_, hNe.warm hW⟩⟩ rfl hn hl.1 rfl (lv_room hst) hd ⟨hcm, hsm⟩) hS (fun q _ h => hFc q h) hFc (fun v w H1 locs1 hqc hP1 hD1 hz1 hk1 hS1 => ?_)
  · rw [hU]
    exact ((hSt.kept (H1 := H) (fun a ha hna => hS.2.1 a ha hna)).narrow hFc).moved hW.alike
  · obtain ⟨hP2, hD2⟩ := va_join hP hD isC isR h1 h2 h4 h5 hk1 hFc hP1 hD1
    exact kk v w hqc H1 locs1 ls hP2 hD2 hS1 hl
theorem g_callS (B : Bd E X cc own nL fr lo mc ms) {M : g_M} {f1 l1 c1 s1 idx n nc' ns' : Nat} {As : List Value} {stk : List Value} {wc wr : va_W} {Qc : Option Value → va_W → Prop} (hC : CL own idx n M) (hI : Cond.static M.1 ∈ g_tbl) (hE : Ev E M f1 l1 c1 s1 As wc Qc) (hn : As.length = n) (isC isR : List Nat) (h1 : isC.map (fun i => ws[i]?) = wc.map some) (h2 : isR.map (fun i => ws[i]?) = wr.map some) (h3 : va_nd isC = true) (h4 : va_nd isR = true) (h5 : ∀ i ∈ isR, i ∉ isC) (hroom : f1 + 1 ≤ fr ∧ 8 + (M.2.2.1 + 11) + l1 ≤ lo) (hnc : nc + c1 = nc') (hns : ns + s1 = ns') (hcm : nc' ≤ mc) (hsm : ns' ≤ ms) (hstk : stk = As.reverse ++ st) (hst : (st.map fun v => v.category).sum ≤ 8) (hd : decode cc pc = .ok (.invokestatic idx, 3)) (kk : ∀ (v : Option Value) (w : va_W), Qc v w → G E X nL (wr ++ w) nc' ns' lv (pc + 3) (v.toList ++ st)) : G E X nL ws nc ns lv pc stk := by
  obtain ⟨p, e, s, m, args, below, meth, c, R, A, Q⟩ := X
  obtain ⟨hx, hb, hml, hown, hts, hK, hA, hSt, hNe, hlk, hR⟩ := B
  intro H locs ls hP hD hS hl
  subst hnc hns hR hstk
  obtain ⟨cM, cC, cI, cn1, cn2, cd⟩ := hC
  have hPc := g_subP hP isC h1
  have hDc := hD.sub isC h3 h1
  have hFc := va_free (wc := wc) hD hS hA isC h1
  obtain ⟨y, yc, yL, yr⟩ := M
  have hcw : CallB { frames := fr, cells := mc, slots := ms, locals := lo } s args own idx y yc yL yr (g_w (y, yc, yL, yr)) { frames := f1, cells := c1, slots := s1, locals := l1 } c1 s1 n := callB_of n hts (g_good cC) rfl rfl rfl (hts _ cI) (hts _ cM) ⟨cn1, cn2, cd⟩ hroom
  refine g_back (va_runS (As := As) (rest := st) (Ts := g_tbl) ⟨hx, hb, hml, hown, hts⟩ (hE H.size) ⟨hcw, hts _ hI⟩ ⟨g_blind, fun U hU hW => ⟨rfl, by rw [hU], by rw [hU]; exact hPc, va_K.moved hW.alike hK, hDc.weaken (fun _ _ _ _ => trivial), ?_, hNe.warm hW⟩⟩ rfl hn hl.1 rfl (lv_room hst) hd ⟨hcm, hsm⟩) hS (fun q _ h => hFc q h) hFc (fun v w H1 locs1 hqc hP1 hD1 hz1 hk1 hS1 => ?_)
  · rw [hU]
    exact ((hSt.kept (H1 := H) (fun a ha hna => hS.2.1 a ha hna)).narrow hFc).moved hW.alike
  · obtain ⟨hP2, hD2⟩ := va_join hP hD isC isR h1 h2 h4 h5 hk1 hFc hP1 hD1
    exact kk v w hqc H1 locs1 ls hP2 hD2 hS1 hl
theorem g_ri {x x' : Int32} (h : x = x') (k : G E X nL ws nc ns lv pc (.int x' :: st)) : G E X nL ws nc ns lv pc (.int x :: st) := h ▸ k
theorem g_rl {x x' : Int64} (h : x = x') (k : G E X nL ws nc ns lv pc (.long x' :: st)) : G E X nL ws nc ns lv pc (.long x :: st) := h ▸ k
theorem g_hb : yX10_highestBit.cls ≠ "java/lang/invoke/MethodHandle" ∧ yX10_highestBit.cls ≠ "java/lang/invoke/VarHandle" ∧ (parseMethodDescriptor yX10_highestBit.desc).map (fun d => d.parameters.length) = some 1 := ⟨by decide +kernel, by decide +kernel, by decide +kernel⟩
theorem g_callSR (B : Bd E X cc "SoundPress$BitReader" nL fr lo mc ms) {f1 l1 c1 s1 nc' ns' : Nat} {yc : ByteArray} {yL : Nat} {yr : Option FieldType} {As : List Value} {stk : List Value} {wc wr : va_W} {Qc : Option Value → va_W → Prop} (cC : g_cw (yX10_highestBit, yc, yL, yr) ∈ g_tbl) (cI : Cond.initialized RX10 ∈ g_tbl) (hI : Cond.static yX10_highestBit ∈ g_tbl) (hE : Ev E (yX10_highestBit, yc, yL, yr) f1 l1 c1 s1 As wc Qc) (hn : As.length = 1) (isC isR : List Nat) (h1 : isC.map (fun i => ws[i]?) = wc.map some) (h2 : isR.map (fun i => ws[i]?) = wr.map some) (h3 : va_nd isC = true) (h4 : va_nd isR = true) (h5 : ∀ i ∈ isR, i ∉ isC) (hroom : f1 + 1 ≤ fr ∧ 8 + (yL + 11) + l1 ≤ lo) (hnc : nc + c1 = nc') (hns : ns + s1 = ns') (hcm : nc' ≤ mc) (hsm : ns' ≤ ms) (hstk : stk = As.reverse ++ st) (hst : (st.map fun v => v.category).sum ≤ 8) (hd : decode cc pc = .ok (.invokestatic NEST_R, 3)) (kk : ∀ (v : Option Value) (w : va_W), Qc v w → G E X nL (wr ++ w) nc' ns' lv (pc + 3) (v.toList ++ st)) : G E X nL ws nc ns lv pc stk := by
  obtain ⟨p, e, s, m, args, below, meth, c, R, A, Q⟩ := X
  obtain ⟨hx, hb, hml, hown, hts, hK, hA, hSt, hNe, hlk, hR⟩ := B
  intro H locs ls hP hD hS hl
  subst hnc hns hR hstk
  have hPc := g_subP hP isC h1
  have hDc := hD.sub isC h3 h1
  have hFc := va_free (wc := wc) hD hS hA isC h1
  have hcw := va_cnB (R := { frames := fr, cells := mc, slots := ms, locals := lo }) (rm := { frames := f1, cells := c1, slots := s1, locals := l1 }) (mc := c1) (ms := s1) (bytes := yc) (maxL := yL) (ret := yr) 1 hts (g_good (M := (yX10_highestBit, yc, yL, yr)) cC) rfl rfl rfl hNe.1 (hts _ cI) g_hb hroom
  refine g_back (va_runSN (As := As) (rest := st) (Ts := g_tbl) ⟨hx, hb, hml, hown, hts⟩ (hE H.size) ⟨hcw, hts _ hI, trivial⟩ ⟨g_blind, fun U hU hW => ⟨rfl, by rw [hU], by rw [hU]; exact hPc, va_K.moved hW.alike hK, hDc.weaken (fun _ _ _ _ => trivial), ?_, hNe.warm hW⟩⟩ rfl hn hl.1 rfl (lv_room hst) hd ⟨hcm, hsm⟩) hS (fun q _ h => hFc q h) hFc (fun v w H1 locs1 hqc hP1 hD1 hz1 hk1 hS1 => ?_)
  · rw [hU]
    exact ((hSt.kept (H1 := H) (fun a ha hna => hS.2.1 a ha hna)).narrow hFc).moved hW.alike
  · obtain ⟨hP2, hD2⟩ := va_join hP hD isC isR h1 h2 h4 h5 hk1 hFc hP1 hD1
    exact kk v w hqc H1 locs1 ls hP2 hD2 hS1 hl
theorem g_callSW (B : Bd E X cc "SoundPress$BitWriter" nL fr lo mc ms) {f1 l1 c1 s1 nc' ns' : Nat} {yc : ByteArray} {yL : Nat} {yr : Option FieldType} {As : List Value} {stk : List Value} {wc wr : va_W} {Qc : Option Value → va_W → Prop} (cC : g_cw (yX10_highestBit, yc, yL, yr) ∈ g_tbl) (cI : Cond.initialized RX10 ∈ g_tbl) (hI : Cond.static yX10_highestBit ∈ g_tbl) (hE : Ev E (yX10_highestBit, yc, yL, yr) f1 l1 c1 s1 As wc Qc) (hn : As.length = 1) (isC isR : List Nat) (h1 : isC.map (fun i => ws[i]?) = wc.map some) (h2 : isR.map (fun i => ws[i]?) = wr.map some) (h3 : va_nd isC = true) (h4 : va_nd isR = true) (h5 : ∀ i ∈ isR, i ∉ isC) (hroom : f1 + 1 ≤ fr ∧ 8 + (yL + 11) + l1 ≤ lo) (hnc : nc + c1 = nc') (hns : ns + s1 = ns') (hcm : nc' ≤ mc) (hsm : ns' ≤ ms) (hstk : stk = As.reverse ++ st) (hst : (st.map fun v => v.category).sum ≤ 8) (hd : decode cc pc = .ok (.invokestatic NEST_W, 3)) (kk : ∀ (v : Option Value) (w : va_W), Qc v w → G E X nL (wr ++ w) nc' ns' lv (pc + 3) (v.toList ++ st)) : G E X nL ws nc ns lv pc stk := by
  obtain ⟨p, e, s, m, args, below, meth, c, R, A, Q⟩ := X
  obtain ⟨hx, hb, hml, hown, hts, hK, hA, hSt, hNe, hlk, hR⟩ := B
  intro H locs ls hP hD hS hl
  subst hnc hns hR hstk
  have hPc := g_subP hP isC h1
  have hDc := hD.sub isC h3 h1
  have hFc := va_free (wc := wc) hD hS hA isC h1
  have hcw := va_cnB (R := { frames := fr, cells := mc, slots := ms, locals := lo }) (rm := { frames := f1, cells := c1, slots := s1, locals := l1 }) (mc := c1) (ms := s1) (bytes := yc) (maxL := yL) (ret := yr) 1 hts (g_good (M := (yX10_highestBit, yc, yL, yr)) cC) rfl rfl rfl hNe.2.1 (hts _ cI) g_hb hroom
  refine g_back (va_runSN (As := As) (rest := st) (Ts := g_tbl) ⟨hx, hb, hml, hown, hts⟩ (hE H.size) ⟨hcw, hts _ hI, trivial⟩ ⟨g_blind, fun U hU hW => ⟨rfl, by rw [hU], by rw [hU]; exact hPc, va_K.moved hW.alike hK, hDc.weaken (fun _ _ _ _ => trivial), ?_, hNe.warm hW⟩⟩ rfl hn hl.1 rfl (lv_room hst) hd ⟨hcm, hsm⟩) hS (fun q _ h => hFc q h) hFc (fun v w H1 locs1 hqc hP1 hD1 hz1 hk1 hS1 => ?_)
  · rw [hU]
    exact ((hSt.kept (H1 := H) (fun a ha hna => hS.2.1 a ha hna)).narrow hFc).moved hW.alike
  · obtain ⟨hP2, hD2⟩ := va_join hP hD isC isR h1 h2 h4 h5 hk1 hFc hP1 hD1
    exact kk v w hqc H1 locs1 ls hP2 hD2 hS1 hl
/-- System.arraycopy of bytes -/
theorem g_copyb (B : Bd E X cc own nL fr lo mc ms) {idx a a0 n0 n1 : Nat} {f g : Nat → Int32} {sp dp n : Int32} {ws' : va_W} (w1 : Cond.methodLink own idx arraycopyName ∈ g_tbl) (w2 : Cond.native arraycopyName ∈ g_tbl) (w3 : Cond.static arraycopyName ∈ g_tbl) (w4 : Cond.initialized "java/lang/System" ∈ g_tbl) (q0 q1 : Nat) (ha0 : ws[q0]? = some (a0, .inl (E.2.2.1 1, n0, .inl f))) (ha1 : ws[q1]? = some (a, .inl (E.2.2.1 1, n1, .inl g))) (h1 : ¬ sp < 0) (h2 : ¬ dp < 0) (h3 : ¬ n < 0) (h4 : sp.toNatClampNeg + n.toNatClampNeg ≤ n0) (h5 : dp.toNatClampNeg + n.toNatClampNeg ≤ n1) (hfit : ∀ i, i < n.toNatClampNeg → fits .byte (.int (f (sp.toNatClampNeg + i))) = true) (hf : 1 ≤ fr) (hlo : (st.map fun v => v.category).sum + (nativeFrameWords "java/lang/System" "arraycopy" 5 + 11) ≤ lo) (hw : ws.set q1 (a, .inl (E.2.2.1 1, n1, .inl (va_cpy f g sp.toNatClampNeg dp.toNatClampNeg n.toNatClampNeg))) = ws') (hd : decode cc pc = .ok (.invokestatic idx, 3)) (kk : G E X nL ws' nc ns lv (pc + 3) st) : G E X nL ws nc ns lv pc (.int n :: .int dp :: .ref a :: .int sp :: .ref a0 :: st) := by
  obtain ⟨p, e, s, m, args, below, meth, c, R, A, Q⟩ := X
  obtain ⟨hx, hb, hml, hown, hts, hK, hA, hSt, hNe, hlk, hR⟩ := B
  intro H locs ls hP hD hS hl
  subst hR hw
  exact va_copyi hx hb (hml.trans hl.1.symm) hown (hts _ w1) (hts _ w2) (hts _ w3) (hts _ w4) hK hP hD hS q0 q1 1 1 ha0 ha1 (ty := .byte) rfl rfl rfl h1 h2 h3 h4 h5 hfit hf hlo hd (fun H1 locs1 hP1 hD1 hS1 => kk H1 locs1 ls hP1 hD1 hS1 hl)
/-- the law's script -/
def Sc (X : g_X) (b N : Nat) (xs : Nat → Int32) : Prop := match X with
  | (_, _, s, _, _, _, _, _, _, A, _) => va_X b N xs s s.heap ∧ b < s.heap.size ∧ ¬ A b
theorem g_sld (B : Bd E X cc own nL fr lo mc ms) {b N : Nat} {xs : Nat → Int32} (hX : Sc X b N xs) {i : Int32} (hin : vp_in i N) (hd : decode cc pc = .ok (.iaload, 1)) (kk : G E X nL ws nc ns lv (pc + 1) (.int (xs i.toNatClampNeg) :: st)) : G E X nL ws nc ns lv pc (.int i :: .ref b :: st) := by
  obtain ⟨p, e, s, m, args, below, meth, c, R, A, Q⟩ := X
  obtain ⟨hx, hb, hml, hown, hts, hK, hA, hSt, hNe, hlk, hR⟩ := B
  intro H locs ls hP hD hS hl
  obtain ⟨h1, h2, h3⟩ := hX
  exact va_sld hx hb h1 h2 h3 hS hin hd (kk H locs ls hP hD hS hl)
theorem g_slen (B : Bd E X cc own nL fr lo mc ms) {b N : Nat} {xs : Nat → Int32} (hX : Sc X b N xs) (hd : decode cc pc = .ok (.arraylength, 1)) (kk : G E X nL ws nc ns lv (pc + 1) (.int (Int32.ofNat N) :: st)) : G E X nL ws nc ns lv pc (.ref b :: st) := by
  obtain ⟨p, e, s, m, args, below, meth, c, R, A, Q⟩ := X
  obtain ⟨hx, hb, hml, hown, hts, hK, hA, hSt, hNe, hlk, hR⟩ := B
  intro H locs ls hP hD hS hl
  obtain ⟨h1, h2, h3⟩ := hX
  exact va_slen hx hb h1 h2 h3 hS hd (kk H locs ls hP hD hS hl)
theorem g_aload_nN (B : Bd E X cc own nL fr lo mc ms) {k0 : Fin 4} {i : Nat} (hd : decode cc pc = .ok (.aload_n k0, 1)) (hi : (k0 : Nat) = i) (j : Nat) (hj : lv[j]? = some (i, .null)) (k : G E X nL ws nc ns lv (pc + 1) (.null :: st)) : G E X nL ws nc ns lv pc (st) := by
  obtain ⟨p, e, s, m, args, below, meth, c, R, A, Q⟩ := X
  obtain ⟨hx, hb, hml, hown, hts, hK, hA, hSt, hNe, hlk, hR⟩ := B
  intro H locs ls hP hD hS hl
  exact lv_aload_nN hx hb hd hi (lv_at hl j hj) (k H locs ls hP hD hS hl)
theorem g_astore_nN (B : Bd E X cc own nL fr lo mc ms) {k0 : Fin 4} {i : Nat} {lv' : List (Nat × Value)} (hd : decode cc pc = .ok (.astore_n k0, 1)) (hi : (k0 : Nat) = i) (hn : i < nL) (hl' : (i, Value.null) :: lv.filter (fun q => !(q.1 == i) && !(q.1 + 1 == i && q.2.category == 2)) = lv') (k : G E X nL ws nc ns lv' (pc + 1) st) : G E X nL ws nc ns lv pc (.null :: st) := by
  obtain ⟨p, e, s, m, args, below, meth, c, R, A, Q⟩ := X
  obtain ⟨hx, hb, hml, hown, hts, hK, hA, hSt, hNe, hlk, hR⟩ := B
  intro H locs ls hP hD hS hl
  exact lv_astore_nN hx hb hd hi hl hn hl' (fun ls' hl2 => k H locs ls' hP hD hS hl2)
theorem g_aloadN (B : Bd E X cc own nL fr lo mc ms) {i : Nat} (hd : decode cc pc = .ok (.aload i, 2)) (j : Nat) (hj : lv[j]? = some (i, .null)) (k : G E X nL ws nc ns lv (pc + 2) (.null :: st)) : G E X nL ws nc ns lv pc (st) := by
  obtain ⟨p, e, s, m, args, below, meth, c, R, A, Q⟩ := X
  obtain ⟨hx, hb, hml, hown, hts, hK, hA, hSt, hNe, hlk, hR⟩ := B
  intro H locs ls hP hD hS hl
  exact lv_aloadN hx hb hd (lv_at hl j hj) (k H locs ls hP hD hS hl)
theorem g_astoreN (B : Bd E X cc own nL fr lo mc ms) {i : Nat} {lv' : List (Nat × Value)} (hd : decode cc pc = .ok (.astore i, 2)) (hn : i < nL) (hl' : (i, Value.null) :: lv.filter (fun q => !(q.1 == i) && !(q.1 + 1 == i && q.2.category == 2)) = lv') (k : G E X nL ws nc ns lv' (pc + 2) st) : G E X nL ws nc ns lv pc (.null :: st) := by
  obtain ⟨p, e, s, m, args, below, meth, c, R, A, Q⟩ := X
  obtain ⟨hx, hb, hml, hown, hts, hK, hA, hSt, hNe, hlk, hR⟩ := B
  intro H locs ls hP hD hS hl
  exact lv_astoreN hx hb hd hl hn hl' (fun ls' hl2 => k H locs ls' hP hD hS hl2)
theorem g_ldcw (B : Bd E X cc own nL fr lo mc ms) {index : Nat} {v : Int32} (hw : Cond.constant own index v ∈ g_tbl) (hd : decode cc pc = .ok (.ldc_w index, 3)) (k : G E X nL ws nc ns lv (pc + 3) (.int v :: st)) : G E X nL ws nc ns lv pc st := by
  obtain ⟨p, e, s, m, args, below, meth, c, R, A, Q⟩ := X
  obtain ⟨hx, hb, hml, hown, hts, hK, hA, hSt, hNe, hlk, hR⟩ := B
  intro H locs ls hP hD hS hl
  exact lv_ldcw hx hb hown (hts _ hw) hd (k H locs ls hP hD hS hl)
end LAYER
end
section
abbrev MX2_init : g_M := (yX2_init, cX2_init, 2, none)
theorem dX2_init_0 : decode cX2_init 0 = .ok (.aload_n 0, 1) := by decide +kernel
theorem dX2_init_1 : decode cX2_init 1 = .ok (.invokespecial 3, 3) := by decide +kernel
theorem w_im_obj : Cond.instanceMethod objectInit ∈ g_tbl := g_tbl_in 91 (by decide +kernel) (by decide +kernel)
theorem w_cd_obj : Cond.code objectInit ⟨#[0xb1]⟩ 1 none ∈ g_tbl := g_tbl_in 92 (by decide +kernel) (by decide +kernel)
theorem w_mlo_X2_3 : Cond.methodLink RX2 3 objectInit ∈ g_tbl := g_tbl_in 123 (by decide +kernel) (by decide +kernel)
theorem dX2_init_4 : decode cX2_init 4 = .ok (.aload_n 0, 1) := by decide +kernel
theorem dX2_init_5 : decode cX2_init 5 = .ok (.iconst 0, 1) := by decide +kernel
theorem dX2_init_6 : decode cX2_init 6 = .ok (.iload_n 1, 1) := by decide +kernel
theorem dX2_init_7 : decode cX2_init 7 = .ok (.invokestatic 9, 3) := by decide +kernel
theorem w_mlm_X2_9 : Cond.methodLink RX2 9 Lib.Math.max.name ∈ g_tbl := g_tbl_in 124 (by decide +kernel) (by decide +kernel)
theorem w_smm_max_II_I : Cond.static Lib.Math.max.name ∈ g_tbl := g_tbl_in 125 (by decide +kernel) (by decide +kernel)
theorem w_ini_Math : Cond.initialized "java/lang/Math" ∈ g_tbl := g_tbl_in 71 (by decide +kernel) (by decide +kernel)
theorem w_cdm_max_II_I : Cond.code Lib.Math.max.name Lib.Math.max.code 2 (some .int) ∈ g_tbl := g_tbl_in 126 (by decide +kernel) (by decide +kernel)
theorem dX2_init_10 : decode cX2_init 10 = .ok (.newarray .byte, 2) := by decide +kernel
theorem w_ac_byte : Cond.arrayClass .byte ∈ g_tbl := g_tbl_in 139 (by decide +kernel) (by decide +kernel)
theorem dX2_init_12 : decode cX2_init 12 = .ok (.putfield 15, 3) := by decide +kernel
theorem w_fl_X2_15 : Cond.fieldLink RX2 15 (TX2 0).1 (TX2 0).2.1 (TX2 0).2.2.1 ∈ g_tbl := g_tbl_in 127 (by decide +kernel) (by decide +kernel)
set_option maxRecDepth 100000 in
theorem inX_X2 : ∀ w ∈ u_ws RX2 TX2 2, w ∈ g_tbl := by decide +kernel
theorem fl_X2_15 : FL RX2 15 2 0 := ⟨RX2, TX2, 2, rfl, by decide, inX_X2, w_fl_X2_15⟩
theorem pf_X2_0 : PF 2 0 (.array .byte) true := fun C T N h => by cases h; exact ⟨⟨tyX2, tyX2_ok⟩, nmX2, by decide +kernel, rfl, rfl⟩
theorem dX2_init_15 : decode cX2_init 15 = .ok (.aload_n 0, 1) := by decide +kernel
theorem dX2_init_16 : decode cX2_init 16 = .ok (.iconst 0, 1) := by decide +kernel
theorem dX2_init_17 : decode cX2_init 17 = .ok (.putfield 21, 3) := by decide +kernel
theorem w_fl_X2_21 : Cond.fieldLink RX2 21 (TX2 1).1 (TX2 1).2.1 (TX2 1).2.2.1 ∈ g_tbl := g_tbl_in 130 (by decide +kernel) (by decide +kernel)
theorem fl_X2_21 : FL RX2 21 2 1 := ⟨RX2, TX2, 2, rfl, by decide, inX_X2, w_fl_X2_21⟩
theorem pf_X2_1 : PF 2 1 .int false := fun C T N h => by cases h; exact ⟨⟨tyX2, tyX2_ok⟩, nmX2, by decide +kernel, rfl, rfl⟩
theorem dX2_init_20 : decode cX2_init 20 = .ok (.return_, 1) := by decide +kernel
set_option maxRecDepth 100000 in
set_option maxHeartbeats 4000000 in
theorem ev_X2_init_6000 (E : g_E) (t : Nat)  : Ev E MX2_init 1 23 1 6000 [.ref t, .int 6000] [(t, .inr (2, [.null, .int 0]))] (fun v_ w_ => ∃ q : Nat, v_ = none ∧ w_ = [(t, .inr (2, [.ref q, .int 0])), (q, .inl (E.2.2.1 1, 6000, .inl (fun _ => 0)))]) := by
  refine Ev.intro (by decide) (Nat.le_of_ble_eq_true rfl) ?_
  intro X B hr hI
  have B : Bd E X cX2_init RX2 2 1 23 1 6000 := B
  have hr : Rt E X none 1 6000 (fun v_ w_ => ∃ q : Nat, v_ = none ∧ w_ = [(t, .inr (2, [.ref q, .int 0])), (q, .inl (E.2.2.1 1, 6000, .inl (fun _ => 0)))]) := hr
  have hI : In X := hI rfl
  show G E X 2 [(t, .inr (2, [.null, .int 0]))] 0 0 [(0, .ref t), (1, .int 6000)] 0 []
  refine g_aload_n B dX2_init_0 rfl 0 rfl ?_
  refine g_obj B w_mlo_X2_3 w_im_obj w_cd_obj (by decide) (Nat.le_of_ble_eq_true rfl) dX2_init_1 ?_
  refine g_aload_n B dX2_init_4 rfl 0 rfl ?_
  refine g_iconst (v := 0) B dX2_init_5 (by decide) ?_
  refine g_iload_n B dX2_init_6 rfl 1 rfl ?_
  refine g_mmax B w_mlm_X2_9 w_smm_max_II_I w_ini_Math w_cdm_max_II_I (by decide) (Nat.le_of_ble_eq_true rfl) (by decide) (by decide) dX2_init_7 ?_
  refine g_ri (x' := 6000) (by decide) ?_
  refine g_newa (ty := .byte) (t0 := 1) (N := 6000) (nc' := 1) (ns' := 6000) (a0 := (6000, .inl (fun _ => 0))) (ws' := fun q_1 => [(t, .inr (2, [.null, .int 0])), (q_1, .inl (E.2.2.1 1, 6000, .inl (fun _ => 0)))]) B w_ac_byte rfl rfl rfl (fun _ => rfl) (by decide) (by decide) (by decide) rfl rfl (by decide) (by decide) (fun _ => rfl) dX2_init_10 (fun q_1 => ?_)
  refine g_putF (ws' := [(t, .inr (2, [.ref q_1, .int 0])), (q_1, .inl (E.2.2.1 1, 6000, .inl (fun _ => 0)))]) B hI 0 0 fl_X2_15 pf_X2_0 (fun q h => by cases h; rfl) rfl (Nat.le_of_ble_eq_true rfl) rfl rfl rfl dX2_init_12 ?_
  refine g_aload_n B dX2_init_15 rfl 0 rfl ?_
  refine g_iconst (v := 0) B dX2_init_16 (by decide) ?_
  refine g_put (ws' := [(t, .inr (2, [.ref q_1, .int 0])), (q_1, .inl (E.2.2.1 1, 6000, .inl (fun _ => 0)))]) B 0 1 fl_X2_21 pf_X2_1 rfl (Nat.le_of_ble_eq_true rfl) rfl rfl rfl dX2_init_17 ?_
  exact g_vret B hr dX2_init_20 (by decide) (by decide) ⟨q_1, rfl, rfl⟩
set_option maxRecDepth 100000 in
set_option maxHeartbeats 4000000 in
theorem ev_X2_init_9600 (E : g_E) (t : Nat)  : Ev E MX2_init 1 23 1 9600 [.ref t, .int 9600] [(t, .inr (2, [.null, .int 0]))] (fun v_ w_ => ∃ q : Nat, v_ = none ∧ w_ = [(t, .inr (2, [.ref q, .int 0])), (q, .inl (E.2.2.1 1, 9600, .inl (fun _ => 0)))]) := by
  refine Ev.intro (by decide) (Nat.le_of_ble_eq_true rfl) ?_
  intro X B hr hI
  have B : Bd E X cX2_init RX2 2 1 23 1 9600 := B
  have hr : Rt E X none 1 9600 (fun v_ w_ => ∃ q : Nat, v_ = none ∧ w_ = [(t, .inr (2, [.ref q, .int 0])), (q, .inl (E.2.2.1 1, 9600, .inl (fun _ => 0)))]) := hr
  have hI : In X := hI rfl
  show G E X 2 [(t, .inr (2, [.null, .int 0]))] 0 0 [(0, .ref t), (1, .int 9600)] 0 []
  refine g_aload_n B dX2_init_0 rfl 0 rfl ?_
  refine g_obj B w_mlo_X2_3 w_im_obj w_cd_obj (by decide) (Nat.le_of_ble_eq_true rfl) dX2_init_1 ?_
  refine g_aload_n B dX2_init_4 rfl 0 rfl ?_
  refine g_iconst (v := 0) B dX2_init_5 (by decide) ?_
  refine g_iload_n B dX2_init_6 rfl 1 rfl ?_
  refine g_mmax B w_mlm_X2_9 w_smm_max_II_I w_ini_Math w_cdm_max_II_I (by decide) (Nat.le_of_ble_eq_true rfl) (by decide) (by decide) dX2_init_7 ?_
  refine g_ri (x' := 9600) (by decide) ?_
  refine g_newa (ty := .byte) (t0 := 1) (N := 9600) (nc' := 1) (ns' := 9600) (a0 := (9600, .inl (fun _ => 0))) (ws' := fun q_2 => [(t, .inr (2, [.null, .int 0])), (q_2, .inl (E.2.2.1 1, 9600, .inl (fun _ => 0)))]) B w_ac_byte rfl rfl rfl (fun _ => rfl) (by decide) (by decide) (by decide) rfl rfl (by decide) (by decide) (fun _ => rfl) dX2_init_10 (fun q_2 => ?_)
  refine g_putF (ws' := [(t, .inr (2, [.ref q_2, .int 0])), (q_2, .inl (E.2.2.1 1, 9600, .inl (fun _ => 0)))]) B hI 0 0 fl_X2_15 pf_X2_0 (fun q h => by cases h; rfl) rfl (Nat.le_of_ble_eq_true rfl) rfl rfl rfl dX2_init_12 ?_
  refine g_aload_n B dX2_init_15 rfl 0 rfl ?_
  refine g_iconst (v := 0) B dX2_init_16 (by decide) ?_
  refine g_put (ws' := [(t, .inr (2, [.ref q_2, .int 0])), (q_2, .inl (E.2.2.1 1, 9600, .inl (fun _ => 0)))]) B 0 1 fl_X2_21 pf_X2_1 rfl (Nat.le_of_ble_eq_true rfl) rfl rfl rfl dX2_init_17 ?_
  exact g_vret B hr dX2_init_20 (by decide) (by decide) ⟨q_2, rfl, rfl⟩
set_option maxRecDepth 100000 in
set_option maxHeartbeats 4000000 in
theorem ev_X2_init_2450 (E : g_E) (t : Nat)  : Ev E MX2_init 1 23 1 2450 [.ref t, .int 2450] [(t, .inr (2, [.null, .int 0]))] (fun v_ w_ => ∃ q : Nat, v_ = none ∧ w_ = [(t, .inr (2, [.ref q, .int 0])), (q, .inl (E.2.2.1 1, 2450, .inl (fun _ => 0)))]) := by
  refine Ev.intro (by decide) (Nat.le_of_ble_eq_true rfl) ?_
  intro X B hr hI
  have B : Bd E X cX2_init RX2 2 1 23 1 2450 := B
  have hr : Rt E X none 1 2450 (fun v_ w_ => ∃ q : Nat, v_ = none ∧ w_ = [(t, .inr (2, [.ref q, .int 0])), (q, .inl (E.2.2.1 1, 2450, .inl (fun _ => 0)))]) := hr
  have hI : In X := hI rfl
  show G E X 2 [(t, .inr (2, [.null, .int 0]))] 0 0 [(0, .ref t), (1, .int 2450)] 0 []
  refine g_aload_n B dX2_init_0 rfl 0 rfl ?_
  refine g_obj B w_mlo_X2_3 w_im_obj w_cd_obj (by decide) (Nat.le_of_ble_eq_true rfl) dX2_init_1 ?_
  refine g_aload_n B dX2_init_4 rfl 0 rfl ?_
  refine g_iconst (v := 0) B dX2_init_5 (by decide) ?_
  refine g_iload_n B dX2_init_6 rfl 1 rfl ?_
  refine g_mmax B w_mlm_X2_9 w_smm_max_II_I w_ini_Math w_cdm_max_II_I (by decide) (Nat.le_of_ble_eq_true rfl) (by decide) (by decide) dX2_init_7 ?_
  refine g_ri (x' := 2450) (by decide) ?_
  refine g_newa (ty := .byte) (t0 := 1) (N := 2450) (nc' := 1) (ns' := 2450) (a0 := (2450, .inl (fun _ => 0))) (ws' := fun q_3 => [(t, .inr (2, [.null, .int 0])), (q_3, .inl (E.2.2.1 1, 2450, .inl (fun _ => 0)))]) B w_ac_byte rfl rfl rfl (fun _ => rfl) (by decide) (by decide) (by decide) rfl rfl (by decide) (by decide) (fun _ => rfl) dX2_init_10 (fun q_3 => ?_)
  refine g_putF (ws' := [(t, .inr (2, [.ref q_3, .int 0])), (q_3, .inl (E.2.2.1 1, 2450, .inl (fun _ => 0)))]) B hI 0 0 fl_X2_15 pf_X2_0 (fun q h => by cases h; rfl) rfl (Nat.le_of_ble_eq_true rfl) rfl rfl rfl dX2_init_12 ?_
  refine g_aload_n B dX2_init_15 rfl 0 rfl ?_
  refine g_iconst (v := 0) B dX2_init_16 (by decide) ?_
  refine g_put (ws' := [(t, .inr (2, [.ref q_3, .int 0])), (q_3, .inl (E.2.2.1 1, 2450, .inl (fun _ => 0)))]) B 0 1 fl_X2_21 pf_X2_1 rfl (Nat.le_of_ble_eq_true rfl) rfl rfl rfl dX2_init_17 ?_
  exact g_vret B hr dX2_init_20 (by decide) (by decide) ⟨q_3, rfl, rfl⟩
abbrev MX7_init : g_M := (yX7_init, cX7_init, 1, none)
theorem dX7_init_0 : decode cX7_init 0 = .ok (.aload_n 0, 1) := by decide +kernel
theorem dX7_init_1 : decode cX7_init 1 = .ok (.invokespecial 3, 3) := by decide +kernel
theorem w_mlo_X7_3 : Cond.methodLink RX7 3 objectInit ∈ g_tbl := g_tbl_in 98 (by decide +kernel) (by decide +kernel)
theorem dX7_init_4 : decode cX7_init 4 = .ok (.aload_n 0, 1) := by decide +kernel
theorem dX7_init_5 : decode cX7_init 5 = .ok (.bipush 8, 2) := by decide +kernel
theorem dX7_init_7 : decode cX7_init 7 = .ok (.newarray .int, 2) := by decide +kernel
theorem w_ac_int : Cond.arrayClass .int ∈ g_tbl := g_tbl_in 117 (by decide +kernel) (by decide +kernel)
theorem dX7_init_9 : decode cX7_init 9 = .ok (.putfield 9, 3) := by decide +kernel
theorem w_fl_X7_9 : Cond.fieldLink RX7 9 (TX7 0).1 (TX7 0).2.1 (TX7 0).2.2.1 ∈ g_tbl := g_tbl_in 99 (by decide +kernel) (by decide +kernel)
set_option maxRecDepth 100000 in
theorem inX_X7 : ∀ w ∈ u_ws RX7 TX7 3, w ∈ g_tbl := by decide +kernel
theorem fl_X7_9 : FL RX7 9 7 0 := ⟨RX7, TX7, 3, rfl, by decide, inX_X7, w_fl_X7_9⟩
theorem pf_X7_0 : PF 7 0 (.array .int) true := fun C T N h => by cases h; exact ⟨⟨tyX7, tyX7_ok⟩, nmX7, by decide +kernel, rfl, rfl⟩
theorem dX7_init_12 : decode cX7_init 12 = .ok (.aload_n 0, 1) := by decide +kernel
theorem dX7_init_13 : decode cX7_init 13 = .ok (.bipush 8, 2) := by decide +kernel
theorem dX7_init_15 : decode cX7_init 15 = .ok (.newarray .int, 2) := by decide +kernel
theorem dX7_init_17 : decode cX7_init 17 = .ok (.putfield 15, 3) := by decide +kernel
theorem w_fl_X7_15 : Cond.fieldLink RX7 15 (TX7 1).1 (TX7 1).2.1 (TX7 1).2.2.1 ∈ g_tbl := g_tbl_in 102 (by decide +kernel) (by decide +kernel)
theorem fl_X7_15 : FL RX7 15 7 1 := ⟨RX7, TX7, 3, rfl, by decide, inX_X7, w_fl_X7_15⟩
theorem pf_X7_1 : PF 7 1 (.array .int) true := fun C T N h => by cases h; exact ⟨⟨tyX7, tyX7_ok⟩, nmX7, by decide +kernel, rfl, rfl⟩
theorem dX7_init_20 : decode cX7_init 20 = .ok (.aload_n 0, 1) := by decide +kernel
theorem dX7_init_21 : decode cX7_init 21 = .ok (.iconst 0, 1) := by decide +kernel
theorem dX7_init_22 : decode cX7_init 22 = .ok (.putfield 18, 3) := by decide +kernel
theorem w_fl_X7_18 : Cond.fieldLink RX7 18 (TX7 2).1 (TX7 2).2.1 (TX7 2).2.2.1 ∈ g_tbl := g_tbl_in 105 (by decide +kernel) (by decide +kernel)
theorem fl_X7_18 : FL RX7 18 7 2 := ⟨RX7, TX7, 3, rfl, by decide, inX_X7, w_fl_X7_18⟩
theorem pf_X7_2 : PF 7 2 .int false := fun C T N h => by cases h; exact ⟨⟨tyX7, tyX7_ok⟩, nmX7, by decide +kernel, rfl, rfl⟩
theorem dX7_init_25 : decode cX7_init 25 = .ok (.return_, 1) := by decide +kernel
set_option maxRecDepth 100000 in
set_option maxHeartbeats 4000000 in
theorem ev_X7_init (E : g_E) (p : Nat)  : Ev E MX7_init 1 20 2 16 [.ref p] [(p, .inr (7, [.null, .null, .int 0]))] (fun v_ w_ => ∃ te : Nat, ∃ de : Nat, v_ = none ∧ w_ = [(p, .inr (7, [.ref te, .ref de, .int 0])), (te, .inl (E.2.2.1 0, 8, .inl (fun _ => 0))), (de, .inl (E.2.2.1 0, 8, .inl (fun _ => 0)))]) := by
  refine Ev.intro (by decide) (Nat.le_of_ble_eq_true rfl) ?_
  intro X B hr hI
  have B : Bd E X cX7_init RX7 1 1 20 2 16 := B
  have hr : Rt E X none 2 16 (fun v_ w_ => ∃ te : Nat, ∃ de : Nat, v_ = none ∧ w_ = [(p, .inr (7, [.ref te, .ref de, .int 0])), (te, .inl (E.2.2.1 0, 8, .inl (fun _ => 0))), (de, .inl (E.2.2.1 0, 8, .inl (fun _ => 0)))]) := hr
  have hI : In X := hI rfl
  show G E X 1 [(p, .inr (7, [.null, .null, .int 0]))] 0 0 [(0, .ref p)] 0 []
  refine g_aload_n B dX7_init_0 rfl 0 rfl ?_
  refine g_obj B w_mlo_X7_3 w_im_obj w_cd_obj (by decide) (Nat.le_of_ble_eq_true rfl) dX7_init_1 ?_
  refine g_aload_n B dX7_init_4 rfl 0 rfl ?_
  refine g_bipush (v := 8) B dX7_init_5 (by decide) ?_
  refine g_newa (ty := .int) (t0 := 0) (N := 8) (nc' := 1) (ns' := 8) (a0 := (8, .inl (fun _ => 0))) (ws' := fun q_4 => [(p, .inr (7, [.null, .null, .int 0])), (q_4, .inl (E.2.2.1 0, 8, .inl (fun _ => 0)))]) B w_ac_int rfl rfl rfl (fun _ => rfl) (by decide) (by decide) (by decide) rfl rfl (by decide) (by decide) (fun _ => rfl) dX7_init_7 (fun q_4 => ?_)
  refine g_putF (ws' := [(p, .inr (7, [.ref q_4, .null, .int 0])), (q_4, .inl (E.2.2.1 0, 8, .inl (fun _ => 0)))]) B hI 0 0 fl_X7_9 pf_X7_0 (fun q h => by cases h; rfl) rfl (Nat.le_of_ble_eq_true rfl) rfl rfl rfl dX7_init_9 ?_
  refine g_aload_n B dX7_init_12 rfl 0 rfl ?_
  refine g_bipush (v := 8) B dX7_init_13 (by decide) ?_
  refine g_newa (ty := .int) (t0 := 0) (N := 8) (nc' := 2) (ns' := 16) (a0 := (8, .inl (fun _ => 0))) (ws' := fun q_5 => [(p, .inr (7, [.ref q_4, .null, .int 0])), (q_4, .inl (E.2.2.1 0, 8, .inl (fun _ => 0))), (q_5, .inl (E.2.2.1 0, 8, .inl (fun _ => 0)))]) B w_ac_int rfl rfl rfl (fun _ => rfl) (by decide) (by decide) (by decide) rfl rfl (by decide) (by decide) (fun _ => rfl) dX7_init_15 (fun q_5 => ?_)
  refine g_putF (ws' := [(p, .inr (7, [.ref q_4, .ref q_5, .int 0])), (q_4, .inl (E.2.2.1 0, 8, .inl (fun _ => 0))), (q_5, .inl (E.2.2.1 0, 8, .inl (fun _ => 0)))]) B hI 0 1 fl_X7_15 pf_X7_1 (fun q h => by cases h; rfl) rfl (Nat.le_of_ble_eq_true rfl) rfl rfl rfl dX7_init_17 ?_
  refine g_aload_n B dX7_init_20 rfl 0 rfl ?_
  refine g_iconst (v := 0) B dX7_init_21 (by decide) ?_
  refine g_put (ws' := [(p, .inr (7, [.ref q_4, .ref q_5, .int 0])), (q_4, .inl (E.2.2.1 0, 8, .inl (fun _ => 0))), (q_5, .inl (E.2.2.1 0, 8, .inl (fun _ => 0)))]) B 0 2 fl_X7_18 pf_X7_2 rfl (Nat.le_of_ble_eq_true rfl) rfl rfl rfl dX7_init_22 ?_
  exact g_vret B hr dX7_init_25 (by decide) (by decide) ⟨q_4, q_5, rfl, rfl⟩
abbrev MX1_init : g_M := (yX1_init, cX1_init, 2, none)
theorem dX1_init_0 : decode cX1_init 0 = .ok (.aload_n 0, 1) := by decide +kernel
theorem dX1_init_1 : decode cX1_init 1 = .ok (.invokespecial 1, 3) := by decide +kernel
theorem w_mlo_X1_1 : Cond.methodLink RX1 1 objectInit ∈ g_tbl := g_tbl_in 175 (by decide +kernel) (by decide +kernel)
theorem dX1_init_4 : decode cX1_init 4 = .ok (.aload_n 0, 1) := by decide +kernel
theorem dX1_init_5 : decode cX1_init 5 = .ok (.aload_n 1, 1) := by decide +kernel
theorem dX1_init_6 : decode cX1_init 6 = .ok (.putfield 7, 3) := by decide +kernel
theorem w_fl_X1_7 : Cond.fieldLink RX1 7 (TX1 0).1 (TX1 0).2.1 (TX1 0).2.2.1 ∈ g_tbl := g_tbl_in 176 (by decide +kernel) (by decide +kernel)
set_option maxRecDepth 100000 in
theorem inX_X1 : ∀ w ∈ u_ws RX1 TX1 3, w ∈ g_tbl := by decide +kernel
theorem fl_X1_7 : FL RX1 7 1 0 := ⟨RX1, TX1, 3, rfl, by decide, inX_X1, w_fl_X1_7⟩
theorem pf_X1_0 : PF 1 0 (.object "SoundPress$Bytes") true := fun C T N h => by cases h; exact ⟨⟨tyX1, tyX1_ok⟩, nmX1, by decide +kernel, rfl, rfl⟩
theorem dX1_init_9 : decode cX1_init 9 = .ok (.aload_n 0, 1) := by decide +kernel
theorem dX1_init_10 : decode cX1_init 10 = .ok (.iconst 0, 1) := by decide +kernel
theorem dX1_init_11 : decode cX1_init 11 = .ok (.putfield 13, 3) := by decide +kernel
theorem w_fl_X1_13 : Cond.fieldLink RX1 13 (TX1 1).1 (TX1 1).2.1 (TX1 1).2.2.1 ∈ g_tbl := g_tbl_in 177 (by decide +kernel) (by decide +kernel)
theorem fl_X1_13 : FL RX1 13 1 1 := ⟨RX1, TX1, 3, rfl, by decide, inX_X1, w_fl_X1_13⟩
theorem pf_X1_1 : PF 1 1 .int false := fun C T N h => by cases h; exact ⟨⟨tyX1, tyX1_ok⟩, nmX1, by decide +kernel, rfl, rfl⟩
theorem dX1_init_14 : decode cX1_init 14 = .ok (.aload_n 0, 1) := by decide +kernel
theorem dX1_init_15 : decode cX1_init 15 = .ok (.iconst 0, 1) := by decide +kernel
theorem dX1_init_16 : decode cX1_init 16 = .ok (.putfield 17, 3) := by decide +kernel
theorem w_fl_X1_17 : Cond.fieldLink RX1 17 (TX1 2).1 (TX1 2).2.1 (TX1 2).2.2.1 ∈ g_tbl := g_tbl_in 178 (by decide +kernel) (by decide +kernel)
theorem fl_X1_17 : FL RX1 17 1 2 := ⟨RX1, TX1, 3, rfl, by decide, inX_X1, w_fl_X1_17⟩
theorem pf_X1_2 : PF 1 2 .int false := fun C T N h => by cases h; exact ⟨⟨tyX1, tyX1_ok⟩, nmX1, by decide +kernel, rfl, rfl⟩
theorem dX1_init_19 : decode cX1_init 19 = .ok (.return_, 1) := by decide +kernel
set_option maxRecDepth 100000 in
set_option maxHeartbeats 4000000 in
theorem ev_X1_init (E : g_E) (b : Nat) (t : Nat)  : Ev E MX1_init 1 20 0 0 [.ref b, .ref t] [(b, .inr (1, [.null, .int 0, .int 0]))] (fun v_ w_ => v_ = none ∧ w_ = [(b, .inr (1, [.ref t, .int 0, .int 0]))]) := by
  refine Ev.intro (by decide) (Nat.le_of_ble_eq_true rfl) ?_
  intro X B hr hI
  have B : Bd E X cX1_init RX1 2 1 20 0 0 := B
  have hr : Rt E X none 0 0 (fun v_ w_ => v_ = none ∧ w_ = [(b, .inr (1, [.ref t, .int 0, .int 0]))]) := hr
  have hI : In X := hI rfl
  show G E X 2 [(b, .inr (1, [.null, .int 0, .int 0]))] 0 0 [(0, .ref b), (1, .ref t)] 0 []
  refine g_aload_n B dX1_init_0 rfl 0 rfl ?_
  refine g_obj B w_mlo_X1_1 w_im_obj w_cd_obj (by decide) (Nat.le_of_ble_eq_true rfl) dX1_init_1 ?_
  refine g_aload_n B dX1_init_4 rfl 0 rfl ?_
  refine g_aload_n B dX1_init_5 rfl 1 rfl ?_
  refine g_putF (ws' := [(b, .inr (1, [.ref t, .int 0, .int 0]))]) B hI 0 0 fl_X1_7 pf_X1_0 (fun q h => by cases h; rfl) rfl (Nat.le_of_ble_eq_true rfl) rfl rfl rfl dX1_init_6 ?_
  refine g_aload_n B dX1_init_9 rfl 0 rfl ?_
  refine g_iconst (v := 0) B dX1_init_10 (by decide) ?_
  refine g_put (ws' := [(b, .inr (1, [.ref t, .int 0, .int 0]))]) B 0 1 fl_X1_13 pf_X1_1 rfl (Nat.le_of_ble_eq_true rfl) rfl rfl rfl dX1_init_11 ?_
  refine g_aload_n B dX1_init_14 rfl 0 rfl ?_
  refine g_iconst (v := 0) B dX1_init_15 (by decide) ?_
  refine g_put (ws' := [(b, .inr (1, [.ref t, .int 0, .int 0]))]) B 0 2 fl_X1_17 pf_X1_2 rfl (Nat.le_of_ble_eq_true rfl) rfl rfl rfl dX1_init_16 ?_
  exact g_vret B hr dX1_init_19 (by decide) (by decide) ⟨rfl, rfl⟩
abbrev MX0_init : g_M := (yX0_init, cX0_init, 2, none)
theorem dX0_init_0 : decode cX0_init 0 = .ok (.aload_n 0, 1) := by decide +kernel
theorem dX0_init_1 : decode cX0_init 1 = .ok (.invokespecial 1, 3) := by decide +kernel
theorem w_mlo_X0_1 : Cond.methodLink RX0 1 objectInit ∈ g_tbl := g_tbl_in 214 (by decide +kernel) (by decide +kernel)
theorem dX0_init_4 : decode cX0_init 4 = .ok (.aload_n 0, 1) := by decide +kernel
theorem dX0_init_5 : decode cX0_init 5 = .ok (.aload_n 1, 1) := by decide +kernel
theorem dX0_init_6 : decode cX0_init 6 = .ok (.putfield 7, 3) := by decide +kernel
theorem w_fl_X0_7 : Cond.fieldLink RX0 7 (TX0 0).1 (TX0 0).2.1 (TX0 0).2.2.1 ∈ g_tbl := g_tbl_in 215 (by decide +kernel) (by decide +kernel)
set_option maxRecDepth 100000 in
theorem inX_X0 : ∀ w ∈ u_ws RX0 TX0 4, w ∈ g_tbl := by decide +kernel
theorem fl_X0_7 : FL RX0 7 0 0 := ⟨RX0, TX0, 4, rfl, by decide, inX_X0, w_fl_X0_7⟩
theorem pf_X0_0 : PF 0 0 (.object "SoundPress$Bytes") true := fun C T N h => by cases h; exact ⟨⟨tyX0, tyX0_ok⟩, nmX0, by decide +kernel, rfl, rfl⟩
theorem dX0_init_9 : decode cX0_init 9 = .ok (.aload_n 0, 1) := by decide +kernel
theorem dX0_init_10 : decode cX0_init 10 = .ok (.iconst 0, 1) := by decide +kernel
theorem dX0_init_11 : decode cX0_init 11 = .ok (.putfield 13, 3) := by decide +kernel
theorem w_fl_X0_13 : Cond.fieldLink RX0 13 (TX0 1).1 (TX0 1).2.1 (TX0 1).2.2.1 ∈ g_tbl := g_tbl_in 216 (by decide +kernel) (by decide +kernel)
theorem fl_X0_13 : FL RX0 13 0 1 := ⟨RX0, TX0, 4, rfl, by decide, inX_X0, w_fl_X0_13⟩
theorem pf_X0_1 : PF 0 1 .int false := fun C T N h => by cases h; exact ⟨⟨tyX0, tyX0_ok⟩, nmX0, by decide +kernel, rfl, rfl⟩
theorem dX0_init_14 : decode cX0_init 14 = .ok (.aload_n 0, 1) := by decide +kernel
theorem dX0_init_15 : decode cX0_init 15 = .ok (.iconst 0, 1) := by decide +kernel
theorem dX0_init_16 : decode cX0_init 16 = .ok (.putfield 17, 3) := by decide +kernel
theorem w_fl_X0_17 : Cond.fieldLink RX0 17 (TX0 2).1 (TX0 2).2.1 (TX0 2).2.2.1 ∈ g_tbl := g_tbl_in 217 (by decide +kernel) (by decide +kernel)
theorem fl_X0_17 : FL RX0 17 0 2 := ⟨RX0, TX0, 4, rfl, by decide, inX_X0, w_fl_X0_17⟩
theorem pf_X0_2 : PF 0 2 .int false := fun C T N h => by cases h; exact ⟨⟨tyX0, tyX0_ok⟩, nmX0, by decide +kernel, rfl, rfl⟩
theorem dX0_init_19 : decode cX0_init 19 = .ok (.aload_n 0, 1) := by decide +kernel
theorem dX0_init_20 : decode cX0_init 20 = .ok (.iconst 0, 1) := by decide +kernel
theorem dX0_init_21 : decode cX0_init 21 = .ok (.putfield 20, 3) := by decide +kernel
theorem w_fl_X0_20 : Cond.fieldLink RX0 20 (TX0 3).1 (TX0 3).2.1 (TX0 3).2.2.1 ∈ g_tbl := g_tbl_in 218 (by decide +kernel) (by decide +kernel)
theorem fl_X0_20 : FL RX0 20 0 3 := ⟨RX0, TX0, 4, rfl, by decide, inX_X0, w_fl_X0_20⟩
theorem pf_X0_3 : PF 0 3 .boolean false := fun C T N h => by cases h; exact ⟨⟨tyX0, tyX0_ok⟩, nmX0, by decide +kernel, rfl, rfl⟩
theorem dX0_init_24 : decode cX0_init 24 = .ok (.return_, 1) := by decide +kernel
set_option maxRecDepth 100000 in
set_option maxHeartbeats 4000000 in
theorem ev_X0_init (E : g_E) (b : Nat) (t : Nat)  : Ev E MX0_init 1 20 0 0 [.ref b, .ref t] [(b, .inr (0, [.null, .int 0, .int 0, .int 0]))] (fun v_ w_ => v_ = none ∧ w_ = [(b, .inr (0, [.ref t, .int 0, .int 0, .int 0]))]) := by
  refine Ev.intro (by decide) (Nat.le_of_ble_eq_true rfl) ?_
  intro X B hr hI
  have B : Bd E X cX0_init RX0 2 1 20 0 0 := B
  have hr : Rt E X none 0 0 (fun v_ w_ => v_ = none ∧ w_ = [(b, .inr (0, [.ref t, .int 0, .int 0, .int 0]))]) := hr
  have hI : In X := hI rfl
  show G E X 2 [(b, .inr (0, [.null, .int 0, .int 0, .int 0]))] 0 0 [(0, .ref b), (1, .ref t)] 0 []
  refine g_aload_n B dX0_init_0 rfl 0 rfl ?_
  refine g_obj B w_mlo_X0_1 w_im_obj w_cd_obj (by decide) (Nat.le_of_ble_eq_true rfl) dX0_init_1 ?_
  refine g_aload_n B dX0_init_4 rfl 0 rfl ?_
  refine g_aload_n B dX0_init_5 rfl 1 rfl ?_
  refine g_putF (ws' := [(b, .inr (0, [.ref t, .int 0, .int 0, .int 0]))]) B hI 0 0 fl_X0_7 pf_X0_0 (fun q h => by cases h; rfl) rfl (Nat.le_of_ble_eq_true rfl) rfl rfl rfl dX0_init_6 ?_
  refine g_aload_n B dX0_init_9 rfl 0 rfl ?_
  refine g_iconst (v := 0) B dX0_init_10 (by decide) ?_
  refine g_put (ws' := [(b, .inr (0, [.ref t, .int 0, .int 0, .int 0]))]) B 0 1 fl_X0_13 pf_X0_1 rfl (Nat.le_of_ble_eq_true rfl) rfl rfl rfl dX0_init_11 ?_
  refine g_aload_n B dX0_init_14 rfl 0 rfl ?_
  refine g_iconst (v := 0) B dX0_init_15 (by decide) ?_
  refine g_put (ws' := [(b, .inr (0, [.ref t, .int 0, .int 0, .int 0]))]) B 0 2 fl_X0_17 pf_X0_2 rfl (Nat.le_of_ble_eq_true rfl) rfl rfl rfl dX0_init_16 ?_
  refine g_aload_n B dX0_init_19 rfl 0 rfl ?_
  refine g_iconst (v := 0) B dX0_init_20 (by decide) ?_
  refine g_put (ws' := [(b, .inr (0, [.ref t, .int 0, .int 0, .int 0]))]) B 0 3 fl_X0_20 pf_X0_3 rfl (Nat.le_of_ble_eq_true rfl) (by decide) rfl rfl dX0_init_21 ?_
  exact g_vret B hr dX0_init_24 (by decide) (by decide) ⟨rfl, rfl⟩
abbrev MX5_init : g_M := (yX5_init, cX5_init, 1, none)
theorem dX5_init_0 : decode cX5_init 0 = .ok (.aload_n 0, 1) := by decide +kernel
theorem dX5_init_1 : decode cX5_init 1 = .ok (.invokespecial 3, 3) := by decide +kernel
theorem w_mlo_X5_3 : Cond.methodLink RX5 3 objectInit ∈ g_tbl := g_tbl_in 294 (by decide +kernel) (by decide +kernel)
theorem dX5_init_4 : decode cX5_init 4 = .ok (.aload_n 0, 1) := by decide +kernel
theorem dX5_init_5 : decode cX5_init 5 = .ok (.bipush 6, 2) := by decide +kernel
theorem dX5_init_7 : decode cX5_init 7 = .ok (.newarray .long, 2) := by decide +kernel
theorem w_ac_long : Cond.arrayClass .long ∈ g_tbl := g_tbl_in 163 (by decide +kernel) (by decide +kernel)
theorem dX5_init_9 : decode cX5_init 9 = .ok (.putfield 9, 3) := by decide +kernel
theorem w_fl_X5_9 : Cond.fieldLink RX5 9 (TX5 0).1 (TX5 0).2.1 (TX5 0).2.2.1 ∈ g_tbl := g_tbl_in 295 (by decide +kernel) (by decide +kernel)
set_option maxRecDepth 100000 in
theorem inX_X5 : ∀ w ∈ u_ws RX5 TX5 3, w ∈ g_tbl := by decide +kernel
theorem fl_X5_9 : FL RX5 9 5 0 := ⟨RX5, TX5, 3, rfl, by decide, inX_X5, w_fl_X5_9⟩
theorem pf_X5_0 : PF 5 0 (.array .long) true := fun C T N h => by cases h; exact ⟨⟨tyX5, tyX5_ok⟩, nmX5, by decide +kernel, rfl, rfl⟩
theorem dX5_init_12 : decode cX5_init 12 = .ok (.aload_n 0, 1) := by decide +kernel
theorem dX5_init_13 : decode cX5_init 13 = .ok (.lconst 0, 1) := by decide +kernel
theorem dX5_init_14 : decode cX5_init 14 = .ok (.putfield 15, 3) := by decide +kernel
theorem w_fl_X5_15 : Cond.fieldLink RX5 15 (TX5 1).1 (TX5 1).2.1 (TX5 1).2.2.1 ∈ g_tbl := g_tbl_in 296 (by decide +kernel) (by decide +kernel)
theorem fl_X5_15 : FL RX5 15 5 1 := ⟨RX5, TX5, 3, rfl, by decide, inX_X5, w_fl_X5_15⟩
theorem pf_X5_1 : PF 5 1 .long false := fun C T N h => by cases h; exact ⟨⟨tyX5, tyX5_ok⟩, nmX5, by decide +kernel, rfl, rfl⟩
theorem dX5_init_17 : decode cX5_init 17 = .ok (.aload_n 0, 1) := by decide +kernel
theorem dX5_init_18 : decode cX5_init 18 = .ok (.lconst 0, 1) := by decide +kernel
theorem dX5_init_19 : decode cX5_init 19 = .ok (.putfield 19, 3) := by decide +kernel
theorem w_fl_X5_19 : Cond.fieldLink RX5 19 (TX5 2).1 (TX5 2).2.1 (TX5 2).2.2.1 ∈ g_tbl := g_tbl_in 299 (by decide +kernel) (by decide +kernel)
theorem fl_X5_19 : FL RX5 19 5 2 := ⟨RX5, TX5, 3, rfl, by decide, inX_X5, w_fl_X5_19⟩
theorem pf_X5_2 : PF 5 2 .long false := fun C T N h => by cases h; exact ⟨⟨tyX5, tyX5_ok⟩, nmX5, by decide +kernel, rfl, rfl⟩
theorem dX5_init_22 : decode cX5_init 22 = .ok (.return_, 1) := by decide +kernel
set_option maxRecDepth 100000 in
set_option maxHeartbeats 4000000 in
theorem ev_X5_init (E : g_E) (md : Nat)  : Ev E MX5_init 1 20 1 6 [.ref md] [(md, .inr (5, [.null, .long 0, .long 0]))] (fun v_ w_ => ∃ mi : Nat, v_ = none ∧ w_ = [(md, .inr (5, [.ref mi, .long 0, .long 0])), (mi, .inl (E.2.2.1 3, 6, .inr (.inl (fun _ => 0))))]) := by
  refine Ev.intro (by decide) (Nat.le_of_ble_eq_true rfl) ?_
  intro X B hr hI
  have B : Bd E X cX5_init RX5 1 1 20 1 6 := B
  have hr : Rt E X none 1 6 (fun v_ w_ => ∃ mi : Nat, v_ = none ∧ w_ = [(md, .inr (5, [.ref mi, .long 0, .long 0])), (mi, .inl (E.2.2.1 3, 6, .inr (.inl (fun _ => 0))))]) := hr
  have hI : In X := hI rfl
  show G E X 1 [(md, .inr (5, [.null, .long 0, .long 0]))] 0 0 [(0, .ref md)] 0 []
  refine g_aload_n B dX5_init_0 rfl 0 rfl ?_
  refine g_obj B w_mlo_X5_3 w_im_obj w_cd_obj (by decide) (Nat.le_of_ble_eq_true rfl) dX5_init_1 ?_
  refine g_aload_n B dX5_init_4 rfl 0 rfl ?_
  refine g_bipush (v := 6) B dX5_init_5 (by decide) ?_
  refine g_newa (ty := .long) (t0 := 3) (N := 6) (nc' := 1) (ns' := 6) (a0 := (6, .inr (.inl (fun _ => 0)))) (ws' := fun q_6 => [(md, .inr (5, [.null, .long 0, .long 0])), (q_6, .inl (E.2.2.1 3, 6, .inr (.inl (fun _ => 0))))]) B w_ac_long rfl rfl rfl (fun _ => rfl) (by decide) (by decide) (by decide) rfl rfl (by decide) (by decide) (fun _ => rfl) dX5_init_7 (fun q_6 => ?_)
  refine g_putF (ws' := [(md, .inr (5, [.ref q_6, .long 0, .long 0])), (q_6, .inl (E.2.2.1 3, 6, .inr (.inl (fun _ => 0))))]) B hI 0 0 fl_X5_9 pf_X5_0 (fun q h => by cases h; rfl) rfl (Nat.le_of_ble_eq_true rfl) rfl rfl rfl dX5_init_9 ?_
  refine g_aload_n B dX5_init_12 rfl 0 rfl ?_
  refine g_lconst (v := 0) B dX5_init_13 (by decide) ?_
  refine g_put (ws' := [(md, .inr (5, [.ref q_6, .long 0, .long 0])), (q_6, .inl (E.2.2.1 3, 6, .inr (.inl (fun _ => 0))))]) B 0 1 fl_X5_15 pf_X5_1 rfl (Nat.le_of_ble_eq_true rfl) rfl rfl rfl dX5_init_14 ?_
  refine g_aload_n B dX5_init_17 rfl 0 rfl ?_
  refine g_lconst (v := 0) B dX5_init_18 (by decide) ?_
  refine g_put (ws' := [(md, .inr (5, [.ref q_6, .long 0, .long 0])), (q_6, .inl (E.2.2.1 3, 6, .inr (.inl (fun _ => 0))))]) B 0 2 fl_X5_19 pf_X5_2 rfl (Nat.le_of_ble_eq_true rfl) rfl rfl rfl dX5_init_19 ?_
  exact g_vret B hr dX5_init_22 (by decide) (by decide) ⟨q_6, rfl, rfl⟩
abbrev MX6_init : g_M := (yX6_init, cX6_init, 1, none)
theorem dX6_init_0 : decode cX6_init 0 = .ok (.aload_n 0, 1) := by decide +kernel
theorem dX6_init_1 : decode cX6_init 1 = .ok (.invokespecial 3, 3) := by decide +kernel
theorem w_mlo_X6_3 : Cond.methodLink RX6 3 objectInit ∈ g_tbl := g_tbl_in 257 (by decide +kernel) (by decide +kernel)
theorem dX6_init_4 : decode cX6_init 4 = .ok (.aload_n 0, 1) := by decide +kernel
theorem dX6_init_5 : decode cX6_init 5 = .ok (.new 9, 3) := by decide +kernel
theorem w_clk_X6_9 : Cond.classLink RX6 9 RX7 ∈ g_tbl := g_tbl_in 258 (by decide +kernel) (by decide +kernel)
theorem w_ins_X7 : Cond.instantiable RX7 3 ∈ g_tbl := g_tbl_in 94 (by decide +kernel) (by decide +kernel)
theorem w_ini_X7 : Cond.initialized RX7 ∈ g_tbl := g_tbl_in 69 (by decide +kernel) (by decide +kernel)
theorem nl_X6_9 : NL RX6 9 7 3 [.null, .null, .int 0] := ⟨RX7, TX7, tyX7, rfl, inX_X7, tyX7_ok, w_clk_X6_9, w_ins_X7, w_ini_X7, by decide +kernel⟩
theorem dX6_init_8 : decode cX6_init 8 = .ok (.dup, 1) := by decide +kernel
theorem dX6_init_9 : decode cX6_init 9 = .ok (.invokespecial 11, 3) := by decide +kernel
theorem w_ml_X6_11 : Cond.methodLink RX6 11 yX7_init ∈ g_tbl := g_tbl_in 259 (by decide +kernel) (by decide +kernel)
theorem w_cd_X7_init : g_cw MX7_init ∈ g_tbl := g_tbl_in 97 (by decide +kernel) (by decide +kernel)
theorem cl_X6_11 : CL RX6 11 0 MX7_init := ⟨w_ml_X6_11, w_cd_X7_init, w_ini_X7, by decide +kernel, by decide +kernel, by decide +kernel⟩
theorem w_im_X7_init : Cond.instanceMethod yX7_init ∈ g_tbl := g_tbl_in 96 (by decide +kernel) (by decide +kernel)
theorem dX6_init_12 : decode cX6_init 12 = .ok (.putfield 12, 3) := by decide +kernel
theorem w_fl_X6_12 : Cond.fieldLink RX6 12 (TX6 0).1 (TX6 0).2.1 (TX6 0).2.2.1 ∈ g_tbl := g_tbl_in 260 (by decide +kernel) (by decide +kernel)
set_option maxRecDepth 100000 in
theorem inX_X6 : ∀ w ∈ u_ws RX6 TX6 8, w ∈ g_tbl := by decide +kernel
theorem fl_X6_12 : FL RX6 12 6 0 := ⟨RX6, TX6, 8, rfl, by decide, inX_X6, w_fl_X6_12⟩
theorem pf_X6_0 : PF 6 0 (.object "SoundPress$Plan") true := fun C T N h => by cases h; exact ⟨⟨tyX6, tyX6_ok⟩, nmX6, by decide +kernel, rfl, rfl⟩
theorem dX6_init_15 : decode cX6_init 15 = .ok (.aload_n 0, 1) := by decide +kernel
theorem dX6_init_16 : decode cX6_init 16 = .ok (.bipush 16, 2) := by decide +kernel
theorem dX6_init_18 : decode cX6_init 18 = .ok (.newarray .int, 2) := by decide +kernel
theorem dX6_init_20 : decode cX6_init 20 = .ok (.putfield 18, 3) := by decide +kernel
theorem w_fl_X6_18 : Cond.fieldLink RX6 18 (TX6 1).1 (TX6 1).2.1 (TX6 1).2.2.1 ∈ g_tbl := g_tbl_in 265 (by decide +kernel) (by decide +kernel)
theorem fl_X6_18 : FL RX6 18 6 1 := ⟨RX6, TX6, 8, rfl, by decide, inX_X6, w_fl_X6_18⟩
theorem pf_X6_1 : PF 6 1 (.array .int) true := fun C T N h => by cases h; exact ⟨⟨tyX6, tyX6_ok⟩, nmX6, by decide +kernel, rfl, rfl⟩
theorem dX6_init_23 : decode cX6_init 23 = .ok (.aload_n 0, 1) := by decide +kernel
theorem dX6_init_24 : decode cX6_init 24 = .ok (.sipush 128, 3) := by decide +kernel
theorem dX6_init_27 : decode cX6_init 27 = .ok (.newarray .int, 2) := by decide +kernel
theorem dX6_init_29 : decode cX6_init 29 = .ok (.putfield 22, 3) := by decide +kernel
theorem w_fl_X6_22 : Cond.fieldLink RX6 22 (TX6 2).1 (TX6 2).2.1 (TX6 2).2.2.1 ∈ g_tbl := g_tbl_in 266 (by decide +kernel) (by decide +kernel)
theorem fl_X6_22 : FL RX6 22 6 2 := ⟨RX6, TX6, 8, rfl, by decide, inX_X6, w_fl_X6_22⟩
theorem pf_X6_2 : PF 6 2 (.array .int) true := fun C T N h => by cases h; exact ⟨⟨tyX6, tyX6_ok⟩, nmX6, by decide +kernel, rfl, rfl⟩
theorem dX6_init_32 : decode cX6_init 32 = .ok (.aload_n 0, 1) := by decide +kernel
theorem dX6_init_33 : decode cX6_init 33 = .ok (.bipush 8, 2) := by decide +kernel
theorem dX6_init_35 : decode cX6_init 35 = .ok (.newarray .int, 2) := by decide +kernel
theorem dX6_init_37 : decode cX6_init 37 = .ok (.putfield 25, 3) := by decide +kernel
theorem w_fl_X6_25 : Cond.fieldLink RX6 25 (TX6 3).1 (TX6 3).2.1 (TX6 3).2.2.1 ∈ g_tbl := g_tbl_in 267 (by decide +kernel) (by decide +kernel)
theorem fl_X6_25 : FL RX6 25 6 3 := ⟨RX6, TX6, 8, rfl, by decide, inX_X6, w_fl_X6_25⟩
theorem pf_X6_3 : PF 6 3 (.array .int) true := fun C T N h => by cases h; exact ⟨⟨tyX6, tyX6_ok⟩, nmX6, by decide +kernel, rfl, rfl⟩
theorem dX6_init_40 : decode cX6_init 40 = .ok (.aload_n 0, 1) := by decide +kernel
theorem dX6_init_41 : decode cX6_init 41 = .ok (.bipush 8, 2) := by decide +kernel
theorem dX6_init_43 : decode cX6_init 43 = .ok (.newarray .int, 2) := by decide +kernel
theorem dX6_init_45 : decode cX6_init 45 = .ok (.putfield 28, 3) := by decide +kernel
theorem w_fl_X6_28 : Cond.fieldLink RX6 28 (TX6 4).1 (TX6 4).2.1 (TX6 4).2.2.1 ∈ g_tbl := g_tbl_in 268 (by decide +kernel) (by decide +kernel)
theorem fl_X6_28 : FL RX6 28 6 4 := ⟨RX6, TX6, 8, rfl, by decide, inX_X6, w_fl_X6_28⟩
theorem pf_X6_4 : PF 6 4 (.array .int) true := fun C T N h => by cases h; exact ⟨⟨tyX6, tyX6_ok⟩, nmX6, by decide +kernel, rfl, rfl⟩
theorem dX6_init_48 : decode cX6_init 48 = .ok (.aload_n 0, 1) := by decide +kernel
theorem dX6_init_49 : decode cX6_init 49 = .ok (.iconst 0, 1) := by decide +kernel
theorem dX6_init_50 : decode cX6_init 50 = .ok (.putfield 31, 3) := by decide +kernel
theorem w_fl_X6_31 : Cond.fieldLink RX6 31 (TX6 5).1 (TX6 5).2.1 (TX6 5).2.2.1 ∈ g_tbl := g_tbl_in 269 (by decide +kernel) (by decide +kernel)
theorem fl_X6_31 : FL RX6 31 6 5 := ⟨RX6, TX6, 8, rfl, by decide, inX_X6, w_fl_X6_31⟩
theorem pf_X6_5 : PF 6 5 .int false := fun C T N h => by cases h; exact ⟨⟨tyX6, tyX6_ok⟩, nmX6, by decide +kernel, rfl, rfl⟩
theorem dX6_init_53 : decode cX6_init 53 = .ok (.aload_n 0, 1) := by decide +kernel
theorem dX6_init_54 : decode cX6_init 54 = .ok (.iconst 0, 1) := by decide +kernel
theorem dX6_init_55 : decode cX6_init 55 = .ok (.putfield 35, 3) := by decide +kernel
theorem w_fl_X6_35 : Cond.fieldLink RX6 35 (TX6 6).1 (TX6 6).2.1 (TX6 6).2.2.1 ∈ g_tbl := g_tbl_in 270 (by decide +kernel) (by decide +kernel)
theorem fl_X6_35 : FL RX6 35 6 6 := ⟨RX6, TX6, 8, rfl, by decide, inX_X6, w_fl_X6_35⟩
theorem pf_X6_6 : PF 6 6 .int false := fun C T N h => by cases h; exact ⟨⟨tyX6, tyX6_ok⟩, nmX6, by decide +kernel, rfl, rfl⟩
theorem dX6_init_58 : decode cX6_init 58 = .ok (.aload_n 0, 1) := by decide +kernel
theorem dX6_init_59 : decode cX6_init 59 = .ok (.iconst 0, 1) := by decide +kernel
theorem dX6_init_60 : decode cX6_init 60 = .ok (.putfield 38, 3) := by decide +kernel
theorem w_fl_X6_38 : Cond.fieldLink RX6 38 (TX6 7).1 (TX6 7).2.1 (TX6 7).2.2.1 ∈ g_tbl := g_tbl_in 271 (by decide +kernel) (by decide +kernel)
theorem fl_X6_38 : FL RX6 38 6 7 := ⟨RX6, TX6, 8, rfl, by decide, inX_X6, w_fl_X6_38⟩
theorem pf_X6_7 : PF 6 7 .int false := fun C T N h => by cases h; exact ⟨⟨tyX6, tyX6_ok⟩, nmX6, by decide +kernel, rfl, rfl⟩
theorem dX6_init_63 : decode cX6_init 63 = .ok (.return_, 1) := by decide +kernel
set_option maxRecDepth 100000 in
set_option maxHeartbeats 4000000 in
theorem ev_X6_init (E : g_E) (ps : Nat)  : Ev E MX6_init 2 40 7 179 [.ref ps] [(ps, .inr (6, [.null, .null, .null, .null, .null, .int 0, .int 0, .int 0]))] (fun v_ w_ => ∃ p : Nat, ∃ te : Nat, ∃ de : Nat, ∃ we : Nat, ∃ inp : Nat, ∃ ba : Nat, ∃ gu : Nat, v_ = none ∧ w_ = [(ps, .inr (6, [.ref p, .ref we, .ref inp, .ref ba, .ref gu, .int 0, .int 0, .int 0])), (p, .inr (7, [.ref te, .ref de, .int 0])), (te, .inl (E.2.2.1 0, 8, .inl (fun _ => 0))), (de, .inl (E.2.2.1 0, 8, .inl (fun _ => 0))), (we, .inl (E.2.2.1 0, 16, .inl (fun _ => 0))), (inp, .inl (E.2.2.1 0, 128, .inl (fun _ => 0))), (ba, .inl (E.2.2.1 0, 8, .inl (fun _ => 0))), (gu, .inl (E.2.2.1 0, 8, .inl (fun _ => 0)))]) := by
  refine Ev.intro (by decide) (Nat.le_of_ble_eq_true rfl) ?_
  intro X B hr hI
  have B : Bd E X cX6_init RX6 1 2 40 7 179 := B
  have hr : Rt E X none 7 179 (fun v_ w_ => ∃ p : Nat, ∃ te : Nat, ∃ de : Nat, ∃ we : Nat, ∃ inp : Nat, ∃ ba : Nat, ∃ gu : Nat, v_ = none ∧ w_ = [(ps, .inr (6, [.ref p, .ref we, .ref inp, .ref ba, .ref gu, .int 0, .int 0, .int 0])), (p, .inr (7, [.ref te, .ref de, .int 0])), (te, .inl (E.2.2.1 0, 8, .inl (fun _ => 0))), (de, .inl (E.2.2.1 0, 8, .inl (fun _ => 0))), (we, .inl (E.2.2.1 0, 16, .inl (fun _ => 0))), (inp, .inl (E.2.2.1 0, 128, .inl (fun _ => 0))), (ba, .inl (E.2.2.1 0, 8, .inl (fun _ => 0))), (gu, .inl (E.2.2.1 0, 8, .inl (fun _ => 0)))]) := hr
  have hI : In X := hI rfl
  show G E X 1 [(ps, .inr (6, [.null, .null, .null, .null, .null, .int 0, .int 0, .int 0]))] 0 0 [(0, .ref ps)] 0 []
  refine g_aload_n B dX6_init_0 rfl 0 rfl ?_
  refine g_obj B w_mlo_X6_3 w_im_obj w_cd_obj (by decide) (Nat.le_of_ble_eq_true rfl) dX6_init_1 ?_
  refine g_aload_n B dX6_init_4 rfl 0 rfl ?_
  refine g_new (nc' := 1) (ns' := 3) (ws' := fun q_7 => [(ps, .inr (6, [.null, .null, .null, .null, .null, .int 0, .int 0, .int 0])), (q_7, .inr (7, [.null, .null, .int 0]))]) B nl_X6_9 rfl rfl (by decide) (by decide) (fun _ => rfl) dX6_init_5 (fun q_7 => ?_)
  refine g_dup B dX6_init_8 rfl ?_
  refine g_callI (st := [.ref q_7, .ref ps]) (As := []) (wr := [(ps, .inr (6, [.null, .null, .null, .null, .null, .int 0, .int 0, .int 0]))]) (nc' := 3) (ns' := 19) B cl_X6_11 w_im_X7_init rfl rfl (ev_X7_init E q_7 ) rfl [1] [0] rfl rfl (by decide) (by decide) (by decide) ⟨by decide, by decide⟩ rfl rfl (by decide) (by decide) rfl (Nat.le_of_ble_eq_true rfl) dX6_init_9 (fun v w hq => ?_)
  obtain ⟨te_8, de_9, rfl, rfl⟩ := hq
  show G E X 1 [(ps, .inr (6, [.null, .null, .null, .null, .null, .int 0, .int 0, .int 0])), (q_7, .inr (7, [.ref te_8, .ref de_9, .int 0])), (te_8, .inl (E.2.2.1 0, 8, .inl (fun _ => 0))), (de_9, .inl (E.2.2.1 0, 8, .inl (fun _ => 0)))] 3 19 [(0, .ref ps)] 12 [.ref q_7, .ref ps]
  refine g_putF (ws' := [(ps, .inr (6, [.ref q_7, .null, .null, .null, .null, .int 0, .int 0, .int 0])), (q_7, .inr (7, [.ref te_8, .ref de_9, .int 0])), (te_8, .inl (E.2.2.1 0, 8, .inl (fun _ => 0))), (de_9, .inl (E.2.2.1 0, 8, .inl (fun _ => 0)))]) B hI 0 0 fl_X6_12 pf_X6_0 (fun q h => by cases h; rfl) rfl (Nat.le_of_ble_eq_true rfl) rfl rfl rfl dX6_init_12 ?_
  refine g_aload_n B dX6_init_15 rfl 0 rfl ?_
  refine g_bipush (v := 16) B dX6_init_16 (by decide) ?_
  refine g_newa (ty := .int) (t0 := 0) (N := 16) (nc' := 4) (ns' := 35) (a0 := (16, .inl (fun _ => 0))) (ws' := fun q_10 => [(ps, .inr (6, [.ref q_7, .null, .null, .null, .null, .int 0, .int 0, .int 0])), (q_7, .inr (7, [.ref te_8, .ref de_9, .int 0])), (te_8, .inl (E.2.2.1 0, 8, .inl (fun _ => 0))), (de_9, .inl (E.2.2.1 0, 8, .inl (fun _ => 0))), (q_10, .inl (E.2.2.1 0, 16, .inl (fun _ => 0)))]) B w_ac_int rfl rfl rfl (fun _ => rfl) (by decide) (by decide) (by decide) rfl rfl (by decide) (by decide) (fun _ => rfl) dX6_init_18 (fun q_10 => ?_)
  refine g_putF (ws' := [(ps, .inr (6, [.ref q_7, .ref q_10, .null, .null, .null, .int 0, .int 0, .int 0])), (q_7, .inr (7, [.ref te_8, .ref de_9, .int 0])), (te_8, .inl (E.2.2.1 0, 8, .inl (fun _ => 0))), (de_9, .inl (E.2.2.1 0, 8, .inl (fun _ => 0))), (q_10, .inl (E.2.2.1 0, 16, .inl (fun _ => 0)))]) B hI 0 1 fl_X6_18 pf_X6_1 (fun q h => by cases h; rfl) rfl (Nat.le_of_ble_eq_true rfl) rfl rfl rfl dX6_init_20 ?_
  refine g_aload_n B dX6_init_23 rfl 0 rfl ?_
  refine g_sipush (v := 128) B dX6_init_24 (by decide) ?_
  refine g_newa (ty := .int) (t0 := 0) (N := 128) (nc' := 5) (ns' := 163) (a0 := (128, .inl (fun _ => 0))) (ws' := fun q_11 => [(ps, .inr (6, [.ref q_7, .ref q_10, .null, .null, .null, .int 0, .int 0, .int 0])), (q_7, .inr (7, [.ref te_8, .ref de_9, .int 0])), (te_8, .inl (E.2.2.1 0, 8, .inl (fun _ => 0))), (de_9, .inl (E.2.2.1 0, 8, .inl (fun _ => 0))), (q_10, .inl (E.2.2.1 0, 16, .inl (fun _ => 0))), (q_11, .inl (E.2.2.1 0, 128, .inl (fun _ => 0)))]) B w_ac_int rfl rfl rfl (fun _ => rfl) (by decide) (by decide) (by decide) rfl rfl (by decide) (by decide) (fun _ => rfl) dX6_init_27 (fun q_11 => ?_)
  refine g_putF (ws' := [(ps, .inr (6, [.ref q_7, .ref q_10, .ref q_11, .null, .null, .int 0, .int 0, .int 0])), (q_7, .inr (7, [.ref te_8, .ref de_9, .int 0])), (te_8, .inl (E.2.2.1 0, 8, .inl (fun _ => 0))), (de_9, .inl (E.2.2.1 0, 8, .inl (fun _ => 0))), (q_10, .inl (E.2.2.1 0, 16, .inl (fun _ => 0))), (q_11, .inl (E.2.2.1 0, 128, .inl (fun _ => 0)))]) B hI 0 2 fl_X6_22 pf_X6_2 (fun q h => by cases h; rfl) rfl (Nat.le_of_ble_eq_true rfl) rfl rfl rfl dX6_init_29 ?_
  refine g_aload_n B dX6_init_32 rfl 0 rfl ?_
  refine g_bipush (v := 8) B dX6_init_33 (by decide) ?_
  refine g_newa (ty := .int) (t0 := 0) (N := 8) (nc' := 6) (ns' := 171) (a0 := (8, .inl (fun _ => 0))) (ws' := fun q_12 => [(ps, .inr (6, [.ref q_7, .ref q_10, .ref q_11, .null, .null, .int 0, .int 0, .int 0])), (q_7, .inr (7, [.ref te_8, .ref de_9, .int 0])), (te_8, .inl (E.2.2.1 0, 8, .inl (fun _ => 0))), (de_9, .inl (E.2.2.1 0, 8, .inl (fun _ => 0))), (q_10, .inl (E.2.2.1 0, 16, .inl (fun _ => 0))), (q_11, .inl (E.2.2.1 0, 128, .inl (fun _ => 0))), (q_12, .inl (E.2.2.1 0, 8, .inl (fun _ => 0)))]) B w_ac_int rfl rfl rfl (fun _ => rfl) (by decide) (by decide) (by decide) rfl rfl (by decide) (by decide) (fun _ => rfl) dX6_init_35 (fun q_12 => ?_)
  refine g_putF (ws' := [(ps, .inr (6, [.ref q_7, .ref q_10, .ref q_11, .ref q_12, .null, .int 0, .int 0, .int 0])), (q_7, .inr (7, [.ref te_8, .ref de_9, .int 0])), (te_8, .inl (E.2.2.1 0, 8, .inl (fun _ => 0))), (de_9, .inl (E.2.2.1 0, 8, .inl (fun _ => 0))), (q_10, .inl (E.2.2.1 0, 16, .inl (fun _ => 0))), (q_11, .inl (E.2.2.1 0, 128, .inl (fun _ => 0))), (q_12, .inl (E.2.2.1 0, 8, .inl (fun _ => 0)))]) B hI 0 3 fl_X6_25 pf_X6_3 (fun q h => by cases h; rfl) rfl (Nat.le_of_ble_eq_true rfl) rfl rfl rfl dX6_init_37 ?_
  refine g_aload_n B dX6_init_40 rfl 0 rfl ?_
  refine g_bipush (v := 8) B dX6_init_41 (by decide) ?_
  refine g_newa (ty := .int) (t0 := 0) (N := 8) (nc' := 7) (ns' := 179) (a0 := (8, .inl (fun _ => 0))) (ws' := fun q_13 => [(ps, .inr (6, [.ref q_7, .ref q_10, .ref q_11, .ref q_12, .null, .int 0, .int 0, .int 0])), (q_7, .inr (7, [.ref te_8, .ref de_9, .int 0])), (te_8, .inl (E.2.2.1 0, 8, .inl (fun _ => 0))), (de_9, .inl (E.2.2.1 0, 8, .inl (fun _ => 0))), (q_10, .inl (E.2.2.1 0, 16, .inl (fun _ => 0))), (q_11, .inl (E.2.2.1 0, 128, .inl (fun _ => 0))), (q_12, .inl (E.2.2.1 0, 8, .inl (fun _ => 0))), (q_13, .inl (E.2.2.1 0, 8, .inl (fun _ => 0)))]) B w_ac_int rfl rfl rfl (fun _ => rfl) (by decide) (by decide) (by decide) rfl rfl (by decide) (by decide) (fun _ => rfl) dX6_init_43 (fun q_13 => ?_)
  refine g_putF (ws' := [(ps, .inr (6, [.ref q_7, .ref q_10, .ref q_11, .ref q_12, .ref q_13, .int 0, .int 0, .int 0])), (q_7, .inr (7, [.ref te_8, .ref de_9, .int 0])), (te_8, .inl (E.2.2.1 0, 8, .inl (fun _ => 0))), (de_9, .inl (E.2.2.1 0, 8, .inl (fun _ => 0))), (q_10, .inl (E.2.2.1 0, 16, .inl (fun _ => 0))), (q_11, .inl (E.2.2.1 0, 128, .inl (fun _ => 0))), (q_12, .inl (E.2.2.1 0, 8, .inl (fun _ => 0))), (q_13, .inl (E.2.2.1 0, 8, .inl (fun _ => 0)))]) B hI 0 4 fl_X6_28 pf_X6_4 (fun q h => by cases h; rfl) rfl (Nat.le_of_ble_eq_true rfl) rfl rfl rfl dX6_init_45 ?_
  refine g_aload_n B dX6_init_48 rfl 0 rfl ?_
  refine g_iconst (v := 0) B dX6_init_49 (by decide) ?_
  refine g_put (ws' := [(ps, .inr (6, [.ref q_7, .ref q_10, .ref q_11, .ref q_12, .ref q_13, .int 0, .int 0, .int 0])), (q_7, .inr (7, [.ref te_8, .ref de_9, .int 0])), (te_8, .inl (E.2.2.1 0, 8, .inl (fun _ => 0))), (de_9, .inl (E.2.2.1 0, 8, .inl (fun _ => 0))), (q_10, .inl (E.2.2.1 0, 16, .inl (fun _ => 0))), (q_11, .inl (E.2.2.1 0, 128, .inl (fun _ => 0))), (q_12, .inl (E.2.2.1 0, 8, .inl (fun _ => 0))), (q_13, .inl (E.2.2.1 0, 8, .inl (fun _ => 0)))]) B 0 5 fl_X6_31 pf_X6_5 rfl (Nat.le_of_ble_eq_true rfl) rfl rfl rfl dX6_init_50 ?_
  refine g_aload_n B dX6_init_53 rfl 0 rfl ?_
  refine g_iconst (v := 0) B dX6_init_54 (by decide) ?_
  refine g_put (ws' := [(ps, .inr (6, [.ref q_7, .ref q_10, .ref q_11, .ref q_12, .ref q_13, .int 0, .int 0, .int 0])), (q_7, .inr (7, [.ref te_8, .ref de_9, .int 0])), (te_8, .inl (E.2.2.1 0, 8, .inl (fun _ => 0))), (de_9, .inl (E.2.2.1 0, 8, .inl (fun _ => 0))), (q_10, .inl (E.2.2.1 0, 16, .inl (fun _ => 0))), (q_11, .inl (E.2.2.1 0, 128, .inl (fun _ => 0))), (q_12, .inl (E.2.2.1 0, 8, .inl (fun _ => 0))), (q_13, .inl (E.2.2.1 0, 8, .inl (fun _ => 0)))]) B 0 6 fl_X6_35 pf_X6_6 rfl (Nat.le_of_ble_eq_true rfl) rfl rfl rfl dX6_init_55 ?_
  refine g_aload_n B dX6_init_58 rfl 0 rfl ?_
  refine g_iconst (v := 0) B dX6_init_59 (by decide) ?_
  refine g_put (ws' := [(ps, .inr (6, [.ref q_7, .ref q_10, .ref q_11, .ref q_12, .ref q_13, .int 0, .int 0, .int 0])), (q_7, .inr (7, [.ref te_8, .ref de_9, .int 0])), (te_8, .inl (E.2.2.1 0, 8, .inl (fun _ => 0))), (de_9, .inl (E.2.2.1 0, 8, .inl (fun _ => 0))), (q_10, .inl (E.2.2.1 0, 16, .inl (fun _ => 0))), (q_11, .inl (E.2.2.1 0, 128, .inl (fun _ => 0))), (q_12, .inl (E.2.2.1 0, 8, .inl (fun _ => 0))), (q_13, .inl (E.2.2.1 0, 8, .inl (fun _ => 0)))]) B 0 7 fl_X6_38 pf_X6_7 rfl (Nat.le_of_ble_eq_true rfl) rfl rfl rfl dX6_init_60 ?_
  exact g_vret B hr dX6_init_63 (by decide) (by decide) ⟨q_7, te_8, de_9, q_10, q_11, q_12, q_13, rfl, rfl⟩
abbrev MX9_init : g_M := (yX9_init, cX9_init, 1, none)
theorem dX9_init_0 : decode cX9_init 0 = .ok (.aload_n 0, 1) := by decide +kernel
theorem dX9_init_1 : decode cX9_init 1 = .ok (.invokespecial 3, 3) := by decide +kernel
theorem w_mlo_X9_3 : Cond.methodLink RX9 3 objectInit ∈ g_tbl := g_tbl_in 251 (by decide +kernel) (by decide +kernel)
theorem dX9_init_4 : decode cX9_init 4 = .ok (.aload_n 0, 1) := by decide +kernel
theorem dX9_init_5 : decode cX9_init 5 = .ok (.new 9, 3) := by decide +kernel
theorem w_clk_X9_9 : Cond.classLink RX9 9 RX6 ∈ g_tbl := g_tbl_in 252 (by decide +kernel) (by decide +kernel)
theorem w_ins_X6 : Cond.instantiable RX6 8 ∈ g_tbl := g_tbl_in 253 (by decide +kernel) (by decide +kernel)
theorem w_ini_X6 : Cond.initialized RX6 ∈ g_tbl := g_tbl_in 78 (by decide +kernel) (by decide +kernel)
theorem nl_X9_9 : NL RX9 9 6 8 [.null, .null, .null, .null, .null, .int 0, .int 0, .int 0] := ⟨RX6, TX6, tyX6, rfl, inX_X6, tyX6_ok, w_clk_X9_9, w_ins_X6, w_ini_X6, by decide +kernel⟩
theorem dX9_init_8 : decode cX9_init 8 = .ok (.dup, 1) := by decide +kernel
theorem dX9_init_9 : decode cX9_init 9 = .ok (.invokespecial 11, 3) := by decide +kernel
theorem w_ml_X9_11 : Cond.methodLink RX9 11 yX6_init ∈ g_tbl := g_tbl_in 254 (by decide +kernel) (by decide +kernel)
theorem w_cd_X6_init : g_cw MX6_init ∈ g_tbl := g_tbl_in 256 (by decide +kernel) (by decide +kernel)
theorem cl_X9_11 : CL RX9 11 0 MX6_init := ⟨w_ml_X9_11, w_cd_X6_init, w_ini_X6, by decide +kernel, by decide +kernel, by decide +kernel⟩
theorem w_im_X6_init : Cond.instanceMethod yX6_init ∈ g_tbl := g_tbl_in 255 (by decide +kernel) (by decide +kernel)
theorem dX9_init_12 : decode cX9_init 12 = .ok (.putfield 12, 3) := by decide +kernel
theorem w_fl_X9_12 : Cond.fieldLink RX9 12 (TX9 0).1 (TX9 0).2.1 (TX9 0).2.2.1 ∈ g_tbl := g_tbl_in 309 (by decide +kernel) (by decide +kernel)
set_option maxRecDepth 100000 in
theorem inX_X9 : ∀ w ∈ u_ws RX9 TX9 12, w ∈ g_tbl := by decide +kernel
theorem fl_X9_12 : FL RX9 12 9 0 := ⟨RX9, TX9, 12, rfl, by decide, inX_X9, w_fl_X9_12⟩
theorem pf_X9_0 : PF 9 0 (.object "SoundPress$Passes") true := fun C T N h => by cases h; exact ⟨⟨tyX9, tyX9_ok⟩, nmX9, by decide +kernel, rfl, rfl⟩
theorem dX9_init_15 : decode cX9_init 15 = .ok (.aload_n 0, 1) := by decide +kernel
theorem dX9_init_16 : decode cX9_init 16 = .ok (.new 18, 3) := by decide +kernel
theorem w_clk_X9_18 : Cond.classLink RX9 18 RX5 ∈ g_tbl := g_tbl_in 289 (by decide +kernel) (by decide +kernel)
theorem w_ins_X5 : Cond.instantiable RX5 3 ∈ g_tbl := g_tbl_in 290 (by decide +kernel) (by decide +kernel)
theorem w_ini_X5 : Cond.initialized RX5 ∈ g_tbl := g_tbl_in 79 (by decide +kernel) (by decide +kernel)
theorem nl_X9_18 : NL RX9 18 5 3 [.null, .long 0, .long 0] := ⟨RX5, TX5, tyX5, rfl, inX_X5, tyX5_ok, w_clk_X9_18, w_ins_X5, w_ini_X5, by decide +kernel⟩
theorem dX9_init_19 : decode cX9_init 19 = .ok (.dup, 1) := by decide +kernel
theorem dX9_init_20 : decode cX9_init 20 = .ok (.invokespecial 20, 3) := by decide +kernel
theorem w_ml_X9_20 : Cond.methodLink RX9 20 yX5_init ∈ g_tbl := g_tbl_in 291 (by decide +kernel) (by decide +kernel)
theorem w_cd_X5_init : g_cw MX5_init ∈ g_tbl := g_tbl_in 293 (by decide +kernel) (by decide +kernel)
theorem cl_X9_20 : CL RX9 20 0 MX5_init := ⟨w_ml_X9_20, w_cd_X5_init, w_ini_X5, by decide +kernel, by decide +kernel, by decide +kernel⟩
theorem w_im_X5_init : Cond.instanceMethod yX5_init ∈ g_tbl := g_tbl_in 292 (by decide +kernel) (by decide +kernel)
theorem dX9_init_23 : decode cX9_init 23 = .ok (.putfield 21, 3) := by decide +kernel
theorem w_fl_X9_21 : Cond.fieldLink RX9 21 (TX9 1).1 (TX9 1).2.1 (TX9 1).2.2.1 ∈ g_tbl := g_tbl_in 313 (by decide +kernel) (by decide +kernel)
theorem fl_X9_21 : FL RX9 21 9 1 := ⟨RX9, TX9, 12, rfl, by decide, inX_X9, w_fl_X9_21⟩
theorem pf_X9_1 : PF 9 1 (.object "SoundPress$Medians") true := fun C T N h => by cases h; exact ⟨⟨tyX9, tyX9_ok⟩, nmX9, by decide +kernel, rfl, rfl⟩
theorem dX9_init_26 : decode cX9_init 26 = .ok (.return_, 1) := by decide +kernel
set_option maxRecDepth 100000 in
set_option maxHeartbeats 4000000 in
theorem ev_X9_init (E : g_E) (w : Nat)  : Ev E MX9_init 3 60 10 196 [.ref w] [(w, .inr (9, [.null, .null, .int 0, .int 0, .int 0, .int 0, .int 0, .int 0, .int 0, .int 0, .int 0, .int 0]))] (fun v_ w_ => ∃ ps : Nat, ∃ p : Nat, ∃ te : Nat, ∃ de : Nat, ∃ we : Nat, ∃ inp : Nat, ∃ ba : Nat, ∃ gu : Nat, ∃ md : Nat, ∃ mi : Nat, v_ = none ∧ w_ = [(w, .inr (9, [.ref ps, .ref md, .int 0, .int 0, .int 0, .int 0, .int 0, .int 0, .int 0, .int 0, .int 0, .int 0])), (ps, .inr (6, [.ref p, .ref we, .ref inp, .ref ba, .ref gu, .int 0, .int 0, .int 0])), (p, .inr (7, [.ref te, .ref de, .int 0])), (te, .inl (E.2.2.1 0, 8, .inl (fun _ => 0))), (de, .inl (E.2.2.1 0, 8, .inl (fun _ => 0))), (we, .inl (E.2.2.1 0, 16, .inl (fun _ => 0))), (inp, .inl (E.2.2.1 0, 128, .inl (fun _ => 0))), (ba, .inl (E.2.2.1 0, 8, .inl (fun _ => 0))), (gu, .inl (E.2.2.1 0, 8, .inl (fun _ => 0))), (md, .inr (5, [.ref mi, .long 0, .long 0])), (mi, .inl (E.2.2.1 3, 6, .inr (.inl (fun _ => 0))))]) := by
  refine Ev.intro (by decide) (Nat.le_of_ble_eq_true rfl) ?_
  intro X B hr hI
  have B : Bd E X cX9_init RX9 1 3 60 10 196 := B
  have hr : Rt E X none 10 196 (fun v_ w_ => ∃ ps : Nat, ∃ p : Nat, ∃ te : Nat, ∃ de : Nat, ∃ we : Nat, ∃ inp : Nat, ∃ ba : Nat, ∃ gu : Nat, ∃ md : Nat, ∃ mi : Nat, v_ = none ∧ w_ = [(w, .inr (9, [.ref ps, .ref md, .int 0, .int 0, .int 0, .int 0, .int 0, .int 0, .int 0, .int 0, .int 0, .int 0])), (ps, .inr (6, [.ref p, .ref we, .ref inp, .ref ba, .ref gu, .int 0, .int 0, .int 0])), (p, .inr (7, [.ref te, .ref de, .int 0])), (te, .inl (E.2.2.1 0, 8, .inl (fun _ => 0))), (de, .inl (E.2.2.1 0, 8, .inl (fun _ => 0))), (we, .inl (E.2.2.1 0, 16, .inl (fun _ => 0))), (inp, .inl (E.2.2.1 0, 128, .inl (fun _ => 0))), (ba, .inl (E.2.2.1 0, 8, .inl (fun _ => 0))), (gu, .inl (E.2.2.1 0, 8, .inl (fun _ => 0))), (md, .inr (5, [.ref mi, .long 0, .long 0])), (mi, .inl (E.2.2.1 3, 6, .inr (.inl (fun _ => 0))))]) := hr
  have hI : In X := hI rfl
  show G E X 1 [(w, .inr (9, [.null, .null, .int 0, .int 0, .int 0, .int 0, .int 0, .int 0, .int 0, .int 0, .int 0, .int 0]))] 0 0 [(0, .ref w)] 0 []
  refine g_aload_n B dX9_init_0 rfl 0 rfl ?_
  refine g_obj B w_mlo_X9_3 w_im_obj w_cd_obj (by decide) (Nat.le_of_ble_eq_true rfl) dX9_init_1 ?_
  refine g_aload_n B dX9_init_4 rfl 0 rfl ?_
  refine g_new (nc' := 1) (ns' := 8) (ws' := fun q_14 => [(w, .inr (9, [.null, .null, .int 0, .int 0, .int 0, .int 0, .int 0, .int 0, .int 0, .int 0, .int 0, .int 0])), (q_14, .inr (6, [.null, .null, .null, .null, .null, .int 0, .int 0, .int 0]))]) B nl_X9_9 rfl rfl (by decide) (by decide) (fun _ => rfl) dX9_init_5 (fun q_14 => ?_)
  refine g_dup B dX9_init_8 rfl ?_
  refine g_callI (st := [.ref q_14, .ref w]) (As := []) (wr := [(w, .inr (9, [.null, .null, .int 0, .int 0, .int 0, .int 0, .int 0, .int 0, .int 0, .int 0, .int 0, .int 0]))]) (nc' := 8) (ns' := 187) B cl_X9_11 w_im_X6_init rfl rfl (ev_X6_init E q_14 ) rfl [1] [0] rfl rfl (by decide) (by decide) (by decide) ⟨by decide, by decide⟩ rfl rfl (by decide) (by decide) rfl (Nat.le_of_ble_eq_true rfl) dX9_init_9 (fun v w hq => ?_)
  obtain ⟨p_15, te_16, de_17, we_18, inp_19, ba_20, gu_21, rfl, rfl⟩ := hq
  show G E X 1 [(w, .inr (9, [.null, .null, .int 0, .int 0, .int 0, .int 0, .int 0, .int 0, .int 0, .int 0, .int 0, .int 0])), (q_14, .inr (6, [.ref p_15, .ref we_18, .ref inp_19, .ref ba_20, .ref gu_21, .int 0, .int 0, .int 0])), (p_15, .inr (7, [.ref te_16, .ref de_17, .int 0])), (te_16, .inl (E.2.2.1 0, 8, .inl (fun _ => 0))), (de_17, .inl (E.2.2.1 0, 8, .inl (fun _ => 0))), (we_18, .inl (E.2.2.1 0, 16, .inl (fun _ => 0))), (inp_19, .inl (E.2.2.1 0, 128, .inl (fun _ => 0))), (ba_20, .inl (E.2.2.1 0, 8, .inl (fun _ => 0))), (gu_21, .inl (E.2.2.1 0, 8, .inl (fun _ => 0)))] 8 187 [(0, .ref w)] 12 [.ref q_14, .ref w]
  refine g_putF (ws' := [(w, .inr (9, [.ref q_14, .null, .int 0, .int 0, .int 0, .int 0, .int 0, .int 0, .int 0, .int 0, .int 0, .int 0])), (q_14, .inr (6, [.ref p_15, .ref we_18, .ref inp_19, .ref ba_20, .ref gu_21, .int 0, .int 0, .int 0])), (p_15, .inr (7, [.ref te_16, .ref de_17, .int 0])), (te_16, .inl (E.2.2.1 0, 8, .inl (fun _ => 0))), (de_17, .inl (E.2.2.1 0, 8, .inl (fun _ => 0))), (we_18, .inl (E.2.2.1 0, 16, .inl (fun _ => 0))), (inp_19, .inl (E.2.2.1 0, 128, .inl (fun _ => 0))), (ba_20, .inl (E.2.2.1 0, 8, .inl (fun _ => 0))), (gu_21, .inl (E.2.2.1 0, 8, .inl (fun _ => 0)))]) B hI 0 0 fl_X9_12 pf_X9_0 (fun q h => by cases h; rfl) rfl (Nat.le_of_ble_eq_true rfl) rfl rfl rfl dX9_init_12 ?_
  refine g_aload_n B dX9_init_15 rfl 0 rfl ?_
  refine g_new (nc' := 9) (ns' := 190) (ws' := fun q_22 => [(w, .inr (9, [.ref q_14, .null, .int 0, .int 0, .int 0, .int 0, .int 0, .int 0, .int 0, .int 0, .int 0, .int 0])), (q_14, .inr (6, [.ref p_15, .ref we_18, .ref inp_19, .ref ba_20, .ref gu_21, .int 0, .int 0, .int 0])), (p_15, .inr (7, [.ref te_16, .ref de_17, .int 0])), (te_16, .inl (E.2.2.1 0, 8, .inl (fun _ => 0))), (de_17, .inl (E.2.2.1 0, 8, .inl (fun _ => 0))), (we_18, .inl (E.2.2.1 0, 16, .inl (fun _ => 0))), (inp_19, .inl (E.2.2.1 0, 128, .inl (fun _ => 0))), (ba_20, .inl (E.2.2.1 0, 8, .inl (fun _ => 0))), (gu_21, .inl (E.2.2.1 0, 8, .inl (fun _ => 0))), (q_22, .inr (5, [.null, .long 0, .long 0]))]) B nl_X9_18 rfl rfl (by decide) (by decide) (fun _ => rfl) dX9_init_16 (fun q_22 => ?_)
  refine g_dup B dX9_init_19 rfl ?_
  refine g_callI (st := [.ref q_22, .ref w]) (As := []) (wr := [(w, .inr (9, [.ref q_14, .null, .int 0, .int 0, .int 0, .int 0, .int 0, .int 0, .int 0, .int 0, .int 0, .int 0])), (q_14, .inr (6, [.ref p_15, .ref we_18, .ref inp_19, .ref ba_20, .ref gu_21, .int 0, .int 0, .int 0])), (p_15, .inr (7, [.ref te_16, .ref de_17, .int 0])), (te_16, .inl (E.2.2.1 0, 8, .inl (fun _ => 0))), (de_17, .inl (E.2.2.1 0, 8, .inl (fun _ => 0))), (we_18, .inl (E.2.2.1 0, 16, .inl (fun _ => 0))), (inp_19, .inl (E.2.2.1 0, 128, .inl (fun _ => 0))), (ba_20, .inl (E.2.2.1 0, 8, .inl (fun _ => 0))), (gu_21, .inl (E.2.2.1 0, 8, .inl (fun _ => 0)))]) (nc' := 10) (ns' := 196) B cl_X9_20 w_im_X5_init rfl rfl (ev_X5_init E q_22 ) rfl [9] [0, 1, 2, 3, 4, 5, 6, 7, 8] rfl rfl (by decide) (by decide) (by decide) ⟨by decide, by decide⟩ rfl rfl (by decide) (by decide) rfl (Nat.le_of_ble_eq_true rfl) dX9_init_20 (fun v w hq => ?_)
  obtain ⟨mi_23, rfl, rfl⟩ := hq
  show G E X 1 [(w, .inr (9, [.ref q_14, .null, .int 0, .int 0, .int 0, .int 0, .int 0, .int 0, .int 0, .int 0, .int 0, .int 0])), (q_14, .inr (6, [.ref p_15, .ref we_18, .ref inp_19, .ref ba_20, .ref gu_21, .int 0, .int 0, .int 0])), (p_15, .inr (7, [.ref te_16, .ref de_17, .int 0])), (te_16, .inl (E.2.2.1 0, 8, .inl (fun _ => 0))), (de_17, .inl (E.2.2.1 0, 8, .inl (fun _ => 0))), (we_18, .inl (E.2.2.1 0, 16, .inl (fun _ => 0))), (inp_19, .inl (E.2.2.1 0, 128, .inl (fun _ => 0))), (ba_20, .inl (E.2.2.1 0, 8, .inl (fun _ => 0))), (gu_21, .inl (E.2.2.1 0, 8, .inl (fun _ => 0))), (q_22, .inr (5, [.ref mi_23, .long 0, .long 0])), (mi_23, .inl (E.2.2.1 3, 6, .inr (.inl (fun _ => 0))))] 10 196 [(0, .ref w)] 23 [.ref q_22, .ref w]
  refine g_putF (ws' := [(w, .inr (9, [.ref q_14, .ref q_22, .int 0, .int 0, .int 0, .int 0, .int 0, .int 0, .int 0, .int 0, .int 0, .int 0])), (q_14, .inr (6, [.ref p_15, .ref we_18, .ref inp_19, .ref ba_20, .ref gu_21, .int 0, .int 0, .int 0])), (p_15, .inr (7, [.ref te_16, .ref de_17, .int 0])), (te_16, .inl (E.2.2.1 0, 8, .inl (fun _ => 0))), (de_17, .inl (E.2.2.1 0, 8, .inl (fun _ => 0))), (we_18, .inl (E.2.2.1 0, 16, .inl (fun _ => 0))), (inp_19, .inl (E.2.2.1 0, 128, .inl (fun _ => 0))), (ba_20, .inl (E.2.2.1 0, 8, .inl (fun _ => 0))), (gu_21, .inl (E.2.2.1 0, 8, .inl (fun _ => 0))), (q_22, .inr (5, [.ref mi_23, .long 0, .long 0])), (mi_23, .inl (E.2.2.1 3, 6, .inr (.inl (fun _ => 0))))]) B hI 0 1 fl_X9_21 pf_X9_1 (fun q h => by cases h; rfl) rfl (Nat.le_of_ble_eq_true rfl) rfl rfl rfl dX9_init_23 ?_
  exact g_vret B hr dX9_init_26 (by decide) (by decide) ⟨q_14, p_15, te_16, de_17, we_18, inp_19, ba_20, gu_21, q_22, mi_23, rfl, rfl⟩
abbrev MX8_init : g_M := (yX8_init, cX8_init, 1, none)
theorem dX8_init_0 : decode cX8_init 0 = .ok (.aload_n 0, 1) := by decide +kernel
theorem dX8_init_1 : decode cX8_init 1 = .ok (.invokespecial 3, 3) := by decide +kernel
theorem w_mlo_X8_3 : Cond.methodLink RX8 3 objectInit ∈ g_tbl := g_tbl_in 145 (by decide +kernel) (by decide +kernel)
theorem dX8_init_4 : decode cX8_init 4 = .ok (.aload_n 0, 1) := by decide +kernel
theorem dX8_init_5 : decode cX8_init 5 = .ok (.sipush 1200, 3) := by decide +kernel
theorem dX8_init_8 : decode cX8_init 8 = .ok (.newarray .int, 2) := by decide +kernel
theorem dX8_init_10 : decode cX8_init 10 = .ok (.putfield 9, 3) := by decide +kernel
theorem w_fl_X8_9 : Cond.fieldLink RX8 9 (TX8 0).1 (TX8 0).2.1 (TX8 0).2.2.1 ∈ g_tbl := g_tbl_in 146 (by decide +kernel) (by decide +kernel)
set_option maxRecDepth 100000 in
theorem inX_X8 : ∀ w ∈ u_ws RX8 TX8 4, w ∈ g_tbl := by decide +kernel
theorem fl_X8_9 : FL RX8 9 8 0 := ⟨RX8, TX8, 4, rfl, by decide, inX_X8, w_fl_X8_9⟩
theorem pf_X8_0 : PF 8 0 (.array .int) true := fun C T N h => by cases h; exact ⟨⟨tyX8, tyX8_ok⟩, nmX8, by decide +kernel, rfl, rfl⟩
theorem dX8_init_13 : decode cX8_init 13 = .ok (.aload_n 0, 1) := by decide +kernel
theorem dX8_init_14 : decode cX8_init 14 = .ok (.sipush 1200, 3) := by decide +kernel
theorem dX8_init_17 : decode cX8_init 17 = .ok (.newarray .int, 2) := by decide +kernel
theorem dX8_init_19 : decode cX8_init 19 = .ok (.putfield 15, 3) := by decide +kernel
theorem w_fl_X8_15 : Cond.fieldLink RX8 15 (TX8 1).1 (TX8 1).2.1 (TX8 1).2.2.1 ∈ g_tbl := g_tbl_in 148 (by decide +kernel) (by decide +kernel)
theorem fl_X8_15 : FL RX8 15 8 1 := ⟨RX8, TX8, 4, rfl, by decide, inX_X8, w_fl_X8_15⟩
theorem pf_X8_1 : PF 8 1 (.array .int) true := fun C T N h => by cases h; exact ⟨⟨tyX8, tyX8_ok⟩, nmX8, by decide +kernel, rfl, rfl⟩
theorem dX8_init_22 : decode cX8_init 22 = .ok (.aload_n 0, 1) := by decide +kernel
theorem dX8_init_23 : decode cX8_init 23 = .ok (.sipush 1200, 3) := by decide +kernel
theorem dX8_init_26 : decode cX8_init 26 = .ok (.newarray .long, 2) := by decide +kernel
theorem dX8_init_28 : decode cX8_init 28 = .ok (.putfield 18, 3) := by decide +kernel
theorem w_fl_X8_18 : Cond.fieldLink RX8 18 (TX8 2).1 (TX8 2).2.1 (TX8 2).2.2.1 ∈ g_tbl := g_tbl_in 150 (by decide +kernel) (by decide +kernel)
theorem fl_X8_18 : FL RX8 18 8 2 := ⟨RX8, TX8, 4, rfl, by decide, inX_X8, w_fl_X8_18⟩
theorem pf_X8_2 : PF 8 2 (.array .long) true := fun C T N h => by cases h; exact ⟨⟨tyX8, tyX8_ok⟩, nmX8, by decide +kernel, rfl, rfl⟩
theorem dX8_init_31 : decode cX8_init 31 = .ok (.aload_n 0, 1) := by decide +kernel
theorem dX8_init_32 : decode cX8_init 32 = .ok (.sipush 1200, 3) := by decide +kernel
theorem dX8_init_35 : decode cX8_init 35 = .ok (.newarray .int, 2) := by decide +kernel
theorem dX8_init_37 : decode cX8_init 37 = .ok (.putfield 22, 3) := by decide +kernel
theorem w_fl_X8_22 : Cond.fieldLink RX8 22 (TX8 3).1 (TX8 3).2.1 (TX8 3).2.2.1 ∈ g_tbl := g_tbl_in 152 (by decide +kernel) (by decide +kernel)
theorem fl_X8_22 : FL RX8 22 8 3 := ⟨RX8, TX8, 4, rfl, by decide, inX_X8, w_fl_X8_22⟩
theorem pf_X8_3 : PF 8 3 (.array .int) true := fun C T N h => by cases h; exact ⟨⟨tyX8, tyX8_ok⟩, nmX8, by decide +kernel, rfl, rfl⟩
theorem dX8_init_40 : decode cX8_init 40 = .ok (.return_, 1) := by decide +kernel
set_option maxRecDepth 100000 in
set_option maxHeartbeats 4000000 in
theorem ev_X8_init (E : g_E) (sh : Nat)  : Ev E MX8_init 1 20 4 4800 [.ref sh] [(sh, .inr (8, [.null, .null, .null, .null]))] (fun v_ w_ => ∃ sv : Nat, ∃ sr : Nat, ∃ sl : Nat, ∃ sp : Nat, v_ = none ∧ w_ = [(sh, .inr (8, [.ref sv, .ref sr, .ref sl, .ref sp])), (sv, .inl (E.2.2.1 0, 1200, .inl (fun _ => 0))), (sr, .inl (E.2.2.1 0, 1200, .inl (fun _ => 0))), (sl, .inl (E.2.2.1 3, 1200, .inr (.inl (fun _ => 0)))), (sp, .inl (E.2.2.1 0, 1200, .inl (fun _ => 0)))]) := by
  refine Ev.intro (by decide) (Nat.le_of_ble_eq_true rfl) ?_
  intro X B hr hI
  have B : Bd E X cX8_init RX8 1 1 20 4 4800 := B
  have hr : Rt E X none 4 4800 (fun v_ w_ => ∃ sv : Nat, ∃ sr : Nat, ∃ sl : Nat, ∃ sp : Nat, v_ = none ∧ w_ = [(sh, .inr (8, [.ref sv, .ref sr, .ref sl, .ref sp])), (sv, .inl (E.2.2.1 0, 1200, .inl (fun _ => 0))), (sr, .inl (E.2.2.1 0, 1200, .inl (fun _ => 0))), (sl, .inl (E.2.2.1 3, 1200, .inr (.inl (fun _ => 0)))), (sp, .inl (E.2.2.1 0, 1200, .inl (fun _ => 0)))]) := hr
  have hI : In X := hI rfl
  show G E X 1 [(sh, .inr (8, [.null, .null, .null, .null]))] 0 0 [(0, .ref sh)] 0 []
  refine g_aload_n B dX8_init_0 rfl 0 rfl ?_
  refine g_obj B w_mlo_X8_3 w_im_obj w_cd_obj (by decide) (Nat.le_of_ble_eq_true rfl) dX8_init_1 ?_
  refine g_aload_n B dX8_init_4 rfl 0 rfl ?_
  refine g_sipush (v := 1200) B dX8_init_5 (by decide) ?_
  refine g_newa (ty := .int) (t0 := 0) (N := 1200) (nc' := 1) (ns' := 1200) (a0 := (1200, .inl (fun _ => 0))) (ws' := fun q_24 => [(sh, .inr (8, [.null, .null, .null, .null])), (q_24, .inl (E.2.2.1 0, 1200, .inl (fun _ => 0)))]) B w_ac_int rfl rfl rfl (fun _ => rfl) (by decide) (by decide) (by decide) rfl rfl (by decide) (by decide) (fun _ => rfl) dX8_init_8 (fun q_24 => ?_)
  refine g_putF (ws' := [(sh, .inr (8, [.ref q_24, .null, .null, .null])), (q_24, .inl (E.2.2.1 0, 1200, .inl (fun _ => 0)))]) B hI 0 0 fl_X8_9 pf_X8_0 (fun q h => by cases h; rfl) rfl (Nat.le_of_ble_eq_true rfl) rfl rfl rfl dX8_init_10 ?_
  refine g_aload_n B dX8_init_13 rfl 0 rfl ?_
  refine g_sipush (v := 1200) B dX8_init_14 (by decide) ?_
  refine g_newa (ty := .int) (t0 := 0) (N := 1200) (nc' := 2) (ns' := 2400) (a0 := (1200, .inl (fun _ => 0))) (ws' := fun q_25 => [(sh, .inr (8, [.ref q_24, .null, .null, .null])), (q_24, .inl (E.2.2.1 0, 1200, .inl (fun _ => 0))), (q_25, .inl (E.2.2.1 0, 1200, .inl (fun _ => 0)))]) B w_ac_int rfl rfl rfl (fun _ => rfl) (by decide) (by decide) (by decide) rfl rfl (by decide) (by decide) (fun _ => rfl) dX8_init_17 (fun q_25 => ?_)
  refine g_putF (ws' := [(sh, .inr (8, [.ref q_24, .ref q_25, .null, .null])), (q_24, .inl (E.2.2.1 0, 1200, .inl (fun _ => 0))), (q_25, .inl (E.2.2.1 0, 1200, .inl (fun _ => 0)))]) B hI 0 1 fl_X8_15 pf_X8_1 (fun q h => by cases h; rfl) rfl (Nat.le_of_ble_eq_true rfl) rfl rfl rfl dX8_init_19 ?_
  refine g_aload_n B dX8_init_22 rfl 0 rfl ?_
  refine g_sipush (v := 1200) B dX8_init_23 (by decide) ?_
  refine g_newa (ty := .long) (t0 := 3) (N := 1200) (nc' := 3) (ns' := 3600) (a0 := (1200, .inr (.inl (fun _ => 0)))) (ws' := fun q_26 => [(sh, .inr (8, [.ref q_24, .ref q_25, .null, .null])), (q_24, .inl (E.2.2.1 0, 1200, .inl (fun _ => 0))), (q_25, .inl (E.2.2.1 0, 1200, .inl (fun _ => 0))), (q_26, .inl (E.2.2.1 3, 1200, .inr (.inl (fun _ => 0))))]) B w_ac_long rfl rfl rfl (fun _ => rfl) (by decide) (by decide) (by decide) rfl rfl (by decide) (by decide) (fun _ => rfl) dX8_init_26 (fun q_26 => ?_)
  refine g_putF (ws' := [(sh, .inr (8, [.ref q_24, .ref q_25, .ref q_26, .null])), (q_24, .inl (E.2.2.1 0, 1200, .inl (fun _ => 0))), (q_25, .inl (E.2.2.1 0, 1200, .inl (fun _ => 0))), (q_26, .inl (E.2.2.1 3, 1200, .inr (.inl (fun _ => 0))))]) B hI 0 2 fl_X8_18 pf_X8_2 (fun q h => by cases h; rfl) rfl (Nat.le_of_ble_eq_true rfl) rfl rfl rfl dX8_init_28 ?_
  refine g_aload_n B dX8_init_31 rfl 0 rfl ?_
  refine g_sipush (v := 1200) B dX8_init_32 (by decide) ?_
  refine g_newa (ty := .int) (t0 := 0) (N := 1200) (nc' := 4) (ns' := 4800) (a0 := (1200, .inl (fun _ => 0))) (ws' := fun q_27 => [(sh, .inr (8, [.ref q_24, .ref q_25, .ref q_26, .null])), (q_24, .inl (E.2.2.1 0, 1200, .inl (fun _ => 0))), (q_25, .inl (E.2.2.1 0, 1200, .inl (fun _ => 0))), (q_26, .inl (E.2.2.1 3, 1200, .inr (.inl (fun _ => 0)))), (q_27, .inl (E.2.2.1 0, 1200, .inl (fun _ => 0)))]) B w_ac_int rfl rfl rfl (fun _ => rfl) (by decide) (by decide) (by decide) rfl rfl (by decide) (by decide) (fun _ => rfl) dX8_init_35 (fun q_27 => ?_)
  refine g_putF (ws' := [(sh, .inr (8, [.ref q_24, .ref q_25, .ref q_26, .ref q_27])), (q_24, .inl (E.2.2.1 0, 1200, .inl (fun _ => 0))), (q_25, .inl (E.2.2.1 0, 1200, .inl (fun _ => 0))), (q_26, .inl (E.2.2.1 3, 1200, .inr (.inl (fun _ => 0)))), (q_27, .inl (E.2.2.1 0, 1200, .inl (fun _ => 0)))]) B hI 0 3 fl_X8_22 pf_X8_3 (fun q h => by cases h; rfl) rfl (Nat.le_of_ble_eq_true rfl) rfl rfl rfl dX8_init_37 ?_
  exact g_vret B hr dX8_init_40 (by decide) (by decide) ⟨q_24, q_25, q_26, q_27, rfl, rfl⟩
end
section
abbrev MX4_init : g_M := (yX4_init, cX4_init, 4, none)
theorem dX4_init_0 : decode cX4_init 0 = .ok (.aload_n 0, 1) := by decide +kernel
theorem dX4_init_1 : decode cX4_init 1 = .ok (.invokespecial 3, 3) := by decide +kernel
theorem w_mlo_X4_3 : Cond.methodLink RX4 3 objectInit ∈ g_tbl := g_tbl_in 169 (by decide +kernel) (by decide +kernel)
theorem dX4_init_4 : decode cX4_init 4 = .ok (.aload_n 0, 1) := by decide +kernel
theorem dX4_init_5 : decode cX4_init 5 = .ok (.aload_n 1, 1) := by decide +kernel
theorem dX4_init_6 : decode cX4_init 6 = .ok (.putfield 9, 3) := by decide +kernel
theorem w_fl_X4_9 : Cond.fieldLink RX4 9 (TX4 0).1 (TX4 0).2.1 (TX4 0).2.2.1 ∈ g_tbl := g_tbl_in 186 (by decide +kernel) (by decide +kernel)
set_option maxRecDepth 100000 in
theorem inX_X4 : ∀ w ∈ u_ws RX4 TX4 5, w ∈ g_tbl := by decide +kernel
theorem fl_X4_9 : FL RX4 9 4 0 := ⟨RX4, TX4, 5, rfl, by decide, inX_X4, w_fl_X4_9⟩
theorem pf_X4_0 : PF 4 0 (.object "SoundPress$Bytes") true := fun C T N h => by cases h; exact ⟨⟨tyX4, tyX4_ok⟩, nmX4, by decide +kernel, rfl, rfl⟩
theorem dX4_init_9 : decode cX4_init 9 = .ok (.aload_n 0, 1) := by decide +kernel
theorem dX4_init_10 : decode cX4_init 10 = .ok (.aload_n 2, 1) := by decide +kernel
theorem dX4_init_11 : decode cX4_init 11 = .ok (.putfield 15, 3) := by decide +kernel
theorem w_fl_X4_15 : Cond.fieldLink RX4 15 (TX4 1).1 (TX4 1).2.1 (TX4 1).2.2.1 ∈ g_tbl := g_tbl_in 187 (by decide +kernel) (by decide +kernel)
theorem fl_X4_15 : FL RX4 15 4 1 := ⟨RX4, TX4, 5, rfl, by decide, inX_X4, w_fl_X4_15⟩
theorem pf_X4_1 : PF 4 1 (.object "SoundPress$Bytes") true := fun C T N h => by cases h; exact ⟨⟨tyX4, tyX4_ok⟩, nmX4, by decide +kernel, rfl, rfl⟩
theorem dX4_init_14 : decode cX4_init 14 = .ok (.aload_n 0, 1) := by decide +kernel
theorem dX4_init_15 : decode cX4_init 15 = .ok (.aload_n 3, 1) := by decide +kernel
theorem dX4_init_16 : decode cX4_init 16 = .ok (.putfield 18, 3) := by decide +kernel
theorem w_fl_X4_18 : Cond.fieldLink RX4 18 (TX4 4).1 (TX4 4).2.1 (TX4 4).2.2.1 ∈ g_tbl := g_tbl_in 190 (by decide +kernel) (by decide +kernel)
theorem fl_X4_18 : FL RX4 18 4 4 := ⟨RX4, TX4, 5, rfl, by decide, inX_X4, w_fl_X4_18⟩
theorem pf_X4_4 : PF 4 4 (.object "SoundPress$Sheet") true := fun C T N h => by cases h; exact ⟨⟨tyX4, tyX4_ok⟩, nmX4, by decide +kernel, rfl, rfl⟩
theorem dX4_init_19 : decode cX4_init 19 = .ok (.aload_n 0, 1) := by decide +kernel
theorem dX4_init_20 : decode cX4_init 20 = .ok (.new 22, 3) := by decide +kernel
theorem w_clk_X4_22 : Cond.classLink RX4 22 RX1 ∈ g_tbl := g_tbl_in 170 (by decide +kernel) (by decide +kernel)
theorem w_ins_X1 : Cond.instantiable RX1 3 ∈ g_tbl := g_tbl_in 171 (by decide +kernel) (by decide +kernel)
theorem w_ini_X1 : Cond.initialized RX1 ∈ g_tbl := g_tbl_in 74 (by decide +kernel) (by decide +kernel)
theorem nl_X4_22 : NL RX4 22 1 3 [.null, .int 0, .int 0] := ⟨RX1, TX1, tyX1, rfl, inX_X1, tyX1_ok, w_clk_X4_22, w_ins_X1, w_ini_X1, by decide +kernel⟩
theorem dX4_init_23 : decode cX4_init 23 = .ok (.dup, 1) := by decide +kernel
theorem dX4_init_24 : decode cX4_init 24 = .ok (.aload_n 1, 1) := by decide +kernel
theorem dX4_init_25 : decode cX4_init 25 = .ok (.invokespecial 24, 3) := by decide +kernel
theorem w_ml_X4_24 : Cond.methodLink RX4 24 yX1_init ∈ g_tbl := g_tbl_in 172 (by decide +kernel) (by decide +kernel)
theorem w_cd_X1_init : g_cw MX1_init ∈ g_tbl := g_tbl_in 174 (by decide +kernel) (by decide +kernel)
theorem cl_X4_24 : CL RX4 24 1 MX1_init := ⟨w_ml_X4_24, w_cd_X1_init, w_ini_X1, by decide +kernel, by decide +kernel, by decide +kernel⟩
theorem w_im_X1_init : Cond.instanceMethod yX1_init ∈ g_tbl := g_tbl_in 173 (by decide +kernel) (by decide +kernel)
theorem dX4_init_28 : decode cX4_init 28 = .ok (.putfield 27, 3) := by decide +kernel
theorem w_fl_X4_27 : Cond.fieldLink RX4 27 (TX4 2).1 (TX4 2).2.1 (TX4 2).2.2.1 ∈ g_tbl := g_tbl_in 188 (by decide +kernel) (by decide +kernel)
theorem fl_X4_27 : FL RX4 27 4 2 := ⟨RX4, TX4, 5, rfl, by decide, inX_X4, w_fl_X4_27⟩
theorem pf_X4_2 : PF 4 2 (.object "SoundPress$BitWriter") true := fun C T N h => by cases h; exact ⟨⟨tyX4, tyX4_ok⟩, nmX4, by decide +kernel, rfl, rfl⟩
theorem dX4_init_31 : decode cX4_init 31 = .ok (.aload_n 0, 1) := by decide +kernel
theorem dX4_init_32 : decode cX4_init 32 = .ok (.new 22, 3) := by decide +kernel
theorem dX4_init_35 : decode cX4_init 35 = .ok (.dup, 1) := by decide +kernel
theorem dX4_init_36 : decode cX4_init 36 = .ok (.aload_n 2, 1) := by decide +kernel
theorem dX4_init_37 : decode cX4_init 37 = .ok (.invokespecial 24, 3) := by decide +kernel
theorem dX4_init_40 : decode cX4_init 40 = .ok (.putfield 31, 3) := by decide +kernel
theorem w_fl_X4_31 : Cond.fieldLink RX4 31 (TX4 3).1 (TX4 3).2.1 (TX4 3).2.2.1 ∈ g_tbl := g_tbl_in 189 (by decide +kernel) (by decide +kernel)
theorem fl_X4_31 : FL RX4 31 4 3 := ⟨RX4, TX4, 5, rfl, by decide, inX_X4, w_fl_X4_31⟩
theorem pf_X4_3 : PF 4 3 (.object "SoundPress$BitWriter") true := fun C T N h => by cases h; exact ⟨⟨tyX4, tyX4_ok⟩, nmX4, by decide +kernel, rfl, rfl⟩
theorem dX4_init_43 : decode cX4_init 43 = .ok (.return_, 1) := by decide +kernel
set_option maxRecDepth 100000 in
set_option maxHeartbeats 4000000 in
theorem ev_X4_init (E : g_E) (e : Nat) (t1 : Nat) (t2 : Nat) (sh : Nat)  : Ev E MX4_init 2 41 2 6 [.ref e, .ref t1, .ref t2, .ref sh] [(e, .inr (4, [.null, .null, .null, .null, .null]))] (fun v_ w_ => ∃ b1 : Nat, ∃ b2 : Nat, v_ = none ∧ w_ = [(e, .inr (4, [.ref t1, .ref t2, .ref b1, .ref b2, .ref sh])), (b1, .inr (1, [.ref t1, .int 0, .int 0])), (b2, .inr (1, [.ref t2, .int 0, .int 0]))]) := by
  refine Ev.intro (by decide) (Nat.le_of_ble_eq_true rfl) ?_
  intro X B hr hI
  have B : Bd E X cX4_init RX4 4 2 41 2 6 := B
  have hr : Rt E X none 2 6 (fun v_ w_ => ∃ b1 : Nat, ∃ b2 : Nat, v_ = none ∧ w_ = [(e, .inr (4, [.ref t1, .ref t2, .ref b1, .ref b2, .ref sh])), (b1, .inr (1, [.ref t1, .int 0, .int 0])), (b2, .inr (1, [.ref t2, .int 0, .int 0]))]) := hr
  have hI : In X := hI rfl
  show G E X 4 [(e, .inr (4, [.null, .null, .null, .null, .null]))] 0 0 [(0, .ref e), (1, .ref t1), (2, .ref t2), (3, .ref sh)] 0 []
  refine g_aload_n B dX4_init_0 rfl 0 rfl ?_
  refine g_obj B w_mlo_X4_3 w_im_obj w_cd_obj (by decide) (Nat.le_of_ble_eq_true rfl) dX4_init_1 ?_
  refine g_aload_n B dX4_init_4 rfl 0 rfl ?_
  refine g_aload_n B dX4_init_5 rfl 1 rfl ?_
  refine g_putF (ws' := [(e, .inr (4, [.ref t1, .null, .null, .null, .null]))]) B hI 0 0 fl_X4_9 pf_X4_0 (fun q h => by cases h; rfl) rfl (Nat.le_of_ble_eq_true rfl) rfl rfl rfl dX4_init_6 ?_
  refine g_aload_n B dX4_init_9 rfl 0 rfl ?_
  refine g_aload_n B dX4_init_10 rfl 2 rfl ?_
  refine g_putF (ws' := [(e, .inr (4, [.ref t1, .ref t2, .null, .null, .null]))]) B hI 0 1 fl_X4_15 pf_X4_1 (fun q h => by cases h; rfl) rfl (Nat.le_of_ble_eq_true rfl) rfl rfl rfl dX4_init_11 ?_
  refine g_aload_n B dX4_init_14 rfl 0 rfl ?_
  refine g_aload_n B dX4_init_15 rfl 3 rfl ?_
  refine g_putF (ws' := [(e, .inr (4, [.ref t1, .ref t2, .null, .null, .ref sh]))]) B hI 0 4 fl_X4_18 pf_X4_4 (fun q h => by cases h; rfl) rfl (Nat.le_of_ble_eq_true rfl) rfl rfl rfl dX4_init_16 ?_
  refine g_aload_n B dX4_init_19 rfl 0 rfl ?_
  refine g_new (nc' := 1) (ns' := 3) (ws' := fun q_28 => [(e, .inr (4, [.ref t1, .ref t2, .null, .null, .ref sh])), (q_28, .inr (1, [.null, .int 0, .int 0]))]) B nl_X4_22 rfl rfl (by decide) (by decide) (fun _ => rfl) dX4_init_20 (fun q_28 => ?_)
  refine g_dup B dX4_init_23 rfl ?_
  refine g_aload_n B dX4_init_24 rfl 1 rfl ?_
  refine g_callI (st := [.ref q_28, .ref e]) (As := [.ref t1]) (wr := [(e, .inr (4, [.ref t1, .ref t2, .null, .null, .ref sh]))]) (nc' := 1) (ns' := 3) B cl_X4_24 w_im_X1_init rfl rfl (ev_X1_init E q_28 t1 ) rfl [1] [0] rfl rfl (by decide) (by decide) (by decide) ⟨by decide, by decide⟩ rfl rfl (by decide) (by decide) rfl (Nat.le_of_ble_eq_true rfl) dX4_init_25 (fun v w hq => ?_)
  obtain ⟨rfl, rfl⟩ := hq
  show G E X 4 [(e, .inr (4, [.ref t1, .ref t2, .null, .null, .ref sh])), (q_28, .inr (1, [.ref t1, .int 0, .int 0]))] 1 3 [(0, .ref e), (1, .ref t1), (2, .ref t2), (3, .ref sh)] 28 [.ref q_28, .ref e]
  refine g_putF (ws' := [(e, .inr (4, [.ref t1, .ref t2, .ref q_28, .null, .ref sh])), (q_28, .inr (1, [.ref t1, .int 0, .int 0]))]) B hI 0 2 fl_X4_27 pf_X4_2 (fun q h => by cases h; rfl) rfl (Nat.le_of_ble_eq_true rfl) rfl rfl rfl dX4_init_28 ?_
  refine g_aload_n B dX4_init_31 rfl 0 rfl ?_
  refine g_new (nc' := 2) (ns' := 6) (ws' := fun q_29 => [(e, .inr (4, [.ref t1, .ref t2, .ref q_28, .null, .ref sh])), (q_28, .inr (1, [.ref t1, .int 0, .int 0])), (q_29, .inr (1, [.null, .int 0, .int 0]))]) B nl_X4_22 rfl rfl (by decide) (by decide) (fun _ => rfl) dX4_init_32 (fun q_29 => ?_)
  refine g_dup B dX4_init_35 rfl ?_
  refine g_aload_n B dX4_init_36 rfl 2 rfl ?_
  refine g_callI (st := [.ref q_29, .ref e]) (As := [.ref t2]) (wr := [(e, .inr (4, [.ref t1, .ref t2, .ref q_28, .null, .ref sh])), (q_28, .inr (1, [.ref t1, .int 0, .int 0]))]) (nc' := 2) (ns' := 6) B cl_X4_24 w_im_X1_init rfl rfl (ev_X1_init E q_29 t2 ) rfl [2] [0, 1] rfl rfl (by decide) (by decide) (by decide) ⟨by decide, by decide⟩ rfl rfl (by decide) (by decide) rfl (Nat.le_of_ble_eq_true rfl) dX4_init_37 (fun v w hq => ?_)
  obtain ⟨rfl, rfl⟩ := hq
  show G E X 4 [(e, .inr (4, [.ref t1, .ref t2, .ref q_28, .null, .ref sh])), (q_28, .inr (1, [.ref t1, .int 0, .int 0])), (q_29, .inr (1, [.ref t2, .int 0, .int 0]))] 2 6 [(0, .ref e), (1, .ref t1), (2, .ref t2), (3, .ref sh)] 40 [.ref q_29, .ref e]
  refine g_putF (ws' := [(e, .inr (4, [.ref t1, .ref t2, .ref q_28, .ref q_29, .ref sh])), (q_28, .inr (1, [.ref t1, .int 0, .int 0])), (q_29, .inr (1, [.ref t2, .int 0, .int 0]))]) B hI 0 3 fl_X4_31 pf_X4_3 (fun q h => by cases h; rfl) rfl (Nat.le_of_ble_eq_true rfl) rfl rfl rfl dX4_init_40 ?_
  exact g_vret B hr dX4_init_43 (by decide) (by decide) ⟨q_28, q_29, rfl, rfl⟩
abbrev MX3_init : g_M := (yX3_init, cX3_init, 4, none)
theorem dX3_init_0 : decode cX3_init 0 = .ok (.aload_n 0, 1) := by decide +kernel
theorem dX3_init_1 : decode cX3_init 1 = .ok (.invokespecial 3, 3) := by decide +kernel
theorem w_mlo_X3_3 : Cond.methodLink RX3 3 objectInit ∈ g_tbl := g_tbl_in 208 (by decide +kernel) (by decide +kernel)
theorem dX3_init_4 : decode cX3_init 4 = .ok (.aload_n 0, 1) := by decide +kernel
theorem dX3_init_5 : decode cX3_init 5 = .ok (.aload_n 1, 1) := by decide +kernel
theorem dX3_init_6 : decode cX3_init 6 = .ok (.putfield 9, 3) := by decide +kernel
theorem w_fl_X3_9 : Cond.fieldLink RX3 9 (TX3 0).1 (TX3 0).2.1 (TX3 0).2.2.1 ∈ g_tbl := g_tbl_in 229 (by decide +kernel) (by decide +kernel)
set_option maxRecDepth 100000 in
theorem inX_X3 : ∀ w ∈ u_ws RX3 TX3 5, w ∈ g_tbl := by decide +kernel
theorem fl_X3_9 : FL RX3 9 3 0 := ⟨RX3, TX3, 5, rfl, by decide, inX_X3, w_fl_X3_9⟩
theorem pf_X3_0 : PF 3 0 (.object "SoundPress$Bytes") true := fun C T N h => by cases h; exact ⟨⟨tyX3, tyX3_ok⟩, nmX3, by decide +kernel, rfl, rfl⟩
theorem dX3_init_9 : decode cX3_init 9 = .ok (.aload_n 0, 1) := by decide +kernel
theorem dX3_init_10 : decode cX3_init 10 = .ok (.aload_n 2, 1) := by decide +kernel
theorem dX3_init_11 : decode cX3_init 11 = .ok (.putfield 15, 3) := by decide +kernel
theorem w_fl_X3_15 : Cond.fieldLink RX3 15 (TX3 1).1 (TX3 1).2.1 (TX3 1).2.2.1 ∈ g_tbl := g_tbl_in 230 (by decide +kernel) (by decide +kernel)
theorem fl_X3_15 : FL RX3 15 3 1 := ⟨RX3, TX3, 5, rfl, by decide, inX_X3, w_fl_X3_15⟩
theorem pf_X3_1 : PF 3 1 (.object "SoundPress$Bytes") true := fun C T N h => by cases h; exact ⟨⟨tyX3, tyX3_ok⟩, nmX3, by decide +kernel, rfl, rfl⟩
theorem dX3_init_14 : decode cX3_init 14 = .ok (.aload_n 0, 1) := by decide +kernel
theorem dX3_init_15 : decode cX3_init 15 = .ok (.aload_n 3, 1) := by decide +kernel
theorem dX3_init_16 : decode cX3_init 16 = .ok (.putfield 18, 3) := by decide +kernel
theorem w_fl_X3_18 : Cond.fieldLink RX3 18 (TX3 4).1 (TX3 4).2.1 (TX3 4).2.2.1 ∈ g_tbl := g_tbl_in 233 (by decide +kernel) (by decide +kernel)
theorem fl_X3_18 : FL RX3 18 3 4 := ⟨RX3, TX3, 5, rfl, by decide, inX_X3, w_fl_X3_18⟩
theorem pf_X3_4 : PF 3 4 (.object "SoundPress$Sheet") true := fun C T N h => by cases h; exact ⟨⟨tyX3, tyX3_ok⟩, nmX3, by decide +kernel, rfl, rfl⟩
theorem dX3_init_19 : decode cX3_init 19 = .ok (.aload_n 0, 1) := by decide +kernel
theorem dX3_init_20 : decode cX3_init 20 = .ok (.new 22, 3) := by decide +kernel
theorem w_clk_X3_22 : Cond.classLink RX3 22 RX0 ∈ g_tbl := g_tbl_in 209 (by decide +kernel) (by decide +kernel)
theorem w_ins_X0 : Cond.instantiable RX0 4 ∈ g_tbl := g_tbl_in 210 (by decide +kernel) (by decide +kernel)
theorem w_ini_X0 : Cond.initialized RX0 ∈ g_tbl := g_tbl_in 76 (by decide +kernel) (by decide +kernel)
theorem nl_X3_22 : NL RX3 22 0 4 [.null, .int 0, .int 0, .int 0] := ⟨RX0, TX0, tyX0, rfl, inX_X0, tyX0_ok, w_clk_X3_22, w_ins_X0, w_ini_X0, by decide +kernel⟩
theorem dX3_init_23 : decode cX3_init 23 = .ok (.dup, 1) := by decide +kernel
theorem dX3_init_24 : decode cX3_init 24 = .ok (.aload_n 1, 1) := by decide +kernel
theorem dX3_init_25 : decode cX3_init 25 = .ok (.invokespecial 24, 3) := by decide +kernel
theorem w_ml_X3_24 : Cond.methodLink RX3 24 yX0_init ∈ g_tbl := g_tbl_in 211 (by decide +kernel) (by decide +kernel)
theorem w_cd_X0_init : g_cw MX0_init ∈ g_tbl := g_tbl_in 213 (by decide +kernel) (by decide +kernel)
theorem cl_X3_24 : CL RX3 24 1 MX0_init := ⟨w_ml_X3_24, w_cd_X0_init, w_ini_X0, by decide +kernel, by decide +kernel, by decide +kernel⟩
theorem w_im_X0_init : Cond.instanceMethod yX0_init ∈ g_tbl := g_tbl_in 212 (by decide +kernel) (by decide +kernel)
theorem dX3_init_28 : decode cX3_init 28 = .ok (.putfield 27, 3) := by decide +kernel
theorem w_fl_X3_27 : Cond.fieldLink RX3 27 (TX3 2).1 (TX3 2).2.1 (TX3 2).2.2.1 ∈ g_tbl := g_tbl_in 231 (by decide +kernel) (by decide +kernel)
theorem fl_X3_27 : FL RX3 27 3 2 := ⟨RX3, TX3, 5, rfl, by decide, inX_X3, w_fl_X3_27⟩
theorem pf_X3_2 : PF 3 2 (.object "SoundPress$BitReader") true := fun C T N h => by cases h; exact ⟨⟨tyX3, tyX3_ok⟩, nmX3, by decide +kernel, rfl, rfl⟩
theorem dX3_init_31 : decode cX3_init 31 = .ok (.aload_n 0, 1) := by decide +kernel
theorem dX3_init_32 : decode cX3_init 32 = .ok (.new 22, 3) := by decide +kernel
theorem dX3_init_35 : decode cX3_init 35 = .ok (.dup, 1) := by decide +kernel
theorem dX3_init_36 : decode cX3_init 36 = .ok (.aload_n 2, 1) := by decide +kernel
theorem dX3_init_37 : decode cX3_init 37 = .ok (.invokespecial 24, 3) := by decide +kernel
theorem dX3_init_40 : decode cX3_init 40 = .ok (.putfield 31, 3) := by decide +kernel
theorem w_fl_X3_31 : Cond.fieldLink RX3 31 (TX3 3).1 (TX3 3).2.1 (TX3 3).2.2.1 ∈ g_tbl := g_tbl_in 232 (by decide +kernel) (by decide +kernel)
theorem fl_X3_31 : FL RX3 31 3 3 := ⟨RX3, TX3, 5, rfl, by decide, inX_X3, w_fl_X3_31⟩
theorem pf_X3_3 : PF 3 3 (.object "SoundPress$BitReader") true := fun C T N h => by cases h; exact ⟨⟨tyX3, tyX3_ok⟩, nmX3, by decide +kernel, rfl, rfl⟩
theorem dX3_init_43 : decode cX3_init 43 = .ok (.return_, 1) := by decide +kernel
set_option maxRecDepth 100000 in
set_option maxHeartbeats 4000000 in
theorem ev_X3_init (E : g_E) (e : Nat) (t1 : Nat) (t2 : Nat) (sh : Nat)  : Ev E MX3_init 2 41 2 8 [.ref e, .ref t1, .ref t2, .ref sh] [(e, .inr (3, [.null, .null, .null, .null, .null]))] (fun v_ w_ => ∃ b1 : Nat, ∃ b2 : Nat, v_ = none ∧ w_ = [(e, .inr (3, [.ref t1, .ref t2, .ref b1, .ref b2, .ref sh])), (b1, .inr (0, [.ref t1, .int 0, .int 0, .int 0])), (b2, .inr (0, [.ref t2, .int 0, .int 0, .int 0]))]) := by
  refine Ev.intro (by decide) (Nat.le_of_ble_eq_true rfl) ?_
  intro X B hr hI
  have B : Bd E X cX3_init RX3 4 2 41 2 8 := B
  have hr : Rt E X none 2 8 (fun v_ w_ => ∃ b1 : Nat, ∃ b2 : Nat, v_ = none ∧ w_ = [(e, .inr (3, [.ref t1, .ref t2, .ref b1, .ref b2, .ref sh])), (b1, .inr (0, [.ref t1, .int 0, .int 0, .int 0])), (b2, .inr (0, [.ref t2, .int 0, .int 0, .int 0]))]) := hr
  have hI : In X := hI rfl
  show G E X 4 [(e, .inr (3, [.null, .null, .null, .null, .null]))] 0 0 [(0, .ref e), (1, .ref t1), (2, .ref t2), (3, .ref sh)] 0 []
  refine g_aload_n B dX3_init_0 rfl 0 rfl ?_
  refine g_obj B w_mlo_X3_3 w_im_obj w_cd_obj (by decide) (Nat.le_of_ble_eq_true rfl) dX3_init_1 ?_
  refine g_aload_n B dX3_init_4 rfl 0 rfl ?_
  refine g_aload_n B dX3_init_5 rfl 1 rfl ?_
  refine g_putF (ws' := [(e, .inr (3, [.ref t1, .null, .null, .null, .null]))]) B hI 0 0 fl_X3_9 pf_X3_0 (fun q h => by cases h; rfl) rfl (Nat.le_of_ble_eq_true rfl) rfl rfl rfl dX3_init_6 ?_
  refine g_aload_n B dX3_init_9 rfl 0 rfl ?_
  refine g_aload_n B dX3_init_10 rfl 2 rfl ?_
  refine g_putF (ws' := [(e, .inr (3, [.ref t1, .ref t2, .null, .null, .null]))]) B hI 0 1 fl_X3_15 pf_X3_1 (fun q h => by cases h; rfl) rfl (Nat.le_of_ble_eq_true rfl) rfl rfl rfl dX3_init_11 ?_
  refine g_aload_n B dX3_init_14 rfl 0 rfl ?_
  refine g_aload_n B dX3_init_15 rfl 3 rfl ?_
  refine g_putF (ws' := [(e, .inr (3, [.ref t1, .ref t2, .null, .null, .ref sh]))]) B hI 0 4 fl_X3_18 pf_X3_4 (fun q h => by cases h; rfl) rfl (Nat.le_of_ble_eq_true rfl) rfl rfl rfl dX3_init_16 ?_
  refine g_aload_n B dX3_init_19 rfl 0 rfl ?_
  refine g_new (nc' := 1) (ns' := 4) (ws' := fun q_30 => [(e, .inr (3, [.ref t1, .ref t2, .null, .null, .ref sh])), (q_30, .inr (0, [.null, .int 0, .int 0, .int 0]))]) B nl_X3_22 rfl rfl (by decide) (by decide) (fun _ => rfl) dX3_init_20 (fun q_30 => ?_)
  refine g_dup B dX3_init_23 rfl ?_
  refine g_aload_n B dX3_init_24 rfl 1 rfl ?_
  refine g_callI (st := [.ref q_30, .ref e]) (As := [.ref t1]) (wr := [(e, .inr (3, [.ref t1, .ref t2, .null, .null, .ref sh]))]) (nc' := 1) (ns' := 4) B cl_X3_24 w_im_X0_init rfl rfl (ev_X0_init E q_30 t1 ) rfl [1] [0] rfl rfl (by decide) (by decide) (by decide) ⟨by decide, by decide⟩ rfl rfl (by decide) (by decide) rfl (Nat.le_of_ble_eq_true rfl) dX3_init_25 (fun v w hq => ?_)
  obtain ⟨rfl, rfl⟩ := hq
  show G E X 4 [(e, .inr (3, [.ref t1, .ref t2, .null, .null, .ref sh])), (q_30, .inr (0, [.ref t1, .int 0, .int 0, .int 0]))] 1 4 [(0, .ref e), (1, .ref t1), (2, .ref t2), (3, .ref sh)] 28 [.ref q_30, .ref e]
  refine g_putF (ws' := [(e, .inr (3, [.ref t1, .ref t2, .ref q_30, .null, .ref sh])), (q_30, .inr (0, [.ref t1, .int 0, .int 0, .int 0]))]) B hI 0 2 fl_X3_27 pf_X3_2 (fun q h => by cases h; rfl) rfl (Nat.le_of_ble_eq_true rfl) rfl rfl rfl dX3_init_28 ?_
  refine g_aload_n B dX3_init_31 rfl 0 rfl ?_
  refine g_new (nc' := 2) (ns' := 8) (ws' := fun q_31 => [(e, .inr (3, [.ref t1, .ref t2, .ref q_30, .null, .ref sh])), (q_30, .inr (0, [.ref t1, .int 0, .int 0, .int 0])), (q_31, .inr (0, [.null, .int 0, .int 0, .int 0]))]) B nl_X3_22 rfl rfl (by decide) (by decide) (fun _ => rfl) dX3_init_32 (fun q_31 => ?_)
  refine g_dup B dX3_init_35 rfl ?_
  refine g_aload_n B dX3_init_36 rfl 2 rfl ?_
  refine g_callI (st := [.ref q_31, .ref e]) (As := [.ref t2]) (wr := [(e, .inr (3, [.ref t1, .ref t2, .ref q_30, .null, .ref sh])), (q_30, .inr (0, [.ref t1, .int 0, .int 0, .int 0]))]) (nc' := 2) (ns' := 8) B cl_X3_24 w_im_X0_init rfl rfl (ev_X0_init E q_31 t2 ) rfl [2] [0, 1] rfl rfl (by decide) (by decide) (by decide) ⟨by decide, by decide⟩ rfl rfl (by decide) (by decide) rfl (Nat.le_of_ble_eq_true rfl) dX3_init_37 (fun v w hq => ?_)
  obtain ⟨rfl, rfl⟩ := hq
  show G E X 4 [(e, .inr (3, [.ref t1, .ref t2, .ref q_30, .null, .ref sh])), (q_30, .inr (0, [.ref t1, .int 0, .int 0, .int 0])), (q_31, .inr (0, [.ref t2, .int 0, .int 0, .int 0]))] 2 8 [(0, .ref e), (1, .ref t1), (2, .ref t2), (3, .ref sh)] 40 [.ref q_31, .ref e]
  refine g_putF (ws' := [(e, .inr (3, [.ref t1, .ref t2, .ref q_30, .ref q_31, .ref sh])), (q_30, .inr (0, [.ref t1, .int 0, .int 0, .int 0])), (q_31, .inr (0, [.ref t2, .int 0, .int 0, .int 0]))]) B hI 0 3 fl_X3_31 pf_X3_3 (fun q h => by cases h; rfl) rfl (Nat.le_of_ble_eq_true rfl) rfl rfl rfl dX3_init_40 ?_
  exact g_vret B hr dX3_init_43 (by decide) (by decide) ⟨q_30, q_31, rfl, rfl⟩
abbrev MX10_init : g_M := (yX10_init, cX10_init, 2, none)
theorem dX10_init_0 : decode cX10_init 0 = .ok (.aload_n 0, 1) := by decide +kernel
theorem dX10_init_1 : decode cX10_init 1 = .ok (.invokespecial 1, 3) := by decide +kernel
theorem w_mlo_X10_1 : Cond.methodLink RX10 1 objectInit ∈ g_tbl := g_tbl_in 90 (by decide +kernel) (by decide +kernel)
theorem dX10_init_4 : decode cX10_init 4 = .ok (.aload_n 0, 1) := by decide +kernel
theorem dX10_init_5 : decode cX10_init 5 = .ok (.sipush 1200, 3) := by decide +kernel
theorem dX10_init_8 : decode cX10_init 8 = .ok (.newarray .int, 2) := by decide +kernel
theorem dX10_init_10 : decode cX10_init 10 = .ok (.putfield 9, 3) := by decide +kernel
theorem w_fl_X10_9 : Cond.fieldLink RX10 9 (TX10 0).1 (TX10 0).2.1 (TX10 0).2.2.1 ∈ g_tbl := g_tbl_in 366 (by decide +kernel) (by decide +kernel)
set_option maxRecDepth 100000 in
theorem inX_X10 : ∀ w ∈ u_ws RX10 TX10 11, w ∈ g_tbl := by decide +kernel
theorem fl_X10_9 : FL RX10 9 10 0 := ⟨RX10, TX10, 11, rfl, by decide, inX_X10, w_fl_X10_9⟩
theorem pf_X10_0 : PF 10 0 (.array .int) true := fun C T N h => by cases h; exact ⟨⟨tyX10, tyX10_ok⟩, nmX10, by decide +kernel, rfl, rfl⟩
theorem dX10_init_13 : decode cX10_init 13 = .ok (.aload_n 0, 1) := by decide +kernel
theorem dX10_init_14 : decode cX10_init 14 = .ok (.iconst 0, 1) := by decide +kernel
theorem dX10_init_15 : decode cX10_init 15 = .ok (.putfield 13, 3) := by decide +kernel
theorem w_fl_X10_13 : Cond.fieldLink RX10 13 (TX10 1).1 (TX10 1).2.1 (TX10 1).2.2.1 ∈ g_tbl := g_tbl_in 367 (by decide +kernel) (by decide +kernel)
theorem fl_X10_13 : FL RX10 13 10 1 := ⟨RX10, TX10, 11, rfl, by decide, inX_X10, w_fl_X10_13⟩
theorem pf_X10_1 : PF 10 1 .int false := fun C T N h => by cases h; exact ⟨⟨tyX10, tyX10_ok⟩, nmX10, by decide +kernel, rfl, rfl⟩
theorem dX10_init_18 : decode cX10_init 18 = .ok (.aload_n 0, 1) := by decide +kernel
theorem dX10_init_19 : decode cX10_init 19 = .ok (.new 17, 3) := by decide +kernel
theorem w_clk_X10_17 : Cond.classLink RX10 17 RX7 ∈ g_tbl := g_tbl_in 93 (by decide +kernel) (by decide +kernel)
theorem nl_X10_17 : NL RX10 17 7 3 [.null, .null, .int 0] := ⟨RX7, TX7, tyX7, rfl, inX_X7, tyX7_ok, w_clk_X10_17, w_ins_X7, w_ini_X7, by decide +kernel⟩
theorem dX10_init_22 : decode cX10_init 22 = .ok (.dup, 1) := by decide +kernel
theorem dX10_init_23 : decode cX10_init 23 = .ok (.invokespecial 19, 3) := by decide +kernel
theorem w_ml_X10_19 : Cond.methodLink RX10 19 yX7_init ∈ g_tbl := g_tbl_in 95 (by decide +kernel) (by decide +kernel)
theorem cl_X10_19 : CL RX10 19 0 MX7_init := ⟨w_ml_X10_19, w_cd_X7_init, w_ini_X7, by decide +kernel, by decide +kernel, by decide +kernel⟩
theorem dX10_init_26 : decode cX10_init 26 = .ok (.putfield 20, 3) := by decide +kernel
theorem w_fl_X10_20 : Cond.fieldLink RX10 20 (TX10 2).1 (TX10 2).2.1 (TX10 2).2.2.1 ∈ g_tbl := g_tbl_in 368 (by decide +kernel) (by decide +kernel)
theorem fl_X10_20 : FL RX10 20 10 2 := ⟨RX10, TX10, 11, rfl, by decide, inX_X10, w_fl_X10_20⟩
theorem pf_X10_2 : PF 10 2 (.object "SoundPress$Plan") true := fun C T N h => by cases h; exact ⟨⟨tyX10, tyX10_ok⟩, nmX10, by decide +kernel, rfl, rfl⟩
theorem dX10_init_29 : decode cX10_init 29 = .ok (.aload_n 0, 1) := by decide +kernel
theorem dX10_init_30 : decode cX10_init 30 = .ok (.new 24, 3) := by decide +kernel
theorem w_clk_X10_24 : Cond.classLink RX10 24 RX2 ∈ g_tbl := g_tbl_in 118 (by decide +kernel) (by decide +kernel)
theorem w_ins_X2 : Cond.instantiable RX2 2 ∈ g_tbl := g_tbl_in 119 (by decide +kernel) (by decide +kernel)
theorem w_ini_X2 : Cond.initialized RX2 ∈ g_tbl := g_tbl_in 70 (by decide +kernel) (by decide +kernel)
theorem nl_X10_24 : NL RX10 24 2 2 [.null, .int 0] := ⟨RX2, TX2, tyX2, rfl, inX_X2, tyX2_ok, w_clk_X10_24, w_ins_X2, w_ini_X2, by decide +kernel⟩
theorem dX10_init_33 : decode cX10_init 33 = .ok (.dup, 1) := by decide +kernel
theorem dX10_init_34 : decode cX10_init 34 = .ok (.sipush 6000, 3) := by decide +kernel
theorem dX10_init_37 : decode cX10_init 37 = .ok (.invokespecial 26, 3) := by decide +kernel
theorem w_ml_X10_26 : Cond.methodLink RX10 26 yX2_init ∈ g_tbl := g_tbl_in 120 (by decide +kernel) (by decide +kernel)
theorem w_cd_X2_init : g_cw MX2_init ∈ g_tbl := g_tbl_in 122 (by decide +kernel) (by decide +kernel)
theorem cl_X10_26 : CL RX10 26 1 MX2_init := ⟨w_ml_X10_26, w_cd_X2_init, w_ini_X2, by decide +kernel, by decide +kernel, by decide +kernel⟩
theorem w_im_X2_init : Cond.instanceMethod yX2_init ∈ g_tbl := g_tbl_in 121 (by decide +kernel) (by decide +kernel)
theorem dX10_init_40 : decode cX10_init 40 = .ok (.putfield 29, 3) := by decide +kernel
theorem w_fl_X10_29 : Cond.fieldLink RX10 29 (TX10 3).1 (TX10 3).2.1 (TX10 3).2.2.1 ∈ g_tbl := g_tbl_in 369 (by decide +kernel) (by decide +kernel)
theorem fl_X10_29 : FL RX10 29 10 3 := ⟨RX10, TX10, 11, rfl, by decide, inX_X10, w_fl_X10_29⟩
theorem pf_X10_3 : PF 10 3 (.object "SoundPress$Bytes") true := fun C T N h => by cases h; exact ⟨⟨tyX10, tyX10_ok⟩, nmX10, by decide +kernel, rfl, rfl⟩
theorem dX10_init_43 : decode cX10_init 43 = .ok (.aload_n 0, 1) := by decide +kernel
theorem dX10_init_44 : decode cX10_init 44 = .ok (.new 24, 3) := by decide +kernel
theorem dX10_init_47 : decode cX10_init 47 = .ok (.dup, 1) := by decide +kernel
theorem dX10_init_48 : decode cX10_init 48 = .ok (.sipush 6000, 3) := by decide +kernel
theorem dX10_init_51 : decode cX10_init 51 = .ok (.invokespecial 26, 3) := by decide +kernel
theorem dX10_init_54 : decode cX10_init 54 = .ok (.putfield 33, 3) := by decide +kernel
theorem w_fl_X10_33 : Cond.fieldLink RX10 33 (TX10 4).1 (TX10 4).2.1 (TX10 4).2.2.1 ∈ g_tbl := g_tbl_in 370 (by decide +kernel) (by decide +kernel)
theorem fl_X10_33 : FL RX10 33 10 4 := ⟨RX10, TX10, 11, rfl, by decide, inX_X10, w_fl_X10_33⟩
theorem pf_X10_4 : PF 10 4 (.object "SoundPress$Bytes") true := fun C T N h => by cases h; exact ⟨⟨tyX10, tyX10_ok⟩, nmX10, by decide +kernel, rfl, rfl⟩
theorem dX10_init_57 : decode cX10_init 57 = .ok (.aload_n 0, 1) := by decide +kernel
theorem dX10_init_58 : decode cX10_init 58 = .ok (.new 24, 3) := by decide +kernel
theorem dX10_init_61 : decode cX10_init 61 = .ok (.dup, 1) := by decide +kernel
theorem dX10_init_62 : decode cX10_init 62 = .ok (.sipush 9600, 3) := by decide +kernel
theorem dX10_init_65 : decode cX10_init 65 = .ok (.invokespecial 26, 3) := by decide +kernel
theorem dX10_init_68 : decode cX10_init 68 = .ok (.putfield 36, 3) := by decide +kernel
theorem w_fl_X10_36 : Cond.fieldLink RX10 36 (TX10 5).1 (TX10 5).2.1 (TX10 5).2.2.1 ∈ g_tbl := g_tbl_in 371 (by decide +kernel) (by decide +kernel)
theorem fl_X10_36 : FL RX10 36 10 5 := ⟨RX10, TX10, 11, rfl, by decide, inX_X10, w_fl_X10_36⟩
theorem pf_X10_5 : PF 10 5 (.object "SoundPress$Bytes") true := fun C T N h => by cases h; exact ⟨⟨tyX10, tyX10_ok⟩, nmX10, by decide +kernel, rfl, rfl⟩
theorem dX10_init_71 : decode cX10_init 71 = .ok (.aload_n 0, 1) := by decide +kernel
theorem dX10_init_72 : decode cX10_init 72 = .ok (.new 24, 3) := by decide +kernel
theorem dX10_init_75 : decode cX10_init 75 = .ok (.dup, 1) := by decide +kernel
theorem dX10_init_76 : decode cX10_init 76 = .ok (.sipush 2450, 3) := by decide +kernel
theorem dX10_init_79 : decode cX10_init 79 = .ok (.invokespecial 26, 3) := by decide +kernel
theorem dX10_init_82 : decode cX10_init 82 = .ok (.putfield 39, 3) := by decide +kernel
theorem w_fl_X10_39 : Cond.fieldLink RX10 39 (TX10 6).1 (TX10 6).2.1 (TX10 6).2.2.1 ∈ g_tbl := g_tbl_in 372 (by decide +kernel) (by decide +kernel)
theorem fl_X10_39 : FL RX10 39 10 6 := ⟨RX10, TX10, 11, rfl, by decide, inX_X10, w_fl_X10_39⟩
theorem pf_X10_6 : PF 10 6 (.object "SoundPress$Bytes") true := fun C T N h => by cases h; exact ⟨⟨tyX10, tyX10_ok⟩, nmX10, by decide +kernel, rfl, rfl⟩
theorem dX10_init_85 : decode cX10_init 85 = .ok (.new 42, 3) := by decide +kernel
theorem w_clk_X10_42 : Cond.classLink RX10 42 RX8 ∈ g_tbl := g_tbl_in 140 (by decide +kernel) (by decide +kernel)
theorem w_ins_X8 : Cond.instantiable RX8 4 ∈ g_tbl := g_tbl_in 141 (by decide +kernel) (by decide +kernel)
theorem w_ini_X8 : Cond.initialized RX8 ∈ g_tbl := g_tbl_in 72 (by decide +kernel) (by decide +kernel)
theorem nl_X10_42 : NL RX10 42 8 4 [.null, .null, .null, .null] := ⟨RX8, TX8, tyX8, rfl, inX_X8, tyX8_ok, w_clk_X10_42, w_ins_X8, w_ini_X8, by decide +kernel⟩
theorem dX10_init_88 : decode cX10_init 88 = .ok (.dup, 1) := by decide +kernel
theorem dX10_init_89 : decode cX10_init 89 = .ok (.invokespecial 44, 3) := by decide +kernel
theorem w_ml_X10_44 : Cond.methodLink RX10 44 yX8_init ∈ g_tbl := g_tbl_in 142 (by decide +kernel) (by decide +kernel)
theorem w_cd_X8_init : g_cw MX8_init ∈ g_tbl := g_tbl_in 144 (by decide +kernel) (by decide +kernel)
theorem cl_X10_44 : CL RX10 44 0 MX8_init := ⟨w_ml_X10_44, w_cd_X8_init, w_ini_X8, by decide +kernel, by decide +kernel, by decide +kernel⟩
theorem w_im_X8_init : Cond.instanceMethod yX8_init ∈ g_tbl := g_tbl_in 143 (by decide +kernel) (by decide +kernel)
theorem dX10_init_92 : decode cX10_init 92 = .ok (.astore_n 1, 1) := by decide +kernel
theorem dX10_init_93 : decode cX10_init 93 = .ok (.aload_n 0, 1) := by decide +kernel
theorem dX10_init_94 : decode cX10_init 94 = .ok (.new 45, 3) := by decide +kernel
theorem w_clk_X10_45 : Cond.classLink RX10 45 RX4 ∈ g_tbl := g_tbl_in 164 (by decide +kernel) (by decide +kernel)
theorem w_ins_X4 : Cond.instantiable RX4 5 ∈ g_tbl := g_tbl_in 165 (by decide +kernel) (by decide +kernel)
theorem w_ini_X4 : Cond.initialized RX4 ∈ g_tbl := g_tbl_in 73 (by decide +kernel) (by decide +kernel)
theorem nl_X10_45 : NL RX10 45 4 5 [.null, .null, .null, .null, .null] := ⟨RX4, TX4, tyX4, rfl, inX_X4, tyX4_ok, w_clk_X10_45, w_ins_X4, w_ini_X4, by decide +kernel⟩
theorem dX10_init_97 : decode cX10_init 97 = .ok (.dup, 1) := by decide +kernel
theorem dX10_init_98 : decode cX10_init 98 = .ok (.aload_n 0, 1) := by decide +kernel
theorem dX10_init_99 : decode cX10_init 99 = .ok (.getfield 36, 3) := by decide +kernel
theorem dX10_init_102 : decode cX10_init 102 = .ok (.aload_n 0, 1) := by decide +kernel
theorem dX10_init_103 : decode cX10_init 103 = .ok (.getfield 39, 3) := by decide +kernel
theorem dX10_init_106 : decode cX10_init 106 = .ok (.aload_n 1, 1) := by decide +kernel
theorem dX10_init_107 : decode cX10_init 107 = .ok (.invokespecial 47, 3) := by decide +kernel
theorem w_ml_X10_47 : Cond.methodLink RX10 47 yX4_init ∈ g_tbl := g_tbl_in 166 (by decide +kernel) (by decide +kernel)
theorem w_cd_X4_init : g_cw MX4_init ∈ g_tbl := g_tbl_in 168 (by decide +kernel) (by decide +kernel)
theorem cl_X10_47 : CL RX10 47 3 MX4_init := ⟨w_ml_X10_47, w_cd_X4_init, w_ini_X4, by decide +kernel, by decide +kernel, by decide +kernel⟩
theorem w_im_X4_init : Cond.instanceMethod yX4_init ∈ g_tbl := g_tbl_in 167 (by decide +kernel) (by decide +kernel)
theorem dX10_init_110 : decode cX10_init 110 = .ok (.putfield 50, 3) := by decide +kernel
theorem w_fl_X10_50 : Cond.fieldLink RX10 50 (TX10 7).1 (TX10 7).2.1 (TX10 7).2.2.1 ∈ g_tbl := g_tbl_in 373 (by decide +kernel) (by decide +kernel)
theorem fl_X10_50 : FL RX10 50 10 7 := ⟨RX10, TX10, 11, rfl, by decide, inX_X10, w_fl_X10_50⟩
theorem pf_X10_7 : PF 10 7 (.object "SoundPress$Encoder") true := fun C T N h => by cases h; exact ⟨⟨tyX10, tyX10_ok⟩, nmX10, by decide +kernel, rfl, rfl⟩
theorem dX10_init_113 : decode cX10_init 113 = .ok (.aload_n 0, 1) := by decide +kernel
theorem dX10_init_114 : decode cX10_init 114 = .ok (.new 54, 3) := by decide +kernel
theorem w_clk_X10_54 : Cond.classLink RX10 54 RX3 ∈ g_tbl := g_tbl_in 203 (by decide +kernel) (by decide +kernel)
theorem w_ins_X3 : Cond.instantiable RX3 5 ∈ g_tbl := g_tbl_in 204 (by decide +kernel) (by decide +kernel)
theorem w_ini_X3 : Cond.initialized RX3 ∈ g_tbl := g_tbl_in 75 (by decide +kernel) (by decide +kernel)
theorem nl_X10_54 : NL RX10 54 3 5 [.null, .null, .null, .null, .null] := ⟨RX3, TX3, tyX3, rfl, inX_X3, tyX3_ok, w_clk_X10_54, w_ins_X3, w_ini_X3, by decide +kernel⟩
theorem dX10_init_117 : decode cX10_init 117 = .ok (.dup, 1) := by decide +kernel
theorem dX10_init_118 : decode cX10_init 118 = .ok (.aload_n 0, 1) := by decide +kernel
theorem dX10_init_119 : decode cX10_init 119 = .ok (.getfield 29, 3) := by decide +kernel
theorem dX10_init_122 : decode cX10_init 122 = .ok (.aload_n 0, 1) := by decide +kernel
theorem dX10_init_123 : decode cX10_init 123 = .ok (.getfield 33, 3) := by decide +kernel
theorem dX10_init_126 : decode cX10_init 126 = .ok (.aload_n 1, 1) := by decide +kernel
theorem dX10_init_127 : decode cX10_init 127 = .ok (.invokespecial 56, 3) := by decide +kernel
theorem w_ml_X10_56 : Cond.methodLink RX10 56 yX3_init ∈ g_tbl := g_tbl_in 205 (by decide +kernel) (by decide +kernel)
theorem w_cd_X3_init : g_cw MX3_init ∈ g_tbl := g_tbl_in 207 (by decide +kernel) (by decide +kernel)
theorem cl_X10_56 : CL RX10 56 3 MX3_init := ⟨w_ml_X10_56, w_cd_X3_init, w_ini_X3, by decide +kernel, by decide +kernel, by decide +kernel⟩
theorem w_im_X3_init : Cond.instanceMethod yX3_init ∈ g_tbl := g_tbl_in 206 (by decide +kernel) (by decide +kernel)
theorem dX10_init_130 : decode cX10_init 130 = .ok (.putfield 57, 3) := by decide +kernel
theorem w_fl_X10_57 : Cond.fieldLink RX10 57 (TX10 8).1 (TX10 8).2.1 (TX10 8).2.2.1 ∈ g_tbl := g_tbl_in 374 (by decide +kernel) (by decide +kernel)
theorem fl_X10_57 : FL RX10 57 10 8 := ⟨RX10, TX10, 11, rfl, by decide, inX_X10, w_fl_X10_57⟩
theorem pf_X10_8 : PF 10 8 (.object "SoundPress$Decoder") true := fun C T N h => by cases h; exact ⟨⟨tyX10, tyX10_ok⟩, nmX10, by decide +kernel, rfl, rfl⟩
theorem dX10_init_133 : decode cX10_init 133 = .ok (.aload_n 0, 1) := by decide +kernel
theorem dX10_init_134 : decode cX10_init 134 = .ok (.new 61, 3) := by decide +kernel
theorem w_clk_X10_61 : Cond.classLink RX10 61 RX9 ∈ g_tbl := g_tbl_in 246 (by decide +kernel) (by decide +kernel)
theorem w_ins_X9 : Cond.instantiable RX9 12 ∈ g_tbl := g_tbl_in 247 (by decide +kernel) (by decide +kernel)
theorem w_ini_X9 : Cond.initialized RX9 ∈ g_tbl := g_tbl_in 77 (by decide +kernel) (by decide +kernel)
theorem nl_X10_61 : NL RX10 61 9 12 [.null, .null, .int 0, .int 0, .int 0, .int 0, .int 0, .int 0, .int 0, .int 0, .int 0, .int 0] := ⟨RX9, TX9, tyX9, rfl, inX_X9, tyX9_ok, w_clk_X10_61, w_ins_X9, w_ini_X9, by decide +kernel⟩
theorem dX10_init_137 : decode cX10_init 137 = .ok (.dup, 1) := by decide +kernel
theorem dX10_init_138 : decode cX10_init 138 = .ok (.invokespecial 63, 3) := by decide +kernel
theorem w_ml_X10_63 : Cond.methodLink RX10 63 yX9_init ∈ g_tbl := g_tbl_in 248 (by decide +kernel) (by decide +kernel)
theorem w_cd_X9_init : g_cw MX9_init ∈ g_tbl := g_tbl_in 250 (by decide +kernel) (by decide +kernel)
theorem cl_X10_63 : CL RX10 63 0 MX9_init := ⟨w_ml_X10_63, w_cd_X9_init, w_ini_X9, by decide +kernel, by decide +kernel, by decide +kernel⟩
theorem w_im_X9_init : Cond.instanceMethod yX9_init ∈ g_tbl := g_tbl_in 249 (by decide +kernel) (by decide +kernel)
theorem dX10_init_141 : decode cX10_init 141 = .ok (.putfield 64, 3) := by decide +kernel
theorem w_fl_X10_64 : Cond.fieldLink RX10 64 (TX10 9).1 (TX10 9).2.1 (TX10 9).2.2.1 ∈ g_tbl := g_tbl_in 375 (by decide +kernel) (by decide +kernel)
theorem fl_X10_64 : FL RX10 64 10 9 := ⟨RX10, TX10, 11, rfl, by decide, inX_X10, w_fl_X10_64⟩
theorem pf_X10_9 : PF 10 9 (.object "SoundPress$Work") false := fun C T N h => by cases h; exact ⟨⟨tyX10, tyX10_ok⟩, nmX10, by decide +kernel, rfl, rfl⟩
theorem dX10_init_144 : decode cX10_init 144 = .ok (.aload_n 0, 1) := by decide +kernel
theorem dX10_init_145 : decode cX10_init 145 = .ok (.new 61, 3) := by decide +kernel
theorem dX10_init_148 : decode cX10_init 148 = .ok (.dup, 1) := by decide +kernel
theorem dX10_init_149 : decode cX10_init 149 = .ok (.invokespecial 63, 3) := by decide +kernel
theorem dX10_init_152 : decode cX10_init 152 = .ok (.putfield 68, 3) := by decide +kernel
theorem w_fl_X10_68 : Cond.fieldLink RX10 68 (TX10 10).1 (TX10 10).2.1 (TX10 10).2.2.1 ∈ g_tbl := g_tbl_in 376 (by decide +kernel) (by decide +kernel)
theorem fl_X10_68 : FL RX10 68 10 10 := ⟨RX10, TX10, 11, rfl, by decide, inX_X10, w_fl_X10_68⟩
theorem pf_X10_10 : PF 10 10 (.object "SoundPress$Work") false := fun C T N h => by cases h; exact ⟨⟨tyX10, tyX10_ok⟩, nmX10, by decide +kernel, rfl, rfl⟩
theorem dX10_init_155 : decode cX10_init 155 = .ok (.return_, 1) := by decide +kernel
set_option maxRecDepth 100000 in
set_option maxHeartbeats 4000000 in
theorem ev_X10_init (E : g_E) (x : Nat)  : Ev E MX10_init 4 80 45 30521 [.ref x] [(x, .inr (10, [.null, .int 0, .null, .null, .null, .null, .null, .null, .null, .null, .null]))] (fun v_ w_ => ∃ nu : Nat, ∃ pl : Nat, ∃ plt : Nat, ∃ pld : Nat, ∃ tp : Nat, ∃ tpa : Nat, ∃ sd : Nat, ∃ sda : Nat, ∃ fi : Nat, ∃ fia : Nat, ∃ se : Nat, ∃ sea : Nat, ∃ enc : Nat, ∃ efb : Nat, ∃ esb : Nat, ∃ dec : Nat, ∃ dtb : Nat, ∃ dsb : Nat, ∃ sh : Nat, ∃ sv : Nat, ∃ sr : Nat, ∃ sl : Nat, ∃ sp : Nat, ∃ wl : Nat, ∃ l_ps : Nat, ∃ l_p : Nat, ∃ l_te : Nat, ∃ l_de : Nat, ∃ l_we : Nat, ∃ l_inp : Nat, ∃ l_ba : Nat, ∃ l_gu : Nat, ∃ l_md : Nat, ∃ l_mi : Nat, ∃ wsp : Nat, ∃ s_ps : Nat, ∃ s_p : Nat, ∃ s_te : Nat, ∃ s_de : Nat, ∃ s_we : Nat, ∃ s_inp : Nat, ∃ s_ba : Nat, ∃ s_gu : Nat, ∃ s_md : Nat, ∃ s_mi : Nat, v_ = none ∧ w_ = [(x, .inr (10, [.ref nu, .int 0, .ref pl, .ref tp, .ref sd, .ref fi, .ref se, .ref enc, .ref dec, .ref wl, .ref wsp])), (nu, .inl (E.2.2.1 0, 1200, .inl (fun _ => 0))), (pl, .inr (7, [.ref plt, .ref pld, .int 0])), (plt, .inl (E.2.2.1 0, 8, .inl (fun _ => 0))), (pld, .inl (E.2.2.1 0, 8, .inl (fun _ => 0))), (tp, .inr (2, [.ref tpa, .int 0])), (tpa, .inl (E.2.2.1 1, 6000, .inl (fun _ => 0))), (sd, .inr (2, [.ref sda, .int 0])), (sda, .inl (E.2.2.1 1, 6000, .inl (fun _ => 0))), (fi, .inr (2, [.ref fia, .int 0])), (fia, .inl (E.2.2.1 1, 9600, .inl (fun _ => 0))), (se, .inr (2, [.ref sea, .int 0])), (sea, .inl (E.2.2.1 1, 2450, .inl (fun _ => 0))), (enc, .inr (4, [.ref fi, .ref se, .ref efb, .ref esb, .ref sh])), (efb, .inr (1, [.ref fi, .int 0, .int 0])), (esb, .inr (1, [.ref se, .int 0, .int 0])), (dec, .inr (3, [.ref tp, .ref sd, .ref dtb, .ref dsb, .ref sh])), (dtb, .inr (0, [.ref tp, .int 0, .int 0, .int 0])), (dsb, .inr (0, [.ref sd, .int 0, .int 0, .int 0])), (sh, .inr (8, [.ref sv, .ref sr, .ref sl, .ref sp])), (sv, .inl (E.2.2.1 0, 1200, .inl (fun _ => 0))), (sr, .inl (E.2.2.1 0, 1200, .inl (fun _ => 0))), (sl, .inl (E.2.2.1 3, 1200, .inr (.inl (fun _ => 0)))), (sp, .inl (E.2.2.1 0, 1200, .inl (fun _ => 0))), (wl, .inr (9, [.ref l_ps, .ref l_md, .int 0, .int 0, .int 0, .int 0, .int 0, .int 0, .int 0, .int 0, .int 0, .int 0])), (l_ps, .inr (6, [.ref l_p, .ref l_we, .ref l_inp, .ref l_ba, .ref l_gu, .int 0, .int 0, .int 0])), (l_p, .inr (7, [.ref l_te, .ref l_de, .int 0])), (l_te, .inl (E.2.2.1 0, 8, .inl (fun _ => 0))), (l_de, .inl (E.2.2.1 0, 8, .inl (fun _ => 0))), (l_we, .inl (E.2.2.1 0, 16, .inl (fun _ => 0))), (l_inp, .inl (E.2.2.1 0, 128, .inl (fun _ => 0))), (l_ba, .inl (E.2.2.1 0, 8, .inl (fun _ => 0))), (l_gu, .inl (E.2.2.1 0, 8, .inl (fun _ => 0))), (l_md, .inr (5, [.ref l_mi, .long 0, .long 0])), (l_mi, .inl (E.2.2.1 3, 6, .inr (.inl (fun _ => 0)))), (wsp, .inr (9, [.ref s_ps, .ref s_md, .int 0, .int 0, .int 0, .int 0, .int 0, .int 0, .int 0, .int 0, .int 0, .int 0])), (s_ps, .inr (6, [.ref s_p, .ref s_we, .ref s_inp, .ref s_ba, .ref s_gu, .int 0, .int 0, .int 0])), (s_p, .inr (7, [.ref s_te, .ref s_de, .int 0])), (s_te, .inl (E.2.2.1 0, 8, .inl (fun _ => 0))), (s_de, .inl (E.2.2.1 0, 8, .inl (fun _ => 0))), (s_we, .inl (E.2.2.1 0, 16, .inl (fun _ => 0))), (s_inp, .inl (E.2.2.1 0, 128, .inl (fun _ => 0))), (s_ba, .inl (E.2.2.1 0, 8, .inl (fun _ => 0))), (s_gu, .inl (E.2.2.1 0, 8, .inl (fun _ => 0))), (s_md, .inr (5, [.ref s_mi, .long 0, .long 0])), (s_mi, .inl (E.2.2.1 3, 6, .inr (.inl (fun _ => 0))))]) := by
  refine Ev.intro (by decide) (Nat.le_of_ble_eq_true rfl) ?_
  intro X B hr hI
  have B : Bd E X cX10_init RX10 2 4 80 45 30521 := B
  have hr : Rt E X none 45 30521 (fun v_ w_ => ∃ nu : Nat, ∃ pl : Nat, ∃ plt : Nat, ∃ pld : Nat, ∃ tp : Nat, ∃ tpa : Nat, ∃ sd : Nat, ∃ sda : Nat, ∃ fi : Nat, ∃ fia : Nat, ∃ se : Nat, ∃ sea : Nat, ∃ enc : Nat, ∃ efb : Nat, ∃ esb : Nat, ∃ dec : Nat, ∃ dtb : Nat, ∃ dsb : Nat, ∃ sh : Nat, ∃ sv : Nat, ∃ sr : Nat, ∃ sl : Nat, ∃ sp : Nat, ∃ wl : Nat, ∃ l_ps : Nat, ∃ l_p : Nat, ∃ l_te : Nat, ∃ l_de : Nat, ∃ l_we : Nat, ∃ l_inp : Nat, ∃ l_ba : Nat, ∃ l_gu : Nat, ∃ l_md : Nat, ∃ l_mi : Nat, ∃ wsp : Nat, ∃ s_ps : Nat, ∃ s_p : Nat, ∃ s_te : Nat, ∃ s_de : Nat, ∃ s_we : Nat, ∃ s_inp : Nat, ∃ s_ba : Nat, ∃ s_gu : Nat, ∃ s_md : Nat, ∃ s_mi : Nat, v_ = none ∧ w_ = [(x, .inr (10, [.ref nu, .int 0, .ref pl, .ref tp, .ref sd, .ref fi, .ref se, .ref enc, .ref dec, .ref wl, .ref wsp])), (nu, .inl (E.2.2.1 0, 1200, .inl (fun _ => 0))), (pl, .inr (7, [.ref plt, .ref pld, .int 0])), (plt, .inl (E.2.2.1 0, 8, .inl (fun _ => 0))), (pld, .inl (E.2.2.1 0, 8, .inl (fun _ => 0))), (tp, .inr (2, [.ref tpa, .int 0])), (tpa, .inl (E.2.2.1 1, 6000, .inl (fun _ => 0))), (sd, .inr (2, [.ref sda, .int 0])), (sda, .inl (E.2.2.1 1, 6000, .inl (fun _ => 0))), (fi, .inr (2, [.ref fia, .int 0])), (fia, .inl (E.2.2.1 1, 9600, .inl (fun _ => 0))), (se, .inr (2, [.ref sea, .int 0])), (sea, .inl (E.2.2.1 1, 2450, .inl (fun _ => 0))), (enc, .inr (4, [.ref fi, .ref se, .ref efb, .ref esb, .ref sh])), (efb, .inr (1, [.ref fi, .int 0, .int 0])), (esb, .inr (1, [.ref se, .int 0, .int 0])), (dec, .inr (3, [.ref tp, .ref sd, .ref dtb, .ref dsb, .ref sh])), (dtb, .inr (0, [.ref tp, .int 0, .int 0, .int 0])), (dsb, .inr (0, [.ref sd, .int 0, .int 0, .int 0])), (sh, .inr (8, [.ref sv, .ref sr, .ref sl, .ref sp])), (sv, .inl (E.2.2.1 0, 1200, .inl (fun _ => 0))), (sr, .inl (E.2.2.1 0, 1200, .inl (fun _ => 0))), (sl, .inl (E.2.2.1 3, 1200, .inr (.inl (fun _ => 0)))), (sp, .inl (E.2.2.1 0, 1200, .inl (fun _ => 0))), (wl, .inr (9, [.ref l_ps, .ref l_md, .int 0, .int 0, .int 0, .int 0, .int 0, .int 0, .int 0, .int 0, .int 0, .int 0])), (l_ps, .inr (6, [.ref l_p, .ref l_we, .ref l_inp, .ref l_ba, .ref l_gu, .int 0, .int 0, .int 0])), (l_p, .inr (7, [.ref l_te, .ref l_de, .int 0])), (l_te, .inl (E.2.2.1 0, 8, .inl (fun _ => 0))), (l_de, .inl (E.2.2.1 0, 8, .inl (fun _ => 0))), (l_we, .inl (E.2.2.1 0, 16, .inl (fun _ => 0))), (l_inp, .inl (E.2.2.1 0, 128, .inl (fun _ => 0))), (l_ba, .inl (E.2.2.1 0, 8, .inl (fun _ => 0))), (l_gu, .inl (E.2.2.1 0, 8, .inl (fun _ => 0))), (l_md, .inr (5, [.ref l_mi, .long 0, .long 0])), (l_mi, .inl (E.2.2.1 3, 6, .inr (.inl (fun _ => 0)))), (wsp, .inr (9, [.ref s_ps, .ref s_md, .int 0, .int 0, .int 0, .int 0, .int 0, .int 0, .int 0, .int 0, .int 0, .int 0])), (s_ps, .inr (6, [.ref s_p, .ref s_we, .ref s_inp, .ref s_ba, .ref s_gu, .int 0, .int 0, .int 0])), (s_p, .inr (7, [.ref s_te, .ref s_de, .int 0])), (s_te, .inl (E.2.2.1 0, 8, .inl (fun _ => 0))), (s_de, .inl (E.2.2.1 0, 8, .inl (fun _ => 0))), (s_we, .inl (E.2.2.1 0, 16, .inl (fun _ => 0))), (s_inp, .inl (E.2.2.1 0, 128, .inl (fun _ => 0))), (s_ba, .inl (E.2.2.1 0, 8, .inl (fun _ => 0))), (s_gu, .inl (E.2.2.1 0, 8, .inl (fun _ => 0))), (s_md, .inr (5, [.ref s_mi, .long 0, .long 0])), (s_mi, .inl (E.2.2.1 3, 6, .inr (.inl (fun _ => 0))))]) := hr
  have hI : In X := hI rfl
  show G E X 2 [(x, .inr (10, [.null, .int 0, .null, .null, .null, .null, .null, .null, .null, .null, .null]))] 0 0 [(0, .ref x)] 0 []
  refine g_aload_n B dX10_init_0 rfl 0 rfl ?_
  refine g_obj B w_mlo_X10_1 w_im_obj w_cd_obj (by decide) (Nat.le_of_ble_eq_true rfl) dX10_init_1 ?_
  refine g_aload_n B dX10_init_4 rfl 0 rfl ?_
  refine g_sipush (v := 1200) B dX10_init_5 (by decide) ?_
  refine g_newa (ty := .int) (t0 := 0) (N := 1200) (nc' := 1) (ns' := 1200) (a0 := (1200, .inl (fun _ => 0))) (ws' := fun q_32 => [(x, .inr (10, [.null, .int 0, .null, .null, .null, .null, .null, .null, .null, .null, .null])), (q_32, .inl (E.2.2.1 0, 1200, .inl (fun _ => 0)))]) B w_ac_int rfl rfl rfl (fun _ => rfl) (by decide) (by decide) (by decide) rfl rfl (by decide) (by decide) (fun _ => rfl) dX10_init_8 (fun q_32 => ?_)
  refine g_putF (ws' := [(x, .inr (10, [.ref q_32, .int 0, .null, .null, .null, .null, .null, .null, .null, .null, .null])), (q_32, .inl (E.2.2.1 0, 1200, .inl (fun _ => 0)))]) B hI 0 0 fl_X10_9 pf_X10_0 (fun q h => by cases h; rfl) rfl (Nat.le_of_ble_eq_true rfl) rfl rfl rfl dX10_init_10 ?_
  refine g_aload_n B dX10_init_13 rfl 0 rfl ?_
  refine g_iconst (v := 0) B dX10_init_14 (by decide) ?_
  refine g_put (ws' := [(x, .inr (10, [.ref q_32, .int 0, .null, .null, .null, .null, .null, .null, .null, .null, .null])), (q_32, .inl (E.2.2.1 0, 1200, .inl (fun _ => 0)))]) B 0 1 fl_X10_13 pf_X10_1 rfl (Nat.le_of_ble_eq_true rfl) rfl rfl rfl dX10_init_15 ?_
  refine g_aload_n B dX10_init_18 rfl 0 rfl ?_
  refine g_new (nc' := 2) (ns' := 1203) (ws' := fun q_33 => [(x, .inr (10, [.ref q_32, .int 0, .null, .null, .null, .null, .null, .null, .null, .null, .null])), (q_32, .inl (E.2.2.1 0, 1200, .inl (fun _ => 0))), (q_33, .inr (7, [.null, .null, .int 0]))]) B nl_X10_17 rfl rfl (by decide) (by decide) (fun _ => rfl) dX10_init_19 (fun q_33 => ?_)
  refine g_dup B dX10_init_22 rfl ?_
  refine g_callI (st := [.ref q_33, .ref x]) (As := []) (wr := [(x, .inr (10, [.ref q_32, .int 0, .null, .null, .null, .null, .null, .null, .null, .null, .null])), (q_32, .inl (E.2.2.1 0, 1200, .inl (fun _ => 0)))]) (nc' := 4) (ns' := 1219) B cl_X10_19 w_im_X7_init rfl rfl (ev_X7_init E q_33 ) rfl [2] [0, 1] rfl rfl (by decide) (by decide) (by decide) ⟨by decide, by decide⟩ rfl rfl (by decide) (by decide) rfl (Nat.le_of_ble_eq_true rfl) dX10_init_23 (fun v w hq => ?_)
  obtain ⟨te_34, de_35, rfl, rfl⟩ := hq
  show G E X 2 [(x, .inr (10, [.ref q_32, .int 0, .null, .null, .null, .null, .null, .null, .null, .null, .null])), (q_32, .inl (E.2.2.1 0, 1200, .inl (fun _ => 0))), (q_33, .inr (7, [.ref te_34, .ref de_35, .int 0])), (te_34, .inl (E.2.2.1 0, 8, .inl (fun _ => 0))), (de_35, .inl (E.2.2.1 0, 8, .inl (fun _ => 0)))] 4 1219 [(0, .ref x)] 26 [.ref q_33, .ref x]
  refine g_putF (ws' := [(x, .inr (10, [.ref q_32, .int 0, .ref q_33, .null, .null, .null, .null, .null, .null, .null, .null])), (q_32, .inl (E.2.2.1 0, 1200, .inl (fun _ => 0))), (q_33, .inr (7, [.ref te_34, .ref de_35, .int 0])), (te_34, .inl (E.2.2.1 0, 8, .inl (fun _ => 0))), (de_35, .inl (E.2.2.1 0, 8, .inl (fun _ => 0)))]) B hI 0 2 fl_X10_20 pf_X10_2 (fun q h => by cases h; rfl) rfl (Nat.le_of_ble_eq_true rfl) rfl rfl rfl dX10_init_26 ?_
  refine g_aload_n B dX10_init_29 rfl 0 rfl ?_
  refine g_new (nc' := 5) (ns' := 1221) (ws' := fun q_36 => [(x, .inr (10, [.ref q_32, .int 0, .ref q_33, .null, .null, .null, .null, .null, .null, .null, .null])), (q_32, .inl (E.2.2.1 0, 1200, .inl (fun _ => 0))), (q_33, .inr (7, [.ref te_34, .ref de_35, .int 0])), (te_34, .inl (E.2.2.1 0, 8, .inl (fun _ => 0))), (de_35, .inl (E.2.2.1 0, 8, .inl (fun _ => 0))), (q_36, .inr (2, [.null, .int 0]))]) B nl_X10_24 rfl rfl (by decide) (by decide) (fun _ => rfl) dX10_init_30 (fun q_36 => ?_)
  refine g_dup B dX10_init_33 rfl ?_
  refine g_sipush (v := 6000) B dX10_init_34 (by decide) ?_
  refine g_callI (st := [.ref q_36, .ref x]) (As := [.int 6000]) (wr := [(x, .inr (10, [.ref q_32, .int 0, .ref q_33, .null, .null, .null, .null, .null, .null, .null, .null])), (q_32, .inl (E.2.2.1 0, 1200, .inl (fun _ => 0))), (q_33, .inr (7, [.ref te_34, .ref de_35, .int 0])), (te_34, .inl (E.2.2.1 0, 8, .inl (fun _ => 0))), (de_35, .inl (E.2.2.1 0, 8, .inl (fun _ => 0)))]) (nc' := 6) (ns' := 7221) B cl_X10_26 w_im_X2_init rfl rfl (ev_X2_init_6000 E q_36 ) rfl [5] [0, 1, 2, 3, 4] rfl rfl (by decide) (by decide) (by decide) ⟨by decide, by decide⟩ rfl rfl (by decide) (by decide) rfl (Nat.le_of_ble_eq_true rfl) dX10_init_37 (fun v w hq => ?_)
  obtain ⟨q_37, rfl, rfl⟩ := hq
  show G E X 2 [(x, .inr (10, [.ref q_32, .int 0, .ref q_33, .null, .null, .null, .null, .null, .null, .null, .null])), (q_32, .inl (E.2.2.1 0, 1200, .inl (fun _ => 0))), (q_33, .inr (7, [.ref te_34, .ref de_35, .int 0])), (te_34, .inl (E.2.2.1 0, 8, .inl (fun _ => 0))), (de_35, .inl (E.2.2.1 0, 8, .inl (fun _ => 0))), (q_36, .inr (2, [.ref q_37, .int 0])), (q_37, .inl (E.2.2.1 1, 6000, .inl (fun _ => 0)))] 6 7221 [(0, .ref x)] 40 [.ref q_36, .ref x]
  refine g_putF (ws' := [(x, .inr (10, [.ref q_32, .int 0, .ref q_33, .ref q_36, .null, .null, .null, .null, .null, .null, .null])), (q_32, .inl (E.2.2.1 0, 1200, .inl (fun _ => 0))), (q_33, .inr (7, [.ref te_34, .ref de_35, .int 0])), (te_34, .inl (E.2.2.1 0, 8, .inl (fun _ => 0))), (de_35, .inl (E.2.2.1 0, 8, .inl (fun _ => 0))), (q_36, .inr (2, [.ref q_37, .int 0])), (q_37, .inl (E.2.2.1 1, 6000, .inl (fun _ => 0)))]) B hI 0 3 fl_X10_29 pf_X10_3 (fun q h => by cases h; rfl) rfl (Nat.le_of_ble_eq_true rfl) rfl rfl rfl dX10_init_40 ?_
  refine g_aload_n B dX10_init_43 rfl 0 rfl ?_
  refine g_new (nc' := 7) (ns' := 7223) (ws' := fun q_38 => [(x, .inr (10, [.ref q_32, .int 0, .ref q_33, .ref q_36, .null, .null, .null, .null, .null, .null, .null])), (q_32, .inl (E.2.2.1 0, 1200, .inl (fun _ => 0))), (q_33, .inr (7, [.ref te_34, .ref de_35, .int 0])), (te_34, .inl (E.2.2.1 0, 8, .inl (fun _ => 0))), (de_35, .inl (E.2.2.1 0, 8, .inl (fun _ => 0))), (q_36, .inr (2, [.ref q_37, .int 0])), (q_37, .inl (E.2.2.1 1, 6000, .inl (fun _ => 0))), (q_38, .inr (2, [.null, .int 0]))]) B nl_X10_24 rfl rfl (by decide) (by decide) (fun _ => rfl) dX10_init_44 (fun q_38 => ?_)
  refine g_dup B dX10_init_47 rfl ?_
  refine g_sipush (v := 6000) B dX10_init_48 (by decide) ?_
  refine g_callI (st := [.ref q_38, .ref x]) (As := [.int 6000]) (wr := [(x, .inr (10, [.ref q_32, .int 0, .ref q_33, .ref q_36, .null, .null, .null, .null, .null, .null, .null])), (q_32, .inl (E.2.2.1 0, 1200, .inl (fun _ => 0))), (q_33, .inr (7, [.ref te_34, .ref de_35, .int 0])), (te_34, .inl (E.2.2.1 0, 8, .inl (fun _ => 0))), (de_35, .inl (E.2.2.1 0, 8, .inl (fun _ => 0))), (q_36, .inr (2, [.ref q_37, .int 0])), (q_37, .inl (E.2.2.1 1, 6000, .inl (fun _ => 0)))]) (nc' := 8) (ns' := 13223) B cl_X10_26 w_im_X2_init rfl rfl (ev_X2_init_6000 E q_38 ) rfl [7] [0, 1, 2, 3, 4, 5, 6] rfl rfl (by decide) (by decide) (by decide) ⟨by decide, by decide⟩ rfl rfl (by decide) (by decide) rfl (Nat.le_of_ble_eq_true rfl) dX10_init_51 (fun v w hq => ?_)
  obtain ⟨q_39, rfl, rfl⟩ := hq
  show G E X 2 [(x, .inr (10, [.ref q_32, .int 0, .ref q_33, .ref q_36, .null, .null, .null, .null, .null, .null, .null])), (q_32, .inl (E.2.2.1 0, 1200, .inl (fun _ => 0))), (q_33, .inr (7, [.ref te_34, .ref de_35, .int 0])), (te_34, .inl (E.2.2.1 0, 8, .inl (fun _ => 0))), (de_35, .inl (E.2.2.1 0, 8, .inl (fun _ => 0))), (q_36, .inr (2, [.ref q_37, .int 0])), (q_37, .inl (E.2.2.1 1, 6000, .inl (fun _ => 0))), (q_38, .inr (2, [.ref q_39, .int 0])), (q_39, .inl (E.2.2.1 1, 6000, .inl (fun _ => 0)))] 8 13223 [(0, .ref x)] 54 [.ref q_38, .ref x]
  refine g_putF (ws' := [(x, .inr (10, [.ref q_32, .int 0, .ref q_33, .ref q_36, .ref q_38, .null, .null, .null, .null, .null, .null])), (q_32, .inl (E.2.2.1 0, 1200, .inl (fun _ => 0))), (q_33, .inr (7, [.ref te_34, .ref de_35, .int 0])), (te_34, .inl (E.2.2.1 0, 8, .inl (fun _ => 0))), (de_35, .inl (E.2.2.1 0, 8, .inl (fun _ => 0))), (q_36, .inr (2, [.ref q_37, .int 0])), (q_37, .inl (E.2.2.1 1, 6000, .inl (fun _ => 0))), (q_38, .inr (2, [.ref q_39, .int 0])), (q_39, .inl (E.2.2.1 1, 6000, .inl (fun _ => 0)))]) B hI 0 4 fl_X10_33 pf_X10_4 (fun q h => by cases h; rfl) rfl (Nat.le_of_ble_eq_true rfl) rfl rfl rfl dX10_init_54 ?_
  refine g_aload_n B dX10_init_57 rfl 0 rfl ?_
  refine g_new (nc' := 9) (ns' := 13225) (ws' := fun q_40 => [(x, .inr (10, [.ref q_32, .int 0, .ref q_33, .ref q_36, .ref q_38, .null, .null, .null, .null, .null, .null])), (q_32, .inl (E.2.2.1 0, 1200, .inl (fun _ => 0))), (q_33, .inr (7, [.ref te_34, .ref de_35, .int 0])), (te_34, .inl (E.2.2.1 0, 8, .inl (fun _ => 0))), (de_35, .inl (E.2.2.1 0, 8, .inl (fun _ => 0))), (q_36, .inr (2, [.ref q_37, .int 0])), (q_37, .inl (E.2.2.1 1, 6000, .inl (fun _ => 0))), (q_38, .inr (2, [.ref q_39, .int 0])), (q_39, .inl (E.2.2.1 1, 6000, .inl (fun _ => 0))), (q_40, .inr (2, [.null, .int 0]))]) B nl_X10_24 rfl rfl (by decide) (by decide) (fun _ => rfl) dX10_init_58 (fun q_40 => ?_)
  refine g_dup B dX10_init_61 rfl ?_
  refine g_sipush (v := 9600) B dX10_init_62 (by decide) ?_
  refine g_callI (st := [.ref q_40, .ref x]) (As := [.int 9600]) (wr := [(x, .inr (10, [.ref q_32, .int 0, .ref q_33, .ref q_36, .ref q_38, .null, .null, .null, .null, .null, .null])), (q_32, .inl (E.2.2.1 0, 1200, .inl (fun _ => 0))), (q_33, .inr (7, [.ref te_34, .ref de_35, .int 0])), (te_34, .inl (E.2.2.1 0, 8, .inl (fun _ => 0))), (de_35, .inl (E.2.2.1 0, 8, .inl (fun _ => 0))), (q_36, .inr (2, [.ref q_37, .int 0])), (q_37, .inl (E.2.2.1 1, 6000, .inl (fun _ => 0))), (q_38, .inr (2, [.ref q_39, .int 0])), (q_39, .inl (E.2.2.1 1, 6000, .inl (fun _ => 0)))]) (nc' := 10) (ns' := 22825) B cl_X10_26 w_im_X2_init rfl rfl (ev_X2_init_9600 E q_40 ) rfl [9] [0, 1, 2, 3, 4, 5, 6, 7, 8] rfl rfl (by decide) (by decide) (by decide) ⟨by decide, by decide⟩ rfl rfl (by decide) (by decide) rfl (Nat.le_of_ble_eq_true rfl) dX10_init_65 (fun v w hq => ?_)
  obtain ⟨q_41, rfl, rfl⟩ := hq
  show G E X 2 [(x, .inr (10, [.ref q_32, .int 0, .ref q_33, .ref q_36, .ref q_38, .null, .null, .null, .null, .null, .null])), (q_32, .inl (E.2.2.1 0, 1200, .inl (fun _ => 0))), (q_33, .inr (7, [.ref te_34, .ref de_35, .int 0])), (te_34, .inl (E.2.2.1 0, 8, .inl (fun _ => 0))), (de_35, .inl (E.2.2.1 0, 8, .inl (fun _ => 0))), (q_36, .inr (2, [.ref q_37, .int 0])), (q_37, .inl (E.2.2.1 1, 6000, .inl (fun _ => 0))), (q_38, .inr (2, [.ref q_39, .int 0])), (q_39, .inl (E.2.2.1 1, 6000, .inl (fun _ => 0))), (q_40, .inr (2, [.ref q_41, .int 0])), (q_41, .inl (E.2.2.1 1, 9600, .inl (fun _ => 0)))] 10 22825 [(0, .ref x)] 68 [.ref q_40, .ref x]
  refine g_putF (ws' := [(x, .inr (10, [.ref q_32, .int 0, .ref q_33, .ref q_36, .ref q_38, .ref q_40, .null, .null, .null, .null, .null])), (q_32, .inl (E.2.2.1 0, 1200, .inl (fun _ => 0))), (q_33, .inr (7, [.ref te_34, .ref de_35, .int 0])), (te_34, .inl (E.2.2.1 0, 8, .inl (fun _ => 0))), (de_35, .inl (E.2.2.1 0, 8, .inl (fun _ => 0))), (q_36, .inr (2, [.ref q_37, .int 0])), (q_37, .inl (E.2.2.1 1, 6000, .inl (fun _ => 0))), (q_38, .inr (2, [.ref q_39, .int 0])), (q_39, .inl (E.2.2.1 1, 6000, .inl (fun _ => 0))), (q_40, .inr (2, [.ref q_41, .int 0])), (q_41, .inl (E.2.2.1 1, 9600, .inl (fun _ => 0)))]) B hI 0 5 fl_X10_36 pf_X10_5 (fun q h => by cases h; rfl) rfl (Nat.le_of_ble_eq_true rfl) rfl rfl rfl dX10_init_68 ?_
  refine g_aload_n B dX10_init_71 rfl 0 rfl ?_
  refine g_new (nc' := 11) (ns' := 22827) (ws' := fun q_42 => [(x, .inr (10, [.ref q_32, .int 0, .ref q_33, .ref q_36, .ref q_38, .ref q_40, .null, .null, .null, .null, .null])), (q_32, .inl (E.2.2.1 0, 1200, .inl (fun _ => 0))), (q_33, .inr (7, [.ref te_34, .ref de_35, .int 0])), (te_34, .inl (E.2.2.1 0, 8, .inl (fun _ => 0))), (de_35, .inl (E.2.2.1 0, 8, .inl (fun _ => 0))), (q_36, .inr (2, [.ref q_37, .int 0])), (q_37, .inl (E.2.2.1 1, 6000, .inl (fun _ => 0))), (q_38, .inr (2, [.ref q_39, .int 0])), (q_39, .inl (E.2.2.1 1, 6000, .inl (fun _ => 0))), (q_40, .inr (2, [.ref q_41, .int 0])), (q_41, .inl (E.2.2.1 1, 9600, .inl (fun _ => 0))), (q_42, .inr (2, [.null, .int 0]))]) B nl_X10_24 rfl rfl (by decide) (by decide) (fun _ => rfl) dX10_init_72 (fun q_42 => ?_)
  refine g_dup B dX10_init_75 rfl ?_
  refine g_sipush (v := 2450) B dX10_init_76 (by decide) ?_
  refine g_callI (st := [.ref q_42, .ref x]) (As := [.int 2450]) (wr := [(x, .inr (10, [.ref q_32, .int 0, .ref q_33, .ref q_36, .ref q_38, .ref q_40, .null, .null, .null, .null, .null])), (q_32, .inl (E.2.2.1 0, 1200, .inl (fun _ => 0))), (q_33, .inr (7, [.ref te_34, .ref de_35, .int 0])), (te_34, .inl (E.2.2.1 0, 8, .inl (fun _ => 0))), (de_35, .inl (E.2.2.1 0, 8, .inl (fun _ => 0))), (q_36, .inr (2, [.ref q_37, .int 0])), (q_37, .inl (E.2.2.1 1, 6000, .inl (fun _ => 0))), (q_38, .inr (2, [.ref q_39, .int 0])), (q_39, .inl (E.2.2.1 1, 6000, .inl (fun _ => 0))), (q_40, .inr (2, [.ref q_41, .int 0])), (q_41, .inl (E.2.2.1 1, 9600, .inl (fun _ => 0)))]) (nc' := 12) (ns' := 25277) B cl_X10_26 w_im_X2_init rfl rfl (ev_X2_init_2450 E q_42 ) rfl [11] [0, 1, 2, 3, 4, 5, 6, 7, 8, 9, 10] rfl rfl (by decide) (by decide) (by decide) ⟨by decide, by decide⟩ rfl rfl (by decide) (by decide) rfl (Nat.le_of_ble_eq_true rfl) dX10_init_79 (fun v w hq => ?_)
  obtain ⟨q_43, rfl, rfl⟩ := hq
  show G E X 2 [(x, .inr (10, [.ref q_32, .int 0, .ref q_33, .ref q_36, .ref q_38, .ref q_40, .null, .null, .null, .null, .null])), (q_32, .inl (E.2.2.1 0, 1200, .inl (fun _ => 0))), (q_33, .inr (7, [.ref te_34, .ref de_35, .int 0])), (te_34, .inl (E.2.2.1 0, 8, .inl (fun _ => 0))), (de_35, .inl (E.2.2.1 0, 8, .inl (fun _ => 0))), (q_36, .inr (2, [.ref q_37, .int 0])), (q_37, .inl (E.2.2.1 1, 6000, .inl (fun _ => 0))), (q_38, .inr (2, [.ref q_39, .int 0])), (q_39, .inl (E.2.2.1 1, 6000, .inl (fun _ => 0))), (q_40, .inr (2, [.ref q_41, .int 0])), (q_41, .inl (E.2.2.1 1, 9600, .inl (fun _ => 0))), (q_42, .inr (2, [.ref q_43, .int 0])), (q_43, .inl (E.2.2.1 1, 2450, .inl (fun _ => 0)))] 12 25277 [(0, .ref x)] 82 [.ref q_42, .ref x]
  refine g_putF (ws' := [(x, .inr (10, [.ref q_32, .int 0, .ref q_33, .ref q_36, .ref q_38, .ref q_40, .ref q_42, .null, .null, .null, .null])), (q_32, .inl (E.2.2.1 0, 1200, .inl (fun _ => 0))), (q_33, .inr (7, [.ref te_34, .ref de_35, .int 0])), (te_34, .inl (E.2.2.1 0, 8, .inl (fun _ => 0))), (de_35, .inl (E.2.2.1 0, 8, .inl (fun _ => 0))), (q_36, .inr (2, [.ref q_37, .int 0])), (q_37, .inl (E.2.2.1 1, 6000, .inl (fun _ => 0))), (q_38, .inr (2, [.ref q_39, .int 0])), (q_39, .inl (E.2.2.1 1, 6000, .inl (fun _ => 0))), (q_40, .inr (2, [.ref q_41, .int 0])), (q_41, .inl (E.2.2.1 1, 9600, .inl (fun _ => 0))), (q_42, .inr (2, [.ref q_43, .int 0])), (q_43, .inl (E.2.2.1 1, 2450, .inl (fun _ => 0)))]) B hI 0 6 fl_X10_39 pf_X10_6 (fun q h => by cases h; rfl) rfl (Nat.le_of_ble_eq_true rfl) rfl rfl rfl dX10_init_82 ?_
  refine g_new (nc' := 13) (ns' := 25281) (ws' := fun q_44 => [(x, .inr (10, [.ref q_32, .int 0, .ref q_33, .ref q_36, .ref q_38, .ref q_40, .ref q_42, .null, .null, .null, .null])), (q_32, .inl (E.2.2.1 0, 1200, .inl (fun _ => 0))), (q_33, .inr (7, [.ref te_34, .ref de_35, .int 0])), (te_34, .inl (E.2.2.1 0, 8, .inl (fun _ => 0))), (de_35, .inl (E.2.2.1 0, 8, .inl (fun _ => 0))), (q_36, .inr (2, [.ref q_37, .int 0])), (q_37, .inl (E.2.2.1 1, 6000, .inl (fun _ => 0))), (q_38, .inr (2, [.ref q_39, .int 0])), (q_39, .inl (E.2.2.1 1, 6000, .inl (fun _ => 0))), (q_40, .inr (2, [.ref q_41, .int 0])), (q_41, .inl (E.2.2.1 1, 9600, .inl (fun _ => 0))), (q_42, .inr (2, [.ref q_43, .int 0])), (q_43, .inl (E.2.2.1 1, 2450, .inl (fun _ => 0))), (q_44, .inr (8, [.null, .null, .null, .null]))]) B nl_X10_42 rfl rfl (by decide) (by decide) (fun _ => rfl) dX10_init_85 (fun q_44 => ?_)
  refine g_dup B dX10_init_88 rfl ?_
  refine g_callI (st := [.ref q_44]) (As := []) (wr := [(x, .inr (10, [.ref q_32, .int 0, .ref q_33, .ref q_36, .ref q_38, .ref q_40, .ref q_42, .null, .null, .null, .null])), (q_32, .inl (E.2.2.1 0, 1200, .inl (fun _ => 0))), (q_33, .inr (7, [.ref te_34, .ref de_35, .int 0])), (te_34, .inl (E.2.2.1 0, 8, .inl (fun _ => 0))), (de_35, .inl (E.2.2.1 0, 8, .inl (fun _ => 0))), (q_36, .inr (2, [.ref q_37, .int 0])), (q_37, .inl (E.2.2.1 1, 6000, .inl (fun _ => 0))), (q_38, .inr (2, [.ref q_39, .int 0])), (q_39, .inl (E.2.2.1 1, 6000, .inl (fun _ => 0))), (q_40, .inr (2, [.ref q_41, .int 0])), (q_41, .inl (E.2.2.1 1, 9600, .inl (fun _ => 0))), (q_42, .inr (2, [.ref q_43, .int 0])), (q_43, .inl (E.2.2.1 1, 2450, .inl (fun _ => 0)))]) (nc' := 17) (ns' := 30081) B cl_X10_44 w_im_X8_init rfl rfl (ev_X8_init E q_44 ) rfl [13] [0, 1, 2, 3, 4, 5, 6, 7, 8, 9, 10, 11, 12] rfl rfl (by decide) (by decide) (by decide) ⟨by decide, by decide⟩ rfl rfl (by decide) (by decide) rfl (Nat.le_of_ble_eq_true rfl) dX10_init_89 (fun v w hq => ?_)
  obtain ⟨sv_45, sr_46, sl_47, sp_48, rfl, rfl⟩ := hq
  show G E X 2 [(x, .inr (10, [.ref q_32, .int 0, .ref q_33, .ref q_36, .ref q_38, .ref q_40, .ref q_42, .null, .null, .null, .null])), (q_32, .inl (E.2.2.1 0, 1200, .inl (fun _ => 0))), (q_33, .inr (7, [.ref te_34, .ref de_35, .int 0])), (te_34, .inl (E.2.2.1 0, 8, .inl (fun _ => 0))), (de_35, .inl (E.2.2.1 0, 8, .inl (fun _ => 0))), (q_36, .inr (2, [.ref q_37, .int 0])), (q_37, .inl (E.2.2.1 1, 6000, .inl (fun _ => 0))), (q_38, .inr (2, [.ref q_39, .int 0])), (q_39, .inl (E.2.2.1 1, 6000, .inl (fun _ => 0))), (q_40, .inr (2, [.ref q_41, .int 0])), (q_41, .inl (E.2.2.1 1, 9600, .inl (fun _ => 0))), (q_42, .inr (2, [.ref q_43, .int 0])), (q_43, .inl (E.2.2.1 1, 2450, .inl (fun _ => 0))), (q_44, .inr (8, [.ref sv_45, .ref sr_46, .ref sl_47, .ref sp_48])), (sv_45, .inl (E.2.2.1 0, 1200, .inl (fun _ => 0))), (sr_46, .inl (E.2.2.1 0, 1200, .inl (fun _ => 0))), (sl_47, .inl (E.2.2.1 3, 1200, .inr (.inl (fun _ => 0)))), (sp_48, .inl (E.2.2.1 0, 1200, .inl (fun _ => 0)))] 17 30081 [(0, .ref x)] 92 [.ref q_44]
  refine g_astore_n (lv' := [(1, .ref q_44), (0, .ref x)]) B dX10_init_92 rfl (by decide) rfl ?_
  refine g_aload_n B dX10_init_93 rfl 1 rfl ?_
  refine g_new (nc' := 18) (ns' := 30086) (ws' := fun q_49 => [(x, .inr (10, [.ref q_32, .int 0, .ref q_33, .ref q_36, .ref q_38, .ref q_40, .ref q_42, .null, .null, .null, .null])), (q_32, .inl (E.2.2.1 0, 1200, .inl (fun _ => 0))), (q_33, .inr (7, [.ref te_34, .ref de_35, .int 0])), (te_34, .inl (E.2.2.1 0, 8, .inl (fun _ => 0))), (de_35, .inl (E.2.2.1 0, 8, .inl (fun _ => 0))), (q_36, .inr (2, [.ref q_37, .int 0])), (q_37, .inl (E.2.2.1 1, 6000, .inl (fun _ => 0))), (q_38, .inr (2, [.ref q_39, .int 0])), (q_39, .inl (E.2.2.1 1, 6000, .inl (fun _ => 0))), (q_40, .inr (2, [.ref q_41, .int 0])), (q_41, .inl (E.2.2.1 1, 9600, .inl (fun _ => 0))), (q_42, .inr (2, [.ref q_43, .int 0])), (q_43, .inl (E.2.2.1 1, 2450, .inl (fun _ => 0))), (q_44, .inr (8, [.ref sv_45, .ref sr_46, .ref sl_47, .ref sp_48])), (sv_45, .inl (E.2.2.1 0, 1200, .inl (fun _ => 0))), (sr_46, .inl (E.2.2.1 0, 1200, .inl (fun _ => 0))), (sl_47, .inl (E.2.2.1 3, 1200, .inr (.inl (fun _ => 0)))), (sp_48, .inl (E.2.2.1 0, 1200, .inl (fun _ => 0))), (q_49, .inr (4, [.null, .null, .null, .null, .null]))]) B nl_X10_45 rfl rfl (by decide) (by decide) (fun _ => rfl) dX10_init_94 (fun q_49 => ?_)
  refine g_dup B dX10_init_97 rfl ?_
  refine g_aload_n B dX10_init_98 rfl 1 rfl ?_
  refine g_get B 0 5 fl_X10_36 rfl rfl dX10_init_99 ?_
  refine g_aload_n B dX10_init_102 rfl 1 rfl ?_
  refine g_get B 0 6 fl_X10_39 rfl rfl dX10_init_103 ?_
  refine g_aload_n B dX10_init_106 rfl 0 rfl ?_
  refine g_callI (st := [.ref q_49, .ref x]) (As := [.ref q_40, .ref q_42, .ref q_44]) (wr := [(x, .inr (10, [.ref q_32, .int 0, .ref q_33, .ref q_36, .ref q_38, .ref q_40, .ref q_42, .null, .null, .null, .null])), (q_32, .inl (E.2.2.1 0, 1200, .inl (fun _ => 0))), (q_33, .inr (7, [.ref te_34, .ref de_35, .int 0])), (te_34, .inl (E.2.2.1 0, 8, .inl (fun _ => 0))), (de_35, .inl (E.2.2.1 0, 8, .inl (fun _ => 0))), (q_36, .inr (2, [.ref q_37, .int 0])), (q_37, .inl (E.2.2.1 1, 6000, .inl (fun _ => 0))), (q_38, .inr (2, [.ref q_39, .int 0])), (q_39, .inl (E.2.2.1 1, 6000, .inl (fun _ => 0))), (q_40, .inr (2, [.ref q_41, .int 0])), (q_41, .inl (E.2.2.1 1, 9600, .inl (fun _ => 0))), (q_42, .inr (2, [.ref q_43, .int 0])), (q_43, .inl (E.2.2.1 1, 2450, .inl (fun _ => 0))), (q_44, .inr (8, [.ref sv_45, .ref sr_46, .ref sl_47, .ref sp_48])), (sv_45, .inl (E.2.2.1 0, 1200, .inl (fun _ => 0))), (sr_46, .inl (E.2.2.1 0, 1200, .inl (fun _ => 0))), (sl_47, .inl (E.2.2.1 3, 1200, .inr (.inl (fun _ => 0)))), (sp_48, .inl (E.2.2.1 0, 1200, .inl (fun _ => 0)))]) (nc' := 20) (ns' := 30092) B cl_X10_47 w_im_X4_init rfl rfl (ev_X4_init E q_49 q_40 q_42 q_44 ) rfl [18] [0, 1, 2, 3, 4, 5, 6, 7, 8, 9, 10, 11, 12, 13, 14, 15, 16, 17] rfl rfl (by decide) (by decide) (by decide) ⟨by decide, by decide⟩ rfl rfl (by decide) (by decide) rfl (Nat.le_of_ble_eq_true rfl) dX10_init_107 (fun v w hq => ?_)
  obtain ⟨b1_50, b2_51, rfl, rfl⟩ := hq
  show G E X 2 [(x, .inr (10, [.ref q_32, .int 0, .ref q_33, .ref q_36, .ref q_38, .ref q_40, .ref q_42, .null, .null, .null, .null])), (q_32, .inl (E.2.2.1 0, 1200, .inl (fun _ => 0))), (q_33, .inr (7, [.ref te_34, .ref de_35, .int 0])), (te_34, .inl (E.2.2.1 0, 8, .inl (fun _ => 0))), (de_35, .inl (E.2.2.1 0, 8, .inl (fun _ => 0))), (q_36, .inr (2, [.ref q_37, .int 0])), (q_37, .inl (E.2.2.1 1, 6000, .inl (fun _ => 0))), (q_38, .inr (2, [.ref q_39, .int 0])), (q_39, .inl (E.2.2.1 1, 6000, .inl (fun _ => 0))), (q_40, .inr (2, [.ref q_41, .int 0])), (q_41, .inl (E.2.2.1 1, 9600, .inl (fun _ => 0))), (q_42, .inr (2, [.ref q_43, .int 0])), (q_43, .inl (E.2.2.1 1, 2450, .inl (fun _ => 0))), (q_44, .inr (8, [.ref sv_45, .ref sr_46, .ref sl_47, .ref sp_48])), (sv_45, .inl (E.2.2.1 0, 1200, .inl (fun _ => 0))), (sr_46, .inl (E.2.2.1 0, 1200, .inl (fun _ => 0))), (sl_47, .inl (E.2.2.1 3, 1200, .inr (.inl (fun _ => 0)))), (sp_48, .inl (E.2.2.1 0, 1200, .inl (fun _ => 0))), (q_49, .inr (4, [.ref q_40, .ref q_42, .ref b1_50, .ref b2_51, .ref q_44])), (b1_50, .inr (1, [.ref q_40, .int 0, .int 0])), (b2_51, .inr (1, [.ref q_42, .int 0, .int 0]))] 20 30092 [(1, .ref q_44), (0, .ref x)] 110 [.ref q_49, .ref x]
  refine g_putF (ws' := [(x, .inr (10, [.ref q_32, .int 0, .ref q_33, .ref q_36, .ref q_38, .ref q_40, .ref q_42, .ref q_49, .null, .null, .null])), (q_32, .inl (E.2.2.1 0, 1200, .inl (fun _ => 0))), (q_33, .inr (7, [.ref te_34, .ref de_35, .int 0])), (te_34, .inl (E.2.2.1 0, 8, .inl (fun _ => 0))), (de_35, .inl (E.2.2.1 0, 8, .inl (fun _ => 0))), (q_36, .inr (2, [.ref q_37, .int 0])), (q_37, .inl (E.2.2.1 1, 6000, .inl (fun _ => 0))), (q_38, .inr (2, [.ref q_39, .int 0])), (q_39, .inl (E.2.2.1 1, 6000, .inl (fun _ => 0))), (q_40, .inr (2, [.ref q_41, .int 0])), (q_41, .inl (E.2.2.1 1, 9600, .inl (fun _ => 0))), (q_42, .inr (2, [.ref q_43, .int 0])), (q_43, .inl (E.2.2.1 1, 2450, .inl (fun _ => 0))), (q_44, .inr (8, [.ref sv_45, .ref sr_46, .ref sl_47, .ref sp_48])), (sv_45, .inl (E.2.2.1 0, 1200, .inl (fun _ => 0))), (sr_46, .inl (E.2.2.1 0, 1200, .inl (fun _ => 0))), (sl_47, .inl (E.2.2.1 3, 1200, .inr (.inl (fun _ => 0)))), (sp_48, .inl (E.2.2.1 0, 1200, .inl (fun _ => 0))), (q_49, .inr (4, [.ref q_40, .ref q_42, .ref b1_50, .ref b2_51, .ref q_44])), (b1_50, .inr (1, [.ref q_40, .int 0, .int 0])), (b2_51, .inr (1, [.ref q_42, .int 0, .int 0]))]) B hI 0 7 fl_X10_50 pf_X10_7 (fun q h => by cases h; rfl) rfl (Nat.le_of_ble_eq_true rfl) rfl rfl rfl dX10_init_110 ?_
  refine g_aload_n B dX10_init_113 rfl 1 rfl ?_
  refine g_new (nc' := 21) (ns' := 30097) (ws' := fun q_52 => [(x, .inr (10, [.ref q_32, .int 0, .ref q_33, .ref q_36, .ref q_38, .ref q_40, .ref q_42, .ref q_49, .null, .null, .null])), (q_32, .inl (E.2.2.1 0, 1200, .inl (fun _ => 0))), (q_33, .inr (7, [.ref te_34, .ref de_35, .int 0])), (te_34, .inl (E.2.2.1 0, 8, .inl (fun _ => 0))), (de_35, .inl (E.2.2.1 0, 8, .inl (fun _ => 0))), (q_36, .inr (2, [.ref q_37, .int 0])), (q_37, .inl (E.2.2.1 1, 6000, .inl (fun _ => 0))), (q_38, .inr (2, [.ref q_39, .int 0])), (q_39, .inl (E.2.2.1 1, 6000, .inl (fun _ => 0))), (q_40, .inr (2, [.ref q_41, .int 0])), (q_41, .inl (E.2.2.1 1, 9600, .inl (fun _ => 0))), (q_42, .inr (2, [.ref q_43, .int 0])), (q_43, .inl (E.2.2.1 1, 2450, .inl (fun _ => 0))), (q_44, .inr (8, [.ref sv_45, .ref sr_46, .ref sl_47, .ref sp_48])), (sv_45, .inl (E.2.2.1 0, 1200, .inl (fun _ => 0))), (sr_46, .inl (E.2.2.1 0, 1200, .inl (fun _ => 0))), (sl_47, .inl (E.2.2.1 3, 1200, .inr (.inl (fun _ => 0)))), (sp_48, .inl (E.2.2.1 0, 1200, .inl (fun _ => 0))), (q_49, .inr (4, [.ref q_40, .ref q_42, .ref b1_50, .ref b2_51, .ref q_44])), (b1_50, .inr (1, [.ref q_40, .int 0, .int 0])), (b2_51, .inr (1, [.ref q_42, .int 0, .int 0])), (q_52, .inr (3, [.null, .null, .null, .null, .null]))]) B nl_X10_54 rfl rfl (by decide) (by decide) (fun _ => rfl) dX10_init_114 (fun q_52 => ?_)
  refine g_dup B dX10_init_117 rfl ?_
  refine g_aload_n B dX10_init_118 rfl 1 rfl ?_
  refine g_get B 0 3 fl_X10_29 rfl rfl dX10_init_119 ?_
  refine g_aload_n B dX10_init_122 rfl 1 rfl ?_
  refine g_get B 0 4 fl_X10_33 rfl rfl dX10_init_123 ?_
  refine g_aload_n B dX10_init_126 rfl 0 rfl ?_
  refine g_callI (st := [.ref q_52, .ref x]) (As := [.ref q_36, .ref q_38, .ref q_44]) (wr := [(x, .inr (10, [.ref q_32, .int 0, .ref q_33, .ref q_36, .ref q_38, .ref q_40, .ref q_42, .ref q_49, .null, .null, .null])), (q_32, .inl (E.2.2.1 0, 1200, .inl (fun _ => 0))), (q_33, .inr (7, [.ref te_34, .ref de_35, .int 0])), (te_34, .inl (E.2.2.1 0, 8, .inl (fun _ => 0))), (de_35, .inl (E.2.2.1 0, 8, .inl (fun _ => 0))), (q_36, .inr (2, [.ref q_37, .int 0])), (q_37, .inl (E.2.2.1 1, 6000, .inl (fun _ => 0))), (q_38, .inr (2, [.ref q_39, .int 0])), (q_39, .inl (E.2.2.1 1, 6000, .inl (fun _ => 0))), (q_40, .inr (2, [.ref q_41, .int 0])), (q_41, .inl (E.2.2.1 1, 9600, .inl (fun _ => 0))), (q_42, .inr (2, [.ref q_43, .int 0])), (q_43, .inl (E.2.2.1 1, 2450, .inl (fun _ => 0))), (q_44, .inr (8, [.ref sv_45, .ref sr_46, .ref sl_47, .ref sp_48])), (sv_45, .inl (E.2.2.1 0, 1200, .inl (fun _ => 0))), (sr_46, .inl (E.2.2.1 0, 1200, .inl (fun _ => 0))), (sl_47, .inl (E.2.2.1 3, 1200, .inr (.inl (fun _ => 0)))), (sp_48, .inl (E.2.2.1 0, 1200, .inl (fun _ => 0))), (q_49, .inr (4, [.ref q_40, .ref q_42, .ref b1_50, .ref b2_51, .ref q_44])), (b1_50, .inr (1, [.ref q_40, .int 0, .int 0])), (b2_51, .inr (1, [.ref q_42, .int 0, .int 0]))]) (nc' := 23) (ns' := 30105) B cl_X10_56 w_im_X3_init rfl rfl (ev_X3_init E q_52 q_36 q_38 q_44 ) rfl [21] [0, 1, 2, 3, 4, 5, 6, 7, 8, 9, 10, 11, 12, 13, 14, 15, 16, 17, 18, 19, 20] rfl rfl (by decide) (by decide) (by decide) ⟨by decide, by decide⟩ rfl rfl (by decide) (by decide) rfl (Nat.le_of_ble_eq_true rfl) dX10_init_127 (fun v w hq => ?_)
  obtain ⟨b1_53, b2_54, rfl, rfl⟩ := hq
  show G E X 2 [(x, .inr (10, [.ref q_32, .int 0, .ref q_33, .ref q_36, .ref q_38, .ref q_40, .ref q_42, .ref q_49, .null, .null, .null])), (q_32, .inl (E.2.2.1 0, 1200, .inl (fun _ => 0))), (q_33, .inr (7, [.ref te_34, .ref de_35, .int 0])), (te_34, .inl (E.2.2.1 0, 8, .inl (fun _ => 0))), (de_35, .inl (E.2.2.1 0, 8, .inl (fun _ => 0))), (q_36, .inr (2, [.ref q_37, .int 0])), (q_37, .inl (E.2.2.1 1, 6000, .inl (fun _ => 0))), (q_38, .inr (2, [.ref q_39, .int 0])), (q_39, .inl (E.2.2.1 1, 6000, .inl (fun _ => 0))), (q_40, .inr (2, [.ref q_41, .int 0])), (q_41, .inl (E.2.2.1 1, 9600, .inl (fun _ => 0))), (q_42, .inr (2, [.ref q_43, .int 0])), (q_43, .inl (E.2.2.1 1, 2450, .inl (fun _ => 0))), (q_44, .inr (8, [.ref sv_45, .ref sr_46, .ref sl_47, .ref sp_48])), (sv_45, .inl (E.2.2.1 0, 1200, .inl (fun _ => 0))), (sr_46, .inl (E.2.2.1 0, 1200, .inl (fun _ => 0))), (sl_47, .inl (E.2.2.1 3, 1200, .inr (.inl (fun _ => 0)))), (sp_48, .inl (E.2.2.1 0, 1200, .inl (fun _ => 0))), (q_49, .inr (4, [.ref q_40, .ref q_42, .ref b1_50, .ref b2_51, .ref q_44])), (b1_50, .inr (1, [.ref q_40, .int 0, .int 0])), (b2_51, .inr (1, [.ref q_42, .int 0, .int 0])), (q_52, .inr (3, [.ref q_36, .ref q_38, .ref b1_53, .ref b2_54, .ref q_44])), (b1_53, .inr (0, [.ref q_36, .int 0, .int 0, .int 0])), (b2_54, .inr (0, [.ref q_38, .int 0, .int 0, .int 0]))] 23 30105 [(1, .ref q_44), (0, .ref x)] 130 [.ref q_52, .ref x]
  refine g_putF (ws' := [(x, .inr (10, [.ref q_32, .int 0, .ref q_33, .ref q_36, .ref q_38, .ref q_40, .ref q_42, .ref q_49, .ref q_52, .null, .null])), (q_32, .inl (E.2.2.1 0, 1200, .inl (fun _ => 0))), (q_33, .inr (7, [.ref te_34, .ref de_35, .int 0])), (te_34, .inl (E.2.2.1 0, 8, .inl (fun _ => 0))), (de_35, .inl (E.2.2.1 0, 8, .inl (fun _ => 0))), (q_36, .inr (2, [.ref q_37, .int 0])), (q_37, .inl (E.2.2.1 1, 6000, .inl (fun _ => 0))), (q_38, .inr (2, [.ref q_39, .int 0])), (q_39, .inl (E.2.2.1 1, 6000, .inl (fun _ => 0))), (q_40, .inr (2, [.ref q_41, .int 0])), (q_41, .inl (E.2.2.1 1, 9600, .inl (fun _ => 0))), (q_42, .inr (2, [.ref q_43, .int 0])), (q_43, .inl (E.2.2.1 1, 2450, .inl (fun _ => 0))), (q_44, .inr (8, [.ref sv_45, .ref sr_46, .ref sl_47, .ref sp_48])), (sv_45, .inl (E.2.2.1 0, 1200, .inl (fun _ => 0))), (sr_46, .inl (E.2.2.1 0, 1200, .inl (fun _ => 0))), (sl_47, .inl (E.2.2.1 3, 1200, .inr (.inl (fun _ => 0)))), (sp_48, .inl (E.2.2.1 0, 1200, .inl (fun _ => 0))), (q_49, .inr (4, [.ref q_40, .ref q_42, .ref b1_50, .ref b2_51, .ref q_44])), (b1_50, .inr (1, [.ref q_40, .int 0, .int 0])), (b2_51, .inr (1, [.ref q_42, .int 0, .int 0])), (q_52, .inr (3, [.ref q_36, .ref q_38, .ref b1_53, .ref b2_54, .ref q_44])), (b1_53, .inr (0, [.ref q_36, .int 0, .int 0, .int 0])), (b2_54, .inr (0, [.ref q_38, .int 0, .int 0, .int 0]))]) B hI 0 8 fl_X10_57 pf_X10_8 (fun q h => by cases h; rfl) rfl (Nat.le_of_ble_eq_true rfl) rfl rfl rfl dX10_init_130 ?_
  refine g_aload_n B dX10_init_133 rfl 1 rfl ?_
  refine g_new (nc' := 24) (ns' := 30117) (ws' := fun q_55 => [(x, .inr (10, [.ref q_32, .int 0, .ref q_33, .ref q_36, .ref q_38, .ref q_40, .ref q_42, .ref q_49, .ref q_52, .null, .null])), (q_32, .inl (E.2.2.1 0, 1200, .inl (fun _ => 0))), (q_33, .inr (7, [.ref te_34, .ref de_35, .int 0])), (te_34, .inl (E.2.2.1 0, 8, .inl (fun _ => 0))), (de_35, .inl (E.2.2.1 0, 8, .inl (fun _ => 0))), (q_36, .inr (2, [.ref q_37, .int 0])), (q_37, .inl (E.2.2.1 1, 6000, .inl (fun _ => 0))), (q_38, .inr (2, [.ref q_39, .int 0])), (q_39, .inl (E.2.2.1 1, 6000, .inl (fun _ => 0))), (q_40, .inr (2, [.ref q_41, .int 0])), (q_41, .inl (E.2.2.1 1, 9600, .inl (fun _ => 0))), (q_42, .inr (2, [.ref q_43, .int 0])), (q_43, .inl (E.2.2.1 1, 2450, .inl (fun _ => 0))), (q_44, .inr (8, [.ref sv_45, .ref sr_46, .ref sl_47, .ref sp_48])), (sv_45, .inl (E.2.2.1 0, 1200, .inl (fun _ => 0))), (sr_46, .inl (E.2.2.1 0, 1200, .inl (fun _ => 0))), (sl_47, .inl (E.2.2.1 3, 1200, .inr (.inl (fun _ => 0)))), (sp_48, .inl (E.2.2.1 0, 1200, .inl (fun _ => 0))), (q_49, .inr (4, [.ref q_40, .ref q_42, .ref b1_50, .ref b2_51, .ref q_44])), (b1_50, .inr (1, [.ref q_40, .int 0, .int 0])), (b2_51, .inr (1, [.ref q_42, .int 0, .int 0])), (q_52, .inr (3, [.ref q_36, .ref q_38, .ref b1_53, .ref b2_54, .ref q_44])), (b1_53, .inr (0, [.ref q_36, .int 0, .int 0, .int 0])), (b2_54, .inr (0, [.ref q_38, .int 0, .int 0, .int 0])), (q_55, .inr (9, [.null, .null, .int 0, .int 0, .int 0, .int 0, .int 0, .int 0, .int 0, .int 0, .int 0, .int 0]))]) B nl_X10_61 rfl rfl (by decide) (by decide) (fun _ => rfl) dX10_init_134 (fun q_55 => ?_)
  refine g_dup B dX10_init_137 rfl ?_
  refine g_callI (st := [.ref q_55, .ref x]) (As := []) (wr := [(x, .inr (10, [.ref q_32, .int 0, .ref q_33, .ref q_36, .ref q_38, .ref q_40, .ref q_42, .ref q_49, .ref q_52, .null, .null])), (q_32, .inl (E.2.2.1 0, 1200, .inl (fun _ => 0))), (q_33, .inr (7, [.ref te_34, .ref de_35, .int 0])), (te_34, .inl (E.2.2.1 0, 8, .inl (fun _ => 0))), (de_35, .inl (E.2.2.1 0, 8, .inl (fun _ => 0))), (q_36, .inr (2, [.ref q_37, .int 0])), (q_37, .inl (E.2.2.1 1, 6000, .inl (fun _ => 0))), (q_38, .inr (2, [.ref q_39, .int 0])), (q_39, .inl (E.2.2.1 1, 6000, .inl (fun _ => 0))), (q_40, .inr (2, [.ref q_41, .int 0])), (q_41, .inl (E.2.2.1 1, 9600, .inl (fun _ => 0))), (q_42, .inr (2, [.ref q_43, .int 0])), (q_43, .inl (E.2.2.1 1, 2450, .inl (fun _ => 0))), (q_44, .inr (8, [.ref sv_45, .ref sr_46, .ref sl_47, .ref sp_48])), (sv_45, .inl (E.2.2.1 0, 1200, .inl (fun _ => 0))), (sr_46, .inl (E.2.2.1 0, 1200, .inl (fun _ => 0))), (sl_47, .inl (E.2.2.1 3, 1200, .inr (.inl (fun _ => 0)))), (sp_48, .inl (E.2.2.1 0, 1200, .inl (fun _ => 0))), (q_49, .inr (4, [.ref q_40, .ref q_42, .ref b1_50, .ref b2_51, .ref q_44])), (b1_50, .inr (1, [.ref q_40, .int 0, .int 0])), (b2_51, .inr (1, [.ref q_42, .int 0, .int 0])), (q_52, .inr (3, [.ref q_36, .ref q_38, .ref b1_53, .ref b2_54, .ref q_44])), (b1_53, .inr (0, [.ref q_36, .int 0, .int 0, .int 0])), (b2_54, .inr (0, [.ref q_38, .int 0, .int 0, .int 0]))]) (nc' := 34) (ns' := 30313) B cl_X10_63 w_im_X9_init rfl rfl (ev_X9_init E q_55 ) rfl [24] [0, 1, 2, 3, 4, 5, 6, 7, 8, 9, 10, 11, 12, 13, 14, 15, 16, 17, 18, 19, 20, 21, 22, 23] rfl rfl (by decide) (by decide) (by decide) ⟨by decide, by decide⟩ rfl rfl (by decide) (by decide) rfl (Nat.le_of_ble_eq_true rfl) dX10_init_138 (fun v w hq => ?_)
  obtain ⟨ps_56, p_57, te_58, de_59, we_60, inp_61, ba_62, gu_63, md_64, mi_65, rfl, rfl⟩ := hq
  show G E X 2 [(x, .inr (10, [.ref q_32, .int 0, .ref q_33, .ref q_36, .ref q_38, .ref q_40, .ref q_42, .ref q_49, .ref q_52, .null, .null])), (q_32, .inl (E.2.2.1 0, 1200, .inl (fun _ => 0))), (q_33, .inr (7, [.ref te_34, .ref de_35, .int 0])), (te_34, .inl (E.2.2.1 0, 8, .inl (fun _ => 0))), (de_35, .inl (E.2.2.1 0, 8, .inl (fun _ => 0))), (q_36, .inr (2, [.ref q_37, .int 0])), (q_37, .inl (E.2.2.1 1, 6000, .inl (fun _ => 0))), (q_38, .inr (2, [.ref q_39, .int 0])), (q_39, .inl (E.2.2.1 1, 6000, .inl (fun _ => 0))), (q_40, .inr (2, [.ref q_41, .int 0])), (q_41, .inl (E.2.2.1 1, 9600, .inl (fun _ => 0))), (q_42, .inr (2, [.ref q_43, .int 0])), (q_43, .inl (E.2.2.1 1, 2450, .inl (fun _ => 0))), (q_44, .inr (8, [.ref sv_45, .ref sr_46, .ref sl_47, .ref sp_48])), (sv_45, .inl (E.2.2.1 0, 1200, .inl (fun _ => 0))), (sr_46, .inl (E.2.2.1 0, 1200, .inl (fun _ => 0))), (sl_47, .inl (E.2.2.1 3, 1200, .inr (.inl (fun _ => 0)))), (sp_48, .inl (E.2.2.1 0, 1200, .inl (fun _ => 0))), (q_49, .inr (4, [.ref q_40, .ref q_42, .ref b1_50, .ref b2_51, .ref q_44])), (b1_50, .inr (1, [.ref q_40, .int 0, .int 0])), (b2_51, .inr (1, [.ref q_42, .int 0, .int 0])), (q_52, .inr (3, [.ref q_36, .ref q_38, .ref b1_53, .ref b2_54, .ref q_44])), (b1_53, .inr (0, [.ref q_36, .int 0, .int 0, .int 0])), (b2_54, .inr (0, [.ref q_38, .int 0, .int 0, .int 0])), (q_55, .inr (9, [.ref ps_56, .ref md_64, .int 0, .int 0, .int 0, .int 0, .int 0, .int 0, .int 0, .int 0, .int 0, .int 0])), (ps_56, .inr (6, [.ref p_57, .ref we_60, .ref inp_61, .ref ba_62, .ref gu_63, .int 0, .int 0, .int 0])), (p_57, .inr (7, [.ref te_58, .ref de_59, .int 0])), (te_58, .inl (E.2.2.1 0, 8, .inl (fun _ => 0))), (de_59, .inl (E.2.2.1 0, 8, .inl (fun _ => 0))), (we_60, .inl (E.2.2.1 0, 16, .inl (fun _ => 0))), (inp_61, .inl (E.2.2.1 0, 128, .inl (fun _ => 0))), (ba_62, .inl (E.2.2.1 0, 8, .inl (fun _ => 0))), (gu_63, .inl (E.2.2.1 0, 8, .inl (fun _ => 0))), (md_64, .inr (5, [.ref mi_65, .long 0, .long 0])), (mi_65, .inl (E.2.2.1 3, 6, .inr (.inl (fun _ => 0))))] 34 30313 [(1, .ref q_44), (0, .ref x)] 141 [.ref q_55, .ref x]
  refine g_put (ws' := [(x, .inr (10, [.ref q_32, .int 0, .ref q_33, .ref q_36, .ref q_38, .ref q_40, .ref q_42, .ref q_49, .ref q_52, .ref q_55, .null])), (q_32, .inl (E.2.2.1 0, 1200, .inl (fun _ => 0))), (q_33, .inr (7, [.ref te_34, .ref de_35, .int 0])), (te_34, .inl (E.2.2.1 0, 8, .inl (fun _ => 0))), (de_35, .inl (E.2.2.1 0, 8, .inl (fun _ => 0))), (q_36, .inr (2, [.ref q_37, .int 0])), (q_37, .inl (E.2.2.1 1, 6000, .inl (fun _ => 0))), (q_38, .inr (2, [.ref q_39, .int 0])), (q_39, .inl (E.2.2.1 1, 6000, .inl (fun _ => 0))), (q_40, .inr (2, [.ref q_41, .int 0])), (q_41, .inl (E.2.2.1 1, 9600, .inl (fun _ => 0))), (q_42, .inr (2, [.ref q_43, .int 0])), (q_43, .inl (E.2.2.1 1, 2450, .inl (fun _ => 0))), (q_44, .inr (8, [.ref sv_45, .ref sr_46, .ref sl_47, .ref sp_48])), (sv_45, .inl (E.2.2.1 0, 1200, .inl (fun _ => 0))), (sr_46, .inl (E.2.2.1 0, 1200, .inl (fun _ => 0))), (sl_47, .inl (E.2.2.1 3, 1200, .inr (.inl (fun _ => 0)))), (sp_48, .inl (E.2.2.1 0, 1200, .inl (fun _ => 0))), (q_49, .inr (4, [.ref q_40, .ref q_42, .ref b1_50, .ref b2_51, .ref q_44])), (b1_50, .inr (1, [.ref q_40, .int 0, .int 0])), (b2_51, .inr (1, [.ref q_42, .int 0, .int 0])), (q_52, .inr (3, [.ref q_36, .ref q_38, .ref b1_53, .ref b2_54, .ref q_44])), (b1_53, .inr (0, [.ref q_36, .int 0, .int 0, .int 0])), (b2_54, .inr (0, [.ref q_38, .int 0, .int 0, .int 0])), (q_55, .inr (9, [.ref ps_56, .ref md_64, .int 0, .int 0, .int 0, .int 0, .int 0, .int 0, .int 0, .int 0, .int 0, .int 0])), (ps_56, .inr (6, [.ref p_57, .ref we_60, .ref inp_61, .ref ba_62, .ref gu_63, .int 0, .int 0, .int 0])), (p_57, .inr (7, [.ref te_58, .ref de_59, .int 0])), (te_58, .inl (E.2.2.1 0, 8, .inl (fun _ => 0))), (de_59, .inl (E.2.2.1 0, 8, .inl (fun _ => 0))), (we_60, .inl (E.2.2.1 0, 16, .inl (fun _ => 0))), (inp_61, .inl (E.2.2.1 0, 128, .inl (fun _ => 0))), (ba_62, .inl (E.2.2.1 0, 8, .inl (fun _ => 0))), (gu_63, .inl (E.2.2.1 0, 8, .inl (fun _ => 0))), (md_64, .inr (5, [.ref mi_65, .long 0, .long 0])), (mi_65, .inl (E.2.2.1 3, 6, .inr (.inl (fun _ => 0))))]) B 0 9 fl_X10_64 pf_X10_9 rfl (Nat.le_of_ble_eq_true rfl) rfl rfl rfl dX10_init_141 ?_
  refine g_aload_n B dX10_init_144 rfl 1 rfl ?_
  refine g_new (nc' := 35) (ns' := 30325) (ws' := fun q_66 => [(x, .inr (10, [.ref q_32, .int 0, .ref q_33, .ref q_36, .ref q_38, .ref q_40, .ref q_42, .ref q_49, .ref q_52, .ref q_55, .null])), (q_32, .inl (E.2.2.1 0, 1200, .inl (fun _ => 0))), (q_33, .inr (7, [.ref te_34, .ref de_35, .int 0])), (te_34, .inl (E.2.2.1 0, 8, .inl (fun _ => 0))), (de_35, .inl (E.2.2.1 0, 8, .inl (fun _ => 0))), (q_36, .inr (2, [.ref q_37, .int 0])), (q_37, .inl (E.2.2.1 1, 6000, .inl (fun _ => 0))), (q_38, .inr (2, [.ref q_39, .int 0])), (q_39, .inl (E.2.2.1 1, 6000, .inl (fun _ => 0))), (q_40, .inr (2, [.ref q_41, .int 0])), (q_41, .inl (E.2.2.1 1, 9600, .inl (fun _ => 0))), (q_42, .inr (2, [.ref q_43, .int 0])), (q_43, .inl (E.2.2.1 1, 2450, .inl (fun _ => 0))), (q_44, .inr (8, [.ref sv_45, .ref sr_46, .ref sl_47, .ref sp_48])), (sv_45, .inl (E.2.2.1 0, 1200, .inl (fun _ => 0))), (sr_46, .inl (E.2.2.1 0, 1200, .inl (fun _ => 0))), (sl_47, .inl (E.2.2.1 3, 1200, .inr (.inl (fun _ => 0)))), (sp_48, .inl (E.2.2.1 0, 1200, .inl (fun _ => 0))), (q_49, .inr (4, [.ref q_40, .ref q_42, .ref b1_50, .ref b2_51, .ref q_44])), (b1_50, .inr (1, [.ref q_40, .int 0, .int 0])), (b2_51, .inr (1, [.ref q_42, .int 0, .int 0])), (q_52, .inr (3, [.ref q_36, .ref q_38, .ref b1_53, .ref b2_54, .ref q_44])), (b1_53, .inr (0, [.ref q_36, .int 0, .int 0, .int 0])), (b2_54, .inr (0, [.ref q_38, .int 0, .int 0, .int 0])), (q_55, .inr (9, [.ref ps_56, .ref md_64, .int 0, .int 0, .int 0, .int 0, .int 0, .int 0, .int 0, .int 0, .int 0, .int 0])), (ps_56, .inr (6, [.ref p_57, .ref we_60, .ref inp_61, .ref ba_62, .ref gu_63, .int 0, .int 0, .int 0])), (p_57, .inr (7, [.ref te_58, .ref de_59, .int 0])), (te_58, .inl (E.2.2.1 0, 8, .inl (fun _ => 0))), (de_59, .inl (E.2.2.1 0, 8, .inl (fun _ => 0))), (we_60, .inl (E.2.2.1 0, 16, .inl (fun _ => 0))), (inp_61, .inl (E.2.2.1 0, 128, .inl (fun _ => 0))), (ba_62, .inl (E.2.2.1 0, 8, .inl (fun _ => 0))), (gu_63, .inl (E.2.2.1 0, 8, .inl (fun _ => 0))), (md_64, .inr (5, [.ref mi_65, .long 0, .long 0])), (mi_65, .inl (E.2.2.1 3, 6, .inr (.inl (fun _ => 0)))), (q_66, .inr (9, [.null, .null, .int 0, .int 0, .int 0, .int 0, .int 0, .int 0, .int 0, .int 0, .int 0, .int 0]))]) B nl_X10_61 rfl rfl (by decide) (by decide) (fun _ => rfl) dX10_init_145 (fun q_66 => ?_)
  refine g_dup B dX10_init_148 rfl ?_
  refine g_callI (st := [.ref q_66, .ref x]) (As := []) (wr := [(x, .inr (10, [.ref q_32, .int 0, .ref q_33, .ref q_36, .ref q_38, .ref q_40, .ref q_42, .ref q_49, .ref q_52, .ref q_55, .null])), (q_32, .inl (E.2.2.1 0, 1200, .inl (fun _ => 0))), (q_33, .inr (7, [.ref te_34, .ref de_35, .int 0])), (te_34, .inl (E.2.2.1 0, 8, .inl (fun _ => 0))), (de_35, .inl (E.2.2.1 0, 8, .inl (fun _ => 0))), (q_36, .inr (2, [.ref q_37, .int 0])), (q_37, .inl (E.2.2.1 1, 6000, .inl (fun _ => 0))), (q_38, .inr (2, [.ref q_39, .int 0])), (q_39, .inl (E.2.2.1 1, 6000, .inl (fun _ => 0))), (q_40, .inr (2, [.ref q_41, .int 0])), (q_41, .inl (E.2.2.1 1, 9600, .inl (fun _ => 0))), (q_42, .inr (2, [.ref q_43, .int 0])), (q_43, .inl (E.2.2.1 1, 2450, .inl (fun _ => 0))), (q_44, .inr (8, [.ref sv_45, .ref sr_46, .ref sl_47, .ref sp_48])), (sv_45, .inl (E.2.2.1 0, 1200, .inl (fun _ => 0))), (sr_46, .inl (E.2.2.1 0, 1200, .inl (fun _ => 0))), (sl_47, .inl (E.2.2.1 3, 1200, .inr (.inl (fun _ => 0)))), (sp_48, .inl (E.2.2.1 0, 1200, .inl (fun _ => 0))), (q_49, .inr (4, [.ref q_40, .ref q_42, .ref b1_50, .ref b2_51, .ref q_44])), (b1_50, .inr (1, [.ref q_40, .int 0, .int 0])), (b2_51, .inr (1, [.ref q_42, .int 0, .int 0])), (q_52, .inr (3, [.ref q_36, .ref q_38, .ref b1_53, .ref b2_54, .ref q_44])), (b1_53, .inr (0, [.ref q_36, .int 0, .int 0, .int 0])), (b2_54, .inr (0, [.ref q_38, .int 0, .int 0, .int 0])), (q_55, .inr (9, [.ref ps_56, .ref md_64, .int 0, .int 0, .int 0, .int 0, .int 0, .int 0, .int 0, .int 0, .int 0, .int 0])), (ps_56, .inr (6, [.ref p_57, .ref we_60, .ref inp_61, .ref ba_62, .ref gu_63, .int 0, .int 0, .int 0])), (p_57, .inr (7, [.ref te_58, .ref de_59, .int 0])), (te_58, .inl (E.2.2.1 0, 8, .inl (fun _ => 0))), (de_59, .inl (E.2.2.1 0, 8, .inl (fun _ => 0))), (we_60, .inl (E.2.2.1 0, 16, .inl (fun _ => 0))), (inp_61, .inl (E.2.2.1 0, 128, .inl (fun _ => 0))), (ba_62, .inl (E.2.2.1 0, 8, .inl (fun _ => 0))), (gu_63, .inl (E.2.2.1 0, 8, .inl (fun _ => 0))), (md_64, .inr (5, [.ref mi_65, .long 0, .long 0])), (mi_65, .inl (E.2.2.1 3, 6, .inr (.inl (fun _ => 0))))]) (nc' := 45) (ns' := 30521) B cl_X10_63 w_im_X9_init rfl rfl (ev_X9_init E q_66 ) rfl [35] [0, 1, 2, 3, 4, 5, 6, 7, 8, 9, 10, 11, 12, 13, 14, 15, 16, 17, 18, 19, 20, 21, 22, 23, 24, 25, 26, 27, 28, 29, 30, 31, 32, 33, 34] rfl rfl (by decide) (by decide) (by decide) ⟨by decide, by decide⟩ rfl rfl (by decide) (by decide) rfl (Nat.le_of_ble_eq_true rfl) dX10_init_149 (fun v w hq => ?_)
  obtain ⟨ps_67, p_68, te_69, de_70, we_71, inp_72, ba_73, gu_74, md_75, mi_76, rfl, rfl⟩ := hq
  show G E X 2 [(x, .inr (10, [.ref q_32, .int 0, .ref q_33, .ref q_36, .ref q_38, .ref q_40, .ref q_42, .ref q_49, .ref q_52, .ref q_55, .null])), (q_32, .inl (E.2.2.1 0, 1200, .inl (fun _ => 0))), (q_33, .inr (7, [.ref te_34, .ref de_35, .int 0])), (te_34, .inl (E.2.2.1 0, 8, .inl (fun _ => 0))), (de_35, .inl (E.2.2.1 0, 8, .inl (fun _ => 0))), (q_36, .inr (2, [.ref q_37, .int 0])), (q_37, .inl (E.2.2.1 1, 6000, .inl (fun _ => 0))), (q_38, .inr (2, [.ref q_39, .int 0])), (q_39, .inl (E.2.2.1 1, 6000, .inl (fun _ => 0))), (q_40, .inr (2, [.ref q_41, .int 0])), (q_41, .inl (E.2.2.1 1, 9600, .inl (fun _ => 0))), (q_42, .inr (2, [.ref q_43, .int 0])), (q_43, .inl (E.2.2.1 1, 2450, .inl (fun _ => 0))), (q_44, .inr (8, [.ref sv_45, .ref sr_46, .ref sl_47, .ref sp_48])), (sv_45, .inl (E.2.2.1 0, 1200, .inl (fun _ => 0))), (sr_46, .inl (E.2.2.1 0, 1200, .inl (fun _ => 0))), (sl_47, .inl (E.2.2.1 3, 1200, .inr (.inl (fun _ => 0)))), (sp_48, .inl (E.2.2.1 0, 1200, .inl (fun _ => 0))), (q_49, .inr (4, [.ref q_40, .ref q_42, .ref b1_50, .ref b2_51, .ref q_44])), (b1_50, .inr (1, [.ref q_40, .int 0, .int 0])), (b2_51, .inr (1, [.ref q_42, .int 0, .int 0])), (q_52, .inr (3, [.ref q_36, .ref q_38, .ref b1_53, .ref b2_54, .ref q_44])), (b1_53, .inr (0, [.ref q_36, .int 0, .int 0, .int 0])), (b2_54, .inr (0, [.ref q_38, .int 0, .int 0, .int 0])), (q_55, .inr (9, [.ref ps_56, .ref md_64, .int 0, .int 0, .int 0, .int 0, .int 0, .int 0, .int 0, .int 0, .int 0, .int 0])), (ps_56, .inr (6, [.ref p_57, .ref we_60, .ref inp_61, .ref ba_62, .ref gu_63, .int 0, .int 0, .int 0])), (p_57, .inr (7, [.ref te_58, .ref de_59, .int 0])), (te_58, .inl (E.2.2.1 0, 8, .inl (fun _ => 0))), (de_59, .inl (E.2.2.1 0, 8, .inl (fun _ => 0))), (we_60, .inl (E.2.2.1 0, 16, .inl (fun _ => 0))), (inp_61, .inl (E.2.2.1 0, 128, .inl (fun _ => 0))), (ba_62, .inl (E.2.2.1 0, 8, .inl (fun _ => 0))), (gu_63, .inl (E.2.2.1 0, 8, .inl (fun _ => 0))), (md_64, .inr (5, [.ref mi_65, .long 0, .long 0])), (mi_65, .inl (E.2.2.1 3, 6, .inr (.inl (fun _ => 0)))), (q_66, .inr (9, [.ref ps_67, .ref md_75, .int 0, .int 0, .int 0, .int 0, .int 0, .int 0, .int 0, .int 0, .int 0, .int 0])), (ps_67, .inr (6, [.ref p_68, .ref we_71, .ref inp_72, .ref ba_73, .ref gu_74, .int 0, .int 0, .int 0])), (p_68, .inr (7, [.ref te_69, .ref de_70, .int 0])), (te_69, .inl (E.2.2.1 0, 8, .inl (fun _ => 0))), (de_70, .inl (E.2.2.1 0, 8, .inl (fun _ => 0))), (we_71, .inl (E.2.2.1 0, 16, .inl (fun _ => 0))), (inp_72, .inl (E.2.2.1 0, 128, .inl (fun _ => 0))), (ba_73, .inl (E.2.2.1 0, 8, .inl (fun _ => 0))), (gu_74, .inl (E.2.2.1 0, 8, .inl (fun _ => 0))), (md_75, .inr (5, [.ref mi_76, .long 0, .long 0])), (mi_76, .inl (E.2.2.1 3, 6, .inr (.inl (fun _ => 0))))] 45 30521 [(1, .ref q_44), (0, .ref x)] 152 [.ref q_66, .ref x]
  refine g_put (ws' := [(x, .inr (10, [.ref q_32, .int 0, .ref q_33, .ref q_36, .ref q_38, .ref q_40, .ref q_42, .ref q_49, .ref q_52, .ref q_55, .ref q_66])), (q_32, .inl (E.2.2.1 0, 1200, .inl (fun _ => 0))), (q_33, .inr (7, [.ref te_34, .ref de_35, .int 0])), (te_34, .inl (E.2.2.1 0, 8, .inl (fun _ => 0))), (de_35, .inl (E.2.2.1 0, 8, .inl (fun _ => 0))), (q_36, .inr (2, [.ref q_37, .int 0])), (q_37, .inl (E.2.2.1 1, 6000, .inl (fun _ => 0))), (q_38, .inr (2, [.ref q_39, .int 0])), (q_39, .inl (E.2.2.1 1, 6000, .inl (fun _ => 0))), (q_40, .inr (2, [.ref q_41, .int 0])), (q_41, .inl (E.2.2.1 1, 9600, .inl (fun _ => 0))), (q_42, .inr (2, [.ref q_43, .int 0])), (q_43, .inl (E.2.2.1 1, 2450, .inl (fun _ => 0))), (q_44, .inr (8, [.ref sv_45, .ref sr_46, .ref sl_47, .ref sp_48])), (sv_45, .inl (E.2.2.1 0, 1200, .inl (fun _ => 0))), (sr_46, .inl (E.2.2.1 0, 1200, .inl (fun _ => 0))), (sl_47, .inl (E.2.2.1 3, 1200, .inr (.inl (fun _ => 0)))), (sp_48, .inl (E.2.2.1 0, 1200, .inl (fun _ => 0))), (q_49, .inr (4, [.ref q_40, .ref q_42, .ref b1_50, .ref b2_51, .ref q_44])), (b1_50, .inr (1, [.ref q_40, .int 0, .int 0])), (b2_51, .inr (1, [.ref q_42, .int 0, .int 0])), (q_52, .inr (3, [.ref q_36, .ref q_38, .ref b1_53, .ref b2_54, .ref q_44])), (b1_53, .inr (0, [.ref q_36, .int 0, .int 0, .int 0])), (b2_54, .inr (0, [.ref q_38, .int 0, .int 0, .int 0])), (q_55, .inr (9, [.ref ps_56, .ref md_64, .int 0, .int 0, .int 0, .int 0, .int 0, .int 0, .int 0, .int 0, .int 0, .int 0])), (ps_56, .inr (6, [.ref p_57, .ref we_60, .ref inp_61, .ref ba_62, .ref gu_63, .int 0, .int 0, .int 0])), (p_57, .inr (7, [.ref te_58, .ref de_59, .int 0])), (te_58, .inl (E.2.2.1 0, 8, .inl (fun _ => 0))), (de_59, .inl (E.2.2.1 0, 8, .inl (fun _ => 0))), (we_60, .inl (E.2.2.1 0, 16, .inl (fun _ => 0))), (inp_61, .inl (E.2.2.1 0, 128, .inl (fun _ => 0))), (ba_62, .inl (E.2.2.1 0, 8, .inl (fun _ => 0))), (gu_63, .inl (E.2.2.1 0, 8, .inl (fun _ => 0))), (md_64, .inr (5, [.ref mi_65, .long 0, .long 0])), (mi_65, .inl (E.2.2.1 3, 6, .inr (.inl (fun _ => 0)))), (q_66, .inr (9, [.ref ps_67, .ref md_75, .int 0, .int 0, .int 0, .int 0, .int 0, .int 0, .int 0, .int 0, .int 0, .int 0])), (ps_67, .inr (6, [.ref p_68, .ref we_71, .ref inp_72, .ref ba_73, .ref gu_74, .int 0, .int 0, .int 0])), (p_68, .inr (7, [.ref te_69, .ref de_70, .int 0])), (te_69, .inl (E.2.2.1 0, 8, .inl (fun _ => 0))), (de_70, .inl (E.2.2.1 0, 8, .inl (fun _ => 0))), (we_71, .inl (E.2.2.1 0, 16, .inl (fun _ => 0))), (inp_72, .inl (E.2.2.1 0, 128, .inl (fun _ => 0))), (ba_73, .inl (E.2.2.1 0, 8, .inl (fun _ => 0))), (gu_74, .inl (E.2.2.1 0, 8, .inl (fun _ => 0))), (md_75, .inr (5, [.ref mi_76, .long 0, .long 0])), (mi_76, .inl (E.2.2.1 3, 6, .inr (.inl (fun _ => 0))))]) B 0 10 fl_X10_68 pf_X10_10 rfl (Nat.le_of_ble_eq_true rfl) rfl rfl rfl dX10_init_152 ?_
  refine g_sub (ws' := [(x, .inr (10, [.ref q_32, .int 0, .ref q_33, .ref q_36, .ref q_38, .ref q_40, .ref q_42, .ref q_49, .ref q_52, .ref q_55, .ref q_66])), (q_32, .inl (E.2.2.1 0, 1200, .inl (fun _ => 0))), (q_33, .inr (7, [.ref te_34, .ref de_35, .int 0])), (te_34, .inl (E.2.2.1 0, 8, .inl (fun _ => 0))), (de_35, .inl (E.2.2.1 0, 8, .inl (fun _ => 0))), (q_36, .inr (2, [.ref q_37, .int 0])), (q_37, .inl (E.2.2.1 1, 6000, .inl (fun _ => 0))), (q_38, .inr (2, [.ref q_39, .int 0])), (q_39, .inl (E.2.2.1 1, 6000, .inl (fun _ => 0))), (q_40, .inr (2, [.ref q_41, .int 0])), (q_41, .inl (E.2.2.1 1, 9600, .inl (fun _ => 0))), (q_42, .inr (2, [.ref q_43, .int 0])), (q_43, .inl (E.2.2.1 1, 2450, .inl (fun _ => 0))), (q_49, .inr (4, [.ref q_40, .ref q_42, .ref b1_50, .ref b2_51, .ref q_44])), (b1_50, .inr (1, [.ref q_40, .int 0, .int 0])), (b2_51, .inr (1, [.ref q_42, .int 0, .int 0])), (q_52, .inr (3, [.ref q_36, .ref q_38, .ref b1_53, .ref b2_54, .ref q_44])), (b1_53, .inr (0, [.ref q_36, .int 0, .int 0, .int 0])), (b2_54, .inr (0, [.ref q_38, .int 0, .int 0, .int 0])), (q_44, .inr (8, [.ref sv_45, .ref sr_46, .ref sl_47, .ref sp_48])), (sv_45, .inl (E.2.2.1 0, 1200, .inl (fun _ => 0))), (sr_46, .inl (E.2.2.1 0, 1200, .inl (fun _ => 0))), (sl_47, .inl (E.2.2.1 3, 1200, .inr (.inl (fun _ => 0)))), (sp_48, .inl (E.2.2.1 0, 1200, .inl (fun _ => 0))), (q_55, .inr (9, [.ref ps_56, .ref md_64, .int 0, .int 0, .int 0, .int 0, .int 0, .int 0, .int 0, .int 0, .int 0, .int 0])), (ps_56, .inr (6, [.ref p_57, .ref we_60, .ref inp_61, .ref ba_62, .ref gu_63, .int 0, .int 0, .int 0])), (p_57, .inr (7, [.ref te_58, .ref de_59, .int 0])), (te_58, .inl (E.2.2.1 0, 8, .inl (fun _ => 0))), (de_59, .inl (E.2.2.1 0, 8, .inl (fun _ => 0))), (we_60, .inl (E.2.2.1 0, 16, .inl (fun _ => 0))), (inp_61, .inl (E.2.2.1 0, 128, .inl (fun _ => 0))), (ba_62, .inl (E.2.2.1 0, 8, .inl (fun _ => 0))), (gu_63, .inl (E.2.2.1 0, 8, .inl (fun _ => 0))), (md_64, .inr (5, [.ref mi_65, .long 0, .long 0])), (mi_65, .inl (E.2.2.1 3, 6, .inr (.inl (fun _ => 0)))), (q_66, .inr (9, [.ref ps_67, .ref md_75, .int 0, .int 0, .int 0, .int 0, .int 0, .int 0, .int 0, .int 0, .int 0, .int 0])), (ps_67, .inr (6, [.ref p_68, .ref we_71, .ref inp_72, .ref ba_73, .ref gu_74, .int 0, .int 0, .int 0])), (p_68, .inr (7, [.ref te_69, .ref de_70, .int 0])), (te_69, .inl (E.2.2.1 0, 8, .inl (fun _ => 0))), (de_70, .inl (E.2.2.1 0, 8, .inl (fun _ => 0))), (we_71, .inl (E.2.2.1 0, 16, .inl (fun _ => 0))), (inp_72, .inl (E.2.2.1 0, 128, .inl (fun _ => 0))), (ba_73, .inl (E.2.2.1 0, 8, .inl (fun _ => 0))), (gu_74, .inl (E.2.2.1 0, 8, .inl (fun _ => 0))), (md_75, .inr (5, [.ref mi_76, .long 0, .long 0])), (mi_76, .inl (E.2.2.1 3, 6, .inr (.inl (fun _ => 0))))]) [0, 1, 2, 3, 4, 5, 6, 7, 8, 9, 10, 11, 12, 18, 19, 20, 21, 22, 23, 13, 14, 15, 16, 17, 24, 25, 26, 27, 28, 29, 30, 31, 32, 33, 34, 35, 36, 37, 38, 39, 40, 41, 42, 43, 44, 45] (by decide) rfl ?_
  exact g_vret B hr dX10_init_155 (by decide) (by decide) ⟨q_32, q_33, te_34, de_35, q_36, q_37, q_38, q_39, q_40, q_41, q_42, q_43, q_49, b1_50, b2_51, q_52, b1_53, b2_54, q_44, sv_45, sr_46, sl_47, sp_48, q_55, ps_56, p_57, te_58, de_59, we_60, inp_61, ba_62, gu_63, md_64, mi_65, q_66, ps_67, p_68, te_69, de_70, we_71, inp_72, ba_73, gu_74, md_75, mi_76, rfl, rfl⟩
end
section
abbrev MX11_init : g_M := (yX11_init, cX11_init, 1, none)
theorem dX11_init_0 : decode cX11_init 0 = .ok (.aload_n 0, 1) := by decide +kernel
theorem dX11_init_1 : decode cX11_init 1 = .ok (.invokespecial 1, 3) := by decide +kernel
theorem w_mlo_X11_1 : Cond.methodLink RX11 1 objectInit ∈ g_tbl := g_tbl_in 877 (by decide +kernel) (by decide +kernel)
theorem dX11_init_4 : decode cX11_init 4 = .ok (.aload_n 0, 1) := by decide +kernel
theorem dX11_init_5 : decode cX11_init 5 = .ok (.sipush 1200, 3) := by decide +kernel
theorem dX11_init_8 : decode cX11_init 8 = .ok (.newarray .int, 2) := by decide +kernel
theorem dX11_init_10 : decode cX11_init 10 = .ok (.putfield 9, 3) := by decide +kernel
theorem w_fl_X11_9 : Cond.fieldLink RX11 9 (TX11 0).1 (TX11 0).2.1 (TX11 0).2.2.1 ∈ g_tbl := g_tbl_in 880 (by decide +kernel) (by decide +kernel)
set_option maxRecDepth 100000 in
theorem inX_X11 : ∀ w ∈ u_ws RX11 TX11 50, w ∈ g_tbl := by decide +kernel
theorem fl_X11_9 : FL RX11 9 11 0 := ⟨RX11, TX11, 50, rfl, by decide, inX_X11, w_fl_X11_9⟩
theorem pf_X11_0 : PF 11 0 (.array .int) true := fun C T N h => by cases h; exact ⟨⟨tyX11, tyX11_ok⟩, nmX11, by decide +kernel, rfl, rfl⟩
theorem dX11_init_13 : decode cX11_init 13 = .ok (.aload_n 0, 1) := by decide +kernel
theorem dX11_init_14 : decode cX11_init 14 = .ok (.bipush 8, 2) := by decide +kernel
theorem dX11_init_16 : decode cX11_init 16 = .ok (.newarray .int, 2) := by decide +kernel
theorem dX11_init_18 : decode cX11_init 18 = .ok (.putfield 13, 3) := by decide +kernel
theorem w_fl_X11_13 : Cond.fieldLink RX11 13 (TX11 2).1 (TX11 2).2.1 (TX11 2).2.2.1 ∈ g_tbl := g_tbl_in 882 (by decide +kernel) (by decide +kernel)
theorem fl_X11_13 : FL RX11 13 11 2 := ⟨RX11, TX11, 50, rfl, by decide, inX_X11, w_fl_X11_13⟩
theorem pf_X11_2 : PF 11 2 (.array .int) true := fun C T N h => by cases h; exact ⟨⟨tyX11, tyX11_ok⟩, nmX11, by decide +kernel, rfl, rfl⟩
theorem dX11_init_21 : decode cX11_init 21 = .ok (.aload_n 0, 1) := by decide +kernel
theorem dX11_init_22 : decode cX11_init 22 = .ok (.bipush 8, 2) := by decide +kernel
theorem dX11_init_24 : decode cX11_init 24 = .ok (.newarray .int, 2) := by decide +kernel
theorem dX11_init_26 : decode cX11_init 26 = .ok (.putfield 16, 3) := by decide +kernel
theorem w_fl_X11_16 : Cond.fieldLink RX11 16 (TX11 3).1 (TX11 3).2.1 (TX11 3).2.2.1 ∈ g_tbl := g_tbl_in 883 (by decide +kernel) (by decide +kernel)
theorem fl_X11_16 : FL RX11 16 11 3 := ⟨RX11, TX11, 50, rfl, by decide, inX_X11, w_fl_X11_16⟩
theorem pf_X11_3 : PF 11 3 (.array .int) true := fun C T N h => by cases h; exact ⟨⟨tyX11, tyX11_ok⟩, nmX11, by decide +kernel, rfl, rfl⟩
theorem dX11_init_29 : decode cX11_init 29 = .ok (.aload_n 0, 1) := by decide +kernel
theorem dX11_init_30 : decode cX11_init 30 = .ok (.sipush 12000, 3) := by decide +kernel
theorem dX11_init_33 : decode cX11_init 33 = .ok (.newarray .byte, 2) := by decide +kernel
theorem dX11_init_35 : decode cX11_init 35 = .ok (.putfield 19, 3) := by decide +kernel
theorem w_fl_X11_19 : Cond.fieldLink RX11 19 (TX11 5).1 (TX11 5).2.1 (TX11 5).2.2.1 ∈ g_tbl := g_tbl_in 885 (by decide +kernel) (by decide +kernel)
theorem fl_X11_19 : FL RX11 19 11 5 := ⟨RX11, TX11, 50, rfl, by decide, inX_X11, w_fl_X11_19⟩
theorem pf_X11_5 : PF 11 5 (.array .byte) true := fun C T N h => by cases h; exact ⟨⟨tyX11, tyX11_ok⟩, nmX11, by decide +kernel, rfl, rfl⟩
theorem dX11_init_38 : decode cX11_init 38 = .ok (.aload_n 0, 1) := by decide +kernel
theorem dX11_init_39 : decode cX11_init 39 = .ok (.iconst 2, 1) := by decide +kernel
theorem dX11_init_40 : decode cX11_init 40 = .ok (.newarray .int, 2) := by decide +kernel
theorem dX11_init_42 : decode cX11_init 42 = .ok (.putfield 23, 3) := by decide +kernel
theorem w_fl_X11_23 : Cond.fieldLink RX11 23 (TX11 6).1 (TX11 6).2.1 (TX11 6).2.2.1 ∈ g_tbl := g_tbl_in 886 (by decide +kernel) (by decide +kernel)
theorem fl_X11_23 : FL RX11 23 11 6 := ⟨RX11, TX11, 50, rfl, by decide, inX_X11, w_fl_X11_23⟩
theorem pf_X11_6 : PF 11 6 (.array .int) true := fun C T N h => by cases h; exact ⟨⟨tyX11, tyX11_ok⟩, nmX11, by decide +kernel, rfl, rfl⟩
theorem dX11_init_45 : decode cX11_init 45 = .ok (.aload_n 0, 1) := by decide +kernel
theorem dX11_init_46 : decode cX11_init 46 = .ok (.sipush 20000, 3) := by decide +kernel
theorem dX11_init_49 : decode cX11_init 49 = .ok (.newarray .byte, 2) := by decide +kernel
theorem dX11_init_51 : decode cX11_init 51 = .ok (.putfield 26, 3) := by decide +kernel
theorem w_fl_X11_26 : Cond.fieldLink RX11 26 (TX11 7).1 (TX11 7).2.1 (TX11 7).2.2.1 ∈ g_tbl := g_tbl_in 887 (by decide +kernel) (by decide +kernel)
theorem fl_X11_26 : FL RX11 26 11 7 := ⟨RX11, TX11, 50, rfl, by decide, inX_X11, w_fl_X11_26⟩
theorem pf_X11_7 : PF 11 7 (.array .byte) true := fun C T N h => by cases h; exact ⟨⟨tyX11, tyX11_ok⟩, nmX11, by decide +kernel, rfl, rfl⟩
theorem dX11_init_54 : decode cX11_init 54 = .ok (.aload_n 0, 1) := by decide +kernel
theorem dX11_init_55 : decode cX11_init 55 = .ok (.sipush 20000, 3) := by decide +kernel
theorem dX11_init_58 : decode cX11_init 58 = .ok (.newarray .byte, 2) := by decide +kernel
theorem dX11_init_60 : decode cX11_init 60 = .ok (.putfield 29, 3) := by decide +kernel
theorem w_fl_X11_29 : Cond.fieldLink RX11 29 (TX11 8).1 (TX11 8).2.1 (TX11 8).2.2.1 ∈ g_tbl := g_tbl_in 888 (by decide +kernel) (by decide +kernel)
theorem fl_X11_29 : FL RX11 29 11 8 := ⟨RX11, TX11, 50, rfl, by decide, inX_X11, w_fl_X11_29⟩
theorem pf_X11_8 : PF 11 8 (.array .byte) true := fun C T N h => by cases h; exact ⟨⟨tyX11, tyX11_ok⟩, nmX11, by decide +kernel, rfl, rfl⟩
theorem dX11_init_63 : decode cX11_init 63 = .ok (.aload_n 0, 1) := by decide +kernel
theorem dX11_init_64 : decode cX11_init 64 = .ok (.bipush 10, 2) := by decide +kernel
theorem dX11_init_66 : decode cX11_init 66 = .ok (.newarray .int, 2) := by decide +kernel
theorem dX11_init_68 : decode cX11_init 68 = .ok (.putfield 32, 3) := by decide +kernel
theorem w_fl_X11_32 : Cond.fieldLink RX11 32 (TX11 11).1 (TX11 11).2.1 (TX11 11).2.2.1 ∈ g_tbl := g_tbl_in 891 (by decide +kernel) (by decide +kernel)
theorem fl_X11_32 : FL RX11 32 11 11 := ⟨RX11, TX11, 50, rfl, by decide, inX_X11, w_fl_X11_32⟩
theorem pf_X11_11 : PF 11 11 (.array .int) true := fun C T N h => by cases h; exact ⟨⟨tyX11, tyX11_ok⟩, nmX11, by decide +kernel, rfl, rfl⟩
theorem dX11_init_71 : decode cX11_init 71 = .ok (.aload_n 0, 1) := by decide +kernel
theorem dX11_init_72 : decode cX11_init 72 = .ok (.bipush 16, 2) := by decide +kernel
theorem dX11_init_74 : decode cX11_init 74 = .ok (.newarray .int, 2) := by decide +kernel
theorem dX11_init_76 : decode cX11_init 76 = .ok (.putfield 35, 3) := by decide +kernel
theorem w_fl_X11_35 : Cond.fieldLink RX11 35 (TX11 12).1 (TX11 12).2.1 (TX11 12).2.2.1 ∈ g_tbl := g_tbl_in 892 (by decide +kernel) (by decide +kernel)
theorem fl_X11_35 : FL RX11 35 11 12 := ⟨RX11, TX11, 50, rfl, by decide, inX_X11, w_fl_X11_35⟩
theorem pf_X11_12 : PF 11 12 (.array .int) true := fun C T N h => by cases h; exact ⟨⟨tyX11, tyX11_ok⟩, nmX11, by decide +kernel, rfl, rfl⟩
theorem dX11_init_79 : decode cX11_init 79 = .ok (.aload_n 0, 1) := by decide +kernel
theorem dX11_init_80 : decode cX11_init 80 = .ok (.bipush 6, 2) := by decide +kernel
theorem dX11_init_82 : decode cX11_init 82 = .ok (.newarray .long, 2) := by decide +kernel
theorem dX11_init_84 : decode cX11_init 84 = .ok (.putfield 38, 3) := by decide +kernel
theorem w_fl_X11_38 : Cond.fieldLink RX11 38 (TX11 13).1 (TX11 13).2.1 (TX11 13).2.2.1 ∈ g_tbl := g_tbl_in 893 (by decide +kernel) (by decide +kernel)
theorem fl_X11_38 : FL RX11 38 11 13 := ⟨RX11, TX11, 50, rfl, by decide, inX_X11, w_fl_X11_38⟩
theorem pf_X11_13 : PF 11 13 (.array .long) true := fun C T N h => by cases h; exact ⟨⟨tyX11, tyX11_ok⟩, nmX11, by decide +kernel, rfl, rfl⟩
theorem dX11_init_87 : decode cX11_init 87 = .ok (.aload_n 0, 1) := by decide +kernel
theorem dX11_init_88 : decode cX11_init 88 = .ok (.bipush 8, 2) := by decide +kernel
theorem dX11_init_90 : decode cX11_init 90 = .ok (.newarray .int, 2) := by decide +kernel
theorem dX11_init_92 : decode cX11_init 92 = .ok (.putfield 42, 3) := by decide +kernel
theorem w_fl_X11_42 : Cond.fieldLink RX11 42 (TX11 16).1 (TX11 16).2.1 (TX11 16).2.2.1 ∈ g_tbl := g_tbl_in 896 (by decide +kernel) (by decide +kernel)
theorem fl_X11_42 : FL RX11 42 11 16 := ⟨RX11, TX11, 50, rfl, by decide, inX_X11, w_fl_X11_42⟩
theorem pf_X11_16 : PF 11 16 (.array .int) true := fun C T N h => by cases h; exact ⟨⟨tyX11, tyX11_ok⟩, nmX11, by decide +kernel, rfl, rfl⟩
theorem dX11_init_95 : decode cX11_init 95 = .ok (.aload_n 0, 1) := by decide +kernel
theorem dX11_init_96 : decode cX11_init 96 = .ok (.bipush 8, 2) := by decide +kernel
theorem dX11_init_98 : decode cX11_init 98 = .ok (.newarray .int, 2) := by decide +kernel
theorem dX11_init_100 : decode cX11_init 100 = .ok (.putfield 45, 3) := by decide +kernel
theorem w_fl_X11_45 : Cond.fieldLink RX11 45 (TX11 17).1 (TX11 17).2.1 (TX11 17).2.2.1 ∈ g_tbl := g_tbl_in 897 (by decide +kernel) (by decide +kernel)
theorem fl_X11_45 : FL RX11 45 11 17 := ⟨RX11, TX11, 50, rfl, by decide, inX_X11, w_fl_X11_45⟩
theorem pf_X11_17 : PF 11 17 (.array .int) true := fun C T N h => by cases h; exact ⟨⟨tyX11, tyX11_ok⟩, nmX11, by decide +kernel, rfl, rfl⟩
theorem dX11_init_103 : decode cX11_init 103 = .ok (.aload_n 0, 1) := by decide +kernel
theorem dX11_init_104 : decode cX11_init 104 = .ok (.bipush 16, 2) := by decide +kernel
theorem dX11_init_106 : decode cX11_init 106 = .ok (.newarray .int, 2) := by decide +kernel
theorem dX11_init_108 : decode cX11_init 108 = .ok (.putfield 48, 3) := by decide +kernel
theorem w_fl_X11_48 : Cond.fieldLink RX11 48 (TX11 18).1 (TX11 18).2.1 (TX11 18).2.2.1 ∈ g_tbl := g_tbl_in 898 (by decide +kernel) (by decide +kernel)
theorem fl_X11_48 : FL RX11 48 11 18 := ⟨RX11, TX11, 50, rfl, by decide, inX_X11, w_fl_X11_48⟩
theorem pf_X11_18 : PF 11 18 (.array .int) true := fun C T N h => by cases h; exact ⟨⟨tyX11, tyX11_ok⟩, nmX11, by decide +kernel, rfl, rfl⟩
theorem dX11_init_111 : decode cX11_init 111 = .ok (.aload_n 0, 1) := by decide +kernel
theorem dX11_init_112 : decode cX11_init 112 = .ok (.sipush 128, 3) := by decide +kernel
theorem dX11_init_115 : decode cX11_init 115 = .ok (.newarray .int, 2) := by decide +kernel
theorem dX11_init_117 : decode cX11_init 117 = .ok (.putfield 51, 3) := by decide +kernel
theorem w_fl_X11_51 : Cond.fieldLink RX11 51 (TX11 19).1 (TX11 19).2.1 (TX11 19).2.2.1 ∈ g_tbl := g_tbl_in 899 (by decide +kernel) (by decide +kernel)
theorem fl_X11_51 : FL RX11 51 11 19 := ⟨RX11, TX11, 50, rfl, by decide, inX_X11, w_fl_X11_51⟩
theorem pf_X11_19 : PF 11 19 (.array .int) true := fun C T N h => by cases h; exact ⟨⟨tyX11, tyX11_ok⟩, nmX11, by decide +kernel, rfl, rfl⟩
theorem dX11_init_120 : decode cX11_init 120 = .ok (.aload_n 0, 1) := by decide +kernel
theorem dX11_init_121 : decode cX11_init 121 = .ok (.bipush 8, 2) := by decide +kernel
theorem dX11_init_123 : decode cX11_init 123 = .ok (.newarray .int, 2) := by decide +kernel
theorem dX11_init_125 : decode cX11_init 125 = .ok (.putfield 54, 3) := by decide +kernel
theorem w_fl_X11_54 : Cond.fieldLink RX11 54 (TX11 20).1 (TX11 20).2.1 (TX11 20).2.2.1 ∈ g_tbl := g_tbl_in 900 (by decide +kernel) (by decide +kernel)
theorem fl_X11_54 : FL RX11 54 11 20 := ⟨RX11, TX11, 50, rfl, by decide, inX_X11, w_fl_X11_54⟩
theorem pf_X11_20 : PF 11 20 (.array .int) true := fun C T N h => by cases h; exact ⟨⟨tyX11, tyX11_ok⟩, nmX11, by decide +kernel, rfl, rfl⟩
theorem dX11_init_128 : decode cX11_init 128 = .ok (.aload_n 0, 1) := by decide +kernel
theorem dX11_init_129 : decode cX11_init 129 = .ok (.bipush 8, 2) := by decide +kernel
theorem dX11_init_131 : decode cX11_init 131 = .ok (.newarray .int, 2) := by decide +kernel
theorem dX11_init_133 : decode cX11_init 133 = .ok (.putfield 57, 3) := by decide +kernel
theorem w_fl_X11_57 : Cond.fieldLink RX11 57 (TX11 21).1 (TX11 21).2.1 (TX11 21).2.2.1 ∈ g_tbl := g_tbl_in 901 (by decide +kernel) (by decide +kernel)
theorem fl_X11_57 : FL RX11 57 11 21 := ⟨RX11, TX11, 50, rfl, by decide, inX_X11, w_fl_X11_57⟩
theorem pf_X11_21 : PF 11 21 (.array .int) true := fun C T N h => by cases h; exact ⟨⟨tyX11, tyX11_ok⟩, nmX11, by decide +kernel, rfl, rfl⟩
theorem dX11_init_136 : decode cX11_init 136 = .ok (.aload_n 0, 1) := by decide +kernel
theorem dX11_init_137 : decode cX11_init 137 = .ok (.bipush 16, 2) := by decide +kernel
theorem dX11_init_139 : decode cX11_init 139 = .ok (.newarray .int, 2) := by decide +kernel
theorem dX11_init_141 : decode cX11_init 141 = .ok (.putfield 60, 3) := by decide +kernel
theorem w_fl_X11_60 : Cond.fieldLink RX11 60 (TX11 22).1 (TX11 22).2.1 (TX11 22).2.2.1 ∈ g_tbl := g_tbl_in 902 (by decide +kernel) (by decide +kernel)
theorem fl_X11_60 : FL RX11 60 11 22 := ⟨RX11, TX11, 50, rfl, by decide, inX_X11, w_fl_X11_60⟩
theorem pf_X11_22 : PF 11 22 (.array .int) true := fun C T N h => by cases h; exact ⟨⟨tyX11, tyX11_ok⟩, nmX11, by decide +kernel, rfl, rfl⟩
theorem dX11_init_144 : decode cX11_init 144 = .ok (.aload_n 0, 1) := by decide +kernel
theorem dX11_init_145 : decode cX11_init 145 = .ok (.sipush 128, 3) := by decide +kernel
theorem dX11_init_148 : decode cX11_init 148 = .ok (.newarray .int, 2) := by decide +kernel
theorem dX11_init_150 : decode cX11_init 150 = .ok (.putfield 63, 3) := by decide +kernel
theorem w_fl_X11_63 : Cond.fieldLink RX11 63 (TX11 23).1 (TX11 23).2.1 (TX11 23).2.2.1 ∈ g_tbl := g_tbl_in 903 (by decide +kernel) (by decide +kernel)
theorem fl_X11_63 : FL RX11 63 11 23 := ⟨RX11, TX11, 50, rfl, by decide, inX_X11, w_fl_X11_63⟩
theorem pf_X11_23 : PF 11 23 (.array .int) true := fun C T N h => by cases h; exact ⟨⟨tyX11, tyX11_ok⟩, nmX11, by decide +kernel, rfl, rfl⟩
theorem dX11_init_153 : decode cX11_init 153 = .ok (.aload_n 0, 1) := by decide +kernel
theorem dX11_init_154 : decode cX11_init 154 = .ok (.bipush 6, 2) := by decide +kernel
theorem dX11_init_156 : decode cX11_init 156 = .ok (.newarray .long, 2) := by decide +kernel
theorem dX11_init_158 : decode cX11_init 158 = .ok (.putfield 66, 3) := by decide +kernel
theorem w_fl_X11_66 : Cond.fieldLink RX11 66 (TX11 24).1 (TX11 24).2.1 (TX11 24).2.2.1 ∈ g_tbl := g_tbl_in 904 (by decide +kernel) (by decide +kernel)
theorem fl_X11_66 : FL RX11 66 11 24 := ⟨RX11, TX11, 50, rfl, by decide, inX_X11, w_fl_X11_66⟩
theorem pf_X11_24 : PF 11 24 (.array .long) true := fun C T N h => by cases h; exact ⟨⟨tyX11, tyX11_ok⟩, nmX11, by decide +kernel, rfl, rfl⟩
theorem dX11_init_161 : decode cX11_init 161 = .ok (.aload_n 0, 1) := by decide +kernel
theorem dX11_init_162 : decode cX11_init 162 = .ok (.ldc 69, 2) := by decide +kernel
theorem w_k_X11_69 : Cond.constant RX11 69 160000 ∈ g_tbl := g_tbl_in 878 (by decide +kernel) (by decide +kernel)
theorem dX11_init_164 : decode cX11_init 164 = .ok (.newarray .byte, 2) := by decide +kernel
theorem dX11_init_166 : decode cX11_init 166 = .ok (.putfield 70, 3) := by decide +kernel
theorem w_fl_X11_70 : Cond.fieldLink RX11 70 (TX11 30).1 (TX11 30).2.1 (TX11 30).2.2.1 ∈ g_tbl := g_tbl_in 910 (by decide +kernel) (by decide +kernel)
theorem fl_X11_70 : FL RX11 70 11 30 := ⟨RX11, TX11, 50, rfl, by decide, inX_X11, w_fl_X11_70⟩
theorem pf_X11_30 : PF 11 30 (.array .byte) true := fun C T N h => by cases h; exact ⟨⟨tyX11, tyX11_ok⟩, nmX11, by decide +kernel, rfl, rfl⟩
theorem dX11_init_169 : decode cX11_init 169 = .ok (.aload_n 0, 1) := by decide +kernel
theorem dX11_init_170 : decode cX11_init 170 = .ok (.ldc 73, 2) := by decide +kernel
theorem w_k_X11_73 : Cond.constant RX11 73 50000 ∈ g_tbl := g_tbl_in 879 (by decide +kernel) (by decide +kernel)
theorem dX11_init_172 : decode cX11_init 172 = .ok (.newarray .byte, 2) := by decide +kernel
theorem dX11_init_174 : decode cX11_init 174 = .ok (.putfield 74, 3) := by decide +kernel
theorem w_fl_X11_74 : Cond.fieldLink RX11 74 (TX11 34).1 (TX11 34).2.1 (TX11 34).2.2.1 ∈ g_tbl := g_tbl_in 914 (by decide +kernel) (by decide +kernel)
theorem fl_X11_74 : FL RX11 74 11 34 := ⟨RX11, TX11, 50, rfl, by decide, inX_X11, w_fl_X11_74⟩
theorem pf_X11_34 : PF 11 34 (.array .byte) true := fun C T N h => by cases h; exact ⟨⟨tyX11, tyX11_ok⟩, nmX11, by decide +kernel, rfl, rfl⟩
theorem dX11_init_177 : decode cX11_init 177 = .ok (.aload_n 0, 1) := by decide +kernel
theorem dX11_init_178 : decode cX11_init 178 = .ok (.sipush 1200, 3) := by decide +kernel
theorem dX11_init_181 : decode cX11_init 181 = .ok (.newarray .int, 2) := by decide +kernel
theorem dX11_init_183 : decode cX11_init 183 = .ok (.putfield 77, 3) := by decide +kernel
theorem w_fl_X11_77 : Cond.fieldLink RX11 77 (TX11 41).1 (TX11 41).2.1 (TX11 41).2.2.1 ∈ g_tbl := g_tbl_in 921 (by decide +kernel) (by decide +kernel)
theorem fl_X11_77 : FL RX11 77 11 41 := ⟨RX11, TX11, 50, rfl, by decide, inX_X11, w_fl_X11_77⟩
theorem pf_X11_41 : PF 11 41 (.array .int) true := fun C T N h => by cases h; exact ⟨⟨tyX11, tyX11_ok⟩, nmX11, by decide +kernel, rfl, rfl⟩
theorem dX11_init_186 : decode cX11_init 186 = .ok (.aload_n 0, 1) := by decide +kernel
theorem dX11_init_187 : decode cX11_init 187 = .ok (.sipush 6000, 3) := by decide +kernel
theorem dX11_init_190 : decode cX11_init 190 = .ok (.newarray .byte, 2) := by decide +kernel
theorem dX11_init_192 : decode cX11_init 192 = .ok (.putfield 80, 3) := by decide +kernel
theorem w_fl_X11_80 : Cond.fieldLink RX11 80 (TX11 43).1 (TX11 43).2.1 (TX11 43).2.2.1 ∈ g_tbl := g_tbl_in 923 (by decide +kernel) (by decide +kernel)
theorem fl_X11_80 : FL RX11 80 11 43 := ⟨RX11, TX11, 50, rfl, by decide, inX_X11, w_fl_X11_80⟩
theorem pf_X11_43 : PF 11 43 (.array .byte) true := fun C T N h => by cases h; exact ⟨⟨tyX11, tyX11_ok⟩, nmX11, by decide +kernel, rfl, rfl⟩
theorem dX11_init_195 : decode cX11_init 195 = .ok (.aload_n 0, 1) := by decide +kernel
theorem dX11_init_196 : decode cX11_init 196 = .ok (.sipush 1200, 3) := by decide +kernel
theorem dX11_init_199 : decode cX11_init 199 = .ok (.newarray .long, 2) := by decide +kernel
theorem dX11_init_201 : decode cX11_init 201 = .ok (.putfield 83, 3) := by decide +kernel
theorem w_fl_X11_83 : Cond.fieldLink RX11 83 (TX11 44).1 (TX11 44).2.1 (TX11 44).2.2.1 ∈ g_tbl := g_tbl_in 924 (by decide +kernel) (by decide +kernel)
theorem fl_X11_83 : FL RX11 83 11 44 := ⟨RX11, TX11, 50, rfl, by decide, inX_X11, w_fl_X11_83⟩
theorem pf_X11_44 : PF 11 44 (.array .long) true := fun C T N h => by cases h; exact ⟨⟨tyX11, tyX11_ok⟩, nmX11, by decide +kernel, rfl, rfl⟩
theorem dX11_init_204 : decode cX11_init 204 = .ok (.aload_n 0, 1) := by decide +kernel
theorem dX11_init_205 : decode cX11_init 205 = .ok (.sipush 1200, 3) := by decide +kernel
theorem dX11_init_208 : decode cX11_init 208 = .ok (.newarray .long, 2) := by decide +kernel
theorem dX11_init_210 : decode cX11_init 210 = .ok (.putfield 86, 3) := by decide +kernel
theorem w_fl_X11_86 : Cond.fieldLink RX11 86 (TX11 45).1 (TX11 45).2.1 (TX11 45).2.2.1 ∈ g_tbl := g_tbl_in 925 (by decide +kernel) (by decide +kernel)
theorem fl_X11_86 : FL RX11 86 11 45 := ⟨RX11, TX11, 50, rfl, by decide, inX_X11, w_fl_X11_86⟩
theorem pf_X11_45 : PF 11 45 (.array .long) true := fun C T N h => by cases h; exact ⟨⟨tyX11, tyX11_ok⟩, nmX11, by decide +kernel, rfl, rfl⟩
theorem dX11_init_213 : decode cX11_init 213 = .ok (.aload_n 0, 1) := by decide +kernel
theorem dX11_init_214 : decode cX11_init 214 = .ok (.sipush 1200, 3) := by decide +kernel
theorem dX11_init_217 : decode cX11_init 217 = .ok (.newarray .long, 2) := by decide +kernel
theorem dX11_init_219 : decode cX11_init 219 = .ok (.putfield 89, 3) := by decide +kernel
theorem w_fl_X11_89 : Cond.fieldLink RX11 89 (TX11 46).1 (TX11 46).2.1 (TX11 46).2.2.1 ∈ g_tbl := g_tbl_in 926 (by decide +kernel) (by decide +kernel)
theorem fl_X11_89 : FL RX11 89 11 46 := ⟨RX11, TX11, 50, rfl, by decide, inX_X11, w_fl_X11_89⟩
theorem pf_X11_46 : PF 11 46 (.array .long) true := fun C T N h => by cases h; exact ⟨⟨tyX11, tyX11_ok⟩, nmX11, by decide +kernel, rfl, rfl⟩
theorem dX11_init_222 : decode cX11_init 222 = .ok (.aload_n 0, 1) := by decide +kernel
theorem dX11_init_223 : decode cX11_init 223 = .ok (.sipush 1200, 3) := by decide +kernel
theorem dX11_init_226 : decode cX11_init 226 = .ok (.newarray .boolean, 2) := by decide +kernel
theorem w_ac_boolean : Cond.arrayClass .boolean ∈ g_tbl := g_tbl_in 1031 (by decide +kernel) (by decide +kernel)
theorem dX11_init_228 : decode cX11_init 228 = .ok (.putfield 92, 3) := by decide +kernel
theorem w_fl_X11_92 : Cond.fieldLink RX11 92 (TX11 47).1 (TX11 47).2.1 (TX11 47).2.2.1 ∈ g_tbl := g_tbl_in 927 (by decide +kernel) (by decide +kernel)
theorem fl_X11_92 : FL RX11 92 11 47 := ⟨RX11, TX11, 50, rfl, by decide, inX_X11, w_fl_X11_92⟩
theorem pf_X11_47 : PF 11 47 (.array .boolean) true := fun C T N h => by cases h; exact ⟨⟨tyX11, tyX11_ok⟩, nmX11, by decide +kernel, rfl, rfl⟩
theorem dX11_init_231 : decode cX11_init 231 = .ok (.aload_n 0, 1) := by decide +kernel
theorem dX11_init_232 : decode cX11_init 232 = .ok (.sipush 1200, 3) := by decide +kernel
theorem dX11_init_235 : decode cX11_init 235 = .ok (.newarray .boolean, 2) := by decide +kernel
theorem dX11_init_237 : decode cX11_init 237 = .ok (.putfield 96, 3) := by decide +kernel
theorem w_fl_X11_96 : Cond.fieldLink RX11 96 (TX11 48).1 (TX11 48).2.1 (TX11 48).2.2.1 ∈ g_tbl := g_tbl_in 928 (by decide +kernel) (by decide +kernel)
theorem fl_X11_96 : FL RX11 96 11 48 := ⟨RX11, TX11, 50, rfl, by decide, inX_X11, w_fl_X11_96⟩
theorem pf_X11_48 : PF 11 48 (.array .boolean) true := fun C T N h => by cases h; exact ⟨⟨tyX11, tyX11_ok⟩, nmX11, by decide +kernel, rfl, rfl⟩
theorem dX11_init_240 : decode cX11_init 240 = .ok (.aload_n 0, 1) := by decide +kernel
theorem dX11_init_241 : decode cX11_init 241 = .ok (.iconst 5, 1) := by decide +kernel
theorem dX11_init_242 : decode cX11_init 242 = .ok (.newarray .int, 2) := by decide +kernel
theorem dX11_init_244 : decode cX11_init 244 = .ok (.putfield 99, 3) := by decide +kernel
theorem w_fl_X11_99 : Cond.fieldLink RX11 99 (TX11 49).1 (TX11 49).2.1 (TX11 49).2.2.1 ∈ g_tbl := g_tbl_in 929 (by decide +kernel) (by decide +kernel)
theorem fl_X11_99 : FL RX11 99 11 49 := ⟨RX11, TX11, 50, rfl, by decide, inX_X11, w_fl_X11_99⟩
theorem pf_X11_49 : PF 11 49 (.array .int) true := fun C T N h => by cases h; exact ⟨⟨tyX11, tyX11_ok⟩, nmX11, by decide +kernel, rfl, rfl⟩
theorem dX11_init_247 : decode cX11_init 247 = .ok (.return_, 1) := by decide +kernel
set_option maxRecDepth 100000 in
set_option maxHeartbeats 4000000 in
theorem ev_X11_init (E : g_E) (m : Nat)  : Ev E MX11_init 1 20 29 276781 [.ref m] [(m, .inr (11, [.null, .int 0, .null, .null, .int 0, .null, .null, .null, .null, .int 0, .int 0, .null, .null, .null, .int 0, .int 0, .null, .null, .null, .null, .null, .null, .null, .null, .null, .int 0, .int 0, .long 0, .long 0, .long 0, .null, .int 0, .int 0, .int 0, .null, .int 0, .int 0, .int 0, .int 0, .int 0, .int 0, .null, .int 0, .null, .null, .null, .null, .null, .null, .null]))] (fun v_ w_ => ∃ r_row : Nat, ∃ r_terms : Nat, ∃ r_deltas : Nat, ∃ r_tapes : Nat, ∃ r_taped : Nat, ∃ r_first : Nat, ∃ r_second : Nat, ∃ r_seen : Nat, ∃ r_seenWeights : Nat, ∃ r_seenMedians : Nat, ∃ r_term : Nat, ∃ r_delta : Nat, ∃ r_weights : Nat, ∃ r_inputs : Nat, ∃ r_guesses : Nat, ∃ r_bases : Nat, ∃ r_keptWeights : Nat, ∃ r_keptInputs : Nat, ∃ r_medians : Nat, ∃ r_bits : Nat, ∃ r_sideBits : Nat, ∃ r_coded : Nat, ∃ r_read : Nat, ∃ r_lows : Nat, ∃ r_highs : Nat, ∃ r_restsTaken : Nat, ∃ r_isBelow : Nat, ∃ r_isWritten : Nat, ∃ r_five : Nat, v_ = none ∧ w_ = [(m, .inr (11, [.ref r_row, .int 0, .ref r_terms, .ref r_deltas, .int 0, .ref r_tapes, .ref r_taped, .ref r_first, .ref r_second, .int 0, .int 0, .ref r_seen, .ref r_seenWeights, .ref r_seenMedians, .int 0, .int 0, .ref r_term, .ref r_delta, .ref r_weights, .ref r_inputs, .ref r_guesses, .ref r_bases, .ref r_keptWeights, .ref r_keptInputs, .ref r_medians, .int 0, .int 0, .long 0, .long 0, .long 0, .ref r_bits, .int 0, .int 0, .int 0, .ref r_sideBits, .int 0, .int 0, .int 0, .int 0, .int 0, .int 0, .ref r_coded, .int 0, .ref r_read, .ref r_lows, .ref r_highs, .ref r_restsTaken, .ref r_isBelow, .ref r_isWritten, .ref r_five])), (r_row, .inl (E.2.2.1 0, 1200, .inl (fun _ => 0))), (r_terms, .inl (E.2.2.1 0, 8, .inl (fun _ => 0))), (r_deltas, .inl (E.2.2.1 0, 8, .inl (fun _ => 0))), (r_tapes, .inl (E.2.2.1 1, 12000, .inl (fun _ => 0))), (r_taped, .inl (E.2.2.1 0, 2, .inl (fun _ => 0))), (r_first, .inl (E.2.2.1 1, 20000, .inl (fun _ => 0))), (r_second, .inl (E.2.2.1 1, 20000, .inl (fun _ => 0))), (r_seen, .inl (E.2.2.1 0, 10, .inl (fun _ => 0))), (r_seenWeights, .inl (E.2.2.1 0, 16, .inl (fun _ => 0))), (r_seenMedians, .inl (E.2.2.1 3, 6, .inr (.inl (fun _ => 0)))), (r_term, .inl (E.2.2.1 0, 8, .inl (fun _ => 0))), (r_delta, .inl (E.2.2.1 0, 8, .inl (fun _ => 0))), (r_weights, .inl (E.2.2.1 0, 16, .inl (fun _ => 0))), (r_inputs, .inl (E.2.2.1 0, 128, .inl (fun _ => 0))), (r_guesses, .inl (E.2.2.1 0, 8, .inl (fun _ => 0))), (r_bases, .inl (E.2.2.1 0, 8, .inl (fun _ => 0))), (r_keptWeights, .inl (E.2.2.1 0, 16, .inl (fun _ => 0))), (r_keptInputs, .inl (E.2.2.1 0, 128, .inl (fun _ => 0))), (r_medians, .inl (E.2.2.1 3, 6, .inr (.inl (fun _ => 0)))), (r_bits, .inl (E.2.2.1 1, 160000, .inl (fun _ => 0))), (r_sideBits, .inl (E.2.2.1 1, 50000, .inl (fun _ => 0))), (r_coded, .inl (E.2.2.1 0, 1200, .inl (fun _ => 0))), (r_read, .inl (E.2.2.1 1, 6000, .inl (fun _ => 0))), (r_lows, .inl (E.2.2.1 3, 1200, .inr (.inl (fun _ => 0)))), (r_highs, .inl (E.2.2.1 3, 1200, .inr (.inl (fun _ => 0)))), (r_restsTaken, .inl (E.2.2.1 3, 1200, .inr (.inl (fun _ => 0)))), (r_isBelow, .inl (E.2.2.1 2, 1200, .inl (fun _ => 0))), (r_isWritten, .inl (E.2.2.1 2, 1200, .inl (fun _ => 0))), (r_five, .inl (E.2.2.1 0, 5, .inl (fun _ => 0)))]) := by
  refine Ev.intro (by decide) (Nat.le_of_ble_eq_true rfl) ?_
  intro X B hr hI
  have B : Bd E X cX11_init RX11 1 1 20 29 276781 := B
  have hr : Rt E X none 29 276781 (fun v_ w_ => ∃ r_row : Nat, ∃ r_terms : Nat, ∃ r_deltas : Nat, ∃ r_tapes : Nat, ∃ r_taped : Nat, ∃ r_first : Nat, ∃ r_second : Nat, ∃ r_seen : Nat, ∃ r_seenWeights : Nat, ∃ r_seenMedians : Nat, ∃ r_term : Nat, ∃ r_delta : Nat, ∃ r_weights : Nat, ∃ r_inputs : Nat, ∃ r_guesses : Nat, ∃ r_bases : Nat, ∃ r_keptWeights : Nat, ∃ r_keptInputs : Nat, ∃ r_medians : Nat, ∃ r_bits : Nat, ∃ r_sideBits : Nat, ∃ r_coded : Nat, ∃ r_read : Nat, ∃ r_lows : Nat, ∃ r_highs : Nat, ∃ r_restsTaken : Nat, ∃ r_isBelow : Nat, ∃ r_isWritten : Nat, ∃ r_five : Nat, v_ = none ∧ w_ = [(m, .inr (11, [.ref r_row, .int 0, .ref r_terms, .ref r_deltas, .int 0, .ref r_tapes, .ref r_taped, .ref r_first, .ref r_second, .int 0, .int 0, .ref r_seen, .ref r_seenWeights, .ref r_seenMedians, .int 0, .int 0, .ref r_term, .ref r_delta, .ref r_weights, .ref r_inputs, .ref r_guesses, .ref r_bases, .ref r_keptWeights, .ref r_keptInputs, .ref r_medians, .int 0, .int 0, .long 0, .long 0, .long 0, .ref r_bits, .int 0, .int 0, .int 0, .ref r_sideBits, .int 0, .int 0, .int 0, .int 0, .int 0, .int 0, .ref r_coded, .int 0, .ref r_read, .ref r_lows, .ref r_highs, .ref r_restsTaken, .ref r_isBelow, .ref r_isWritten, .ref r_five])), (r_row, .inl (E.2.2.1 0, 1200, .inl (fun _ => 0))), (r_terms, .inl (E.2.2.1 0, 8, .inl (fun _ => 0))), (r_deltas, .inl (E.2.2.1 0, 8, .inl (fun _ => 0))), (r_tapes, .inl (E.2.2.1 1, 12000, .inl (fun _ => 0))), (r_taped, .inl (E.2.2.1 0, 2, .inl (fun _ => 0))), (r_first, .inl (E.2.2.1 1, 20000, .inl (fun _ => 0))), (r_second, .inl (E.2.2.1 1, 20000, .inl (fun _ => 0))), (r_seen, .inl (E.2.2.1 0, 10, .inl (fun _ => 0))), (r_seenWeights, .inl (E.2.2.1 0, 16, .inl (fun _ => 0))), (r_seenMedians, .inl (E.2.2.1 3, 6, .inr (.inl (fun _ => 0)))), (r_term, .inl (E.2.2.1 0, 8, .inl (fun _ => 0))), (r_delta, .inl (E.2.2.1 0, 8, .inl (fun _ => 0))), (r_weights, .inl (E.2.2.1 0, 16, .inl (fun _ => 0))), (r_inputs, .inl (E.2.2.1 0, 128, .inl (fun _ => 0))), (r_guesses, .inl (E.2.2.1 0, 8, .inl (fun _ => 0))), (r_bases, .inl (E.2.2.1 0, 8, .inl (fun _ => 0))), (r_keptWeights, .inl (E.2.2.1 0, 16, .inl (fun _ => 0))), (r_keptInputs, .inl (E.2.2.1 0, 128, .inl (fun _ => 0))), (r_medians, .inl (E.2.2.1 3, 6, .inr (.inl (fun _ => 0)))), (r_bits, .inl (E.2.2.1 1, 160000, .inl (fun _ => 0))), (r_sideBits, .inl (E.2.2.1 1, 50000, .inl (fun _ => 0))), (r_coded, .inl (E.2.2.1 0, 1200, .inl (fun _ => 0))), (r_read, .inl (E.2.2.1 1, 6000, .inl (fun _ => 0))), (r_lows, .inl (E.2.2.1 3, 1200, .inr (.inl (fun _ => 0)))), (r_highs, .inl (E.2.2.1 3, 1200, .inr (.inl (fun _ => 0)))), (r_restsTaken, .inl (E.2.2.1 3, 1200, .inr (.inl (fun _ => 0)))), (r_isBelow, .inl (E.2.2.1 2, 1200, .inl (fun _ => 0))), (r_isWritten, .inl (E.2.2.1 2, 1200, .inl (fun _ => 0))), (r_five, .inl (E.2.2.1 0, 5, .inl (fun _ => 0)))]) := hr
  have hI : In X := hI rfl
  show G E X 1 [(m, .inr (11, [.null, .int 0, .null, .null, .int 0, .null, .null, .null, .null, .int 0, .int 0, .null, .null, .null, .int 0, .int 0, .null, .null, .null, .null, .null, .null, .null, .null, .null, .int 0, .int 0, .long 0, .long 0, .long 0, .null, .int 0, .int 0, .int 0, .null, .int 0, .int 0, .int 0, .int 0, .int 0, .int 0, .null, .int 0, .null, .null, .null, .null, .null, .null, .null]))] 0 0 [(0, .ref m)] 0 []
  refine g_aload_n B dX11_init_0 rfl 0 rfl ?_
  refine g_obj B w_mlo_X11_1 w_im_obj w_cd_obj (by decide) (Nat.le_of_ble_eq_true rfl) dX11_init_1 ?_
  refine g_aload_n B dX11_init_4 rfl 0 rfl ?_
  refine g_sipush (v := 1200) B dX11_init_5 (by decide) ?_
  refine g_newa (ty := .int) (t0 := 0) (N := 1200) (nc' := 1) (ns' := 1200) (a0 := (1200, .inl (fun _ => 0))) (ws' := fun q_77 => [(m, .inr (11, [.null, .int 0, .null, .null, .int 0, .null, .null, .null, .null, .int 0, .int 0, .null, .null, .null, .int 0, .int 0, .null, .null, .null, .null, .null, .null, .null, .null, .null, .int 0, .int 0, .long 0, .long 0, .long 0, .null, .int 0, .int 0, .int 0, .null, .int 0, .int 0, .int 0, .int 0, .int 0, .int 0, .null, .int 0, .null, .null, .null, .null, .null, .null, .null])), (q_77, .inl (E.2.2.1 0, 1200, .inl (fun _ => 0)))]) B w_ac_int rfl rfl rfl (fun _ => rfl) (by decide) (by decide) (by decide) rfl rfl (by decide) (by decide) (fun _ => rfl) dX11_init_8 (fun q_77 => ?_)
  refine g_putF (ws' := [(m, .inr (11, [.ref q_77, .int 0, .null, .null, .int 0, .null, .null, .null, .null, .int 0, .int 0, .null, .null, .null, .int 0, .int 0, .null, .null, .null, .null, .null, .null, .null, .null, .null, .int 0, .int 0, .long 0, .long 0, .long 0, .null, .int 0, .int 0, .int 0, .null, .int 0, .int 0, .int 0, .int 0, .int 0, .int 0, .null, .int 0, .null, .null, .null, .null, .null, .null, .null])), (q_77, .inl (E.2.2.1 0, 1200, .inl (fun _ => 0)))]) B hI 0 0 fl_X11_9 pf_X11_0 (fun q h => by cases h; rfl) rfl (Nat.le_of_ble_eq_true rfl) rfl rfl rfl dX11_init_10 ?_
  refine g_aload_n B dX11_init_13 rfl 0 rfl ?_
  refine g_bipush (v := 8) B dX11_init_14 (by decide) ?_
  refine g_newa (ty := .int) (t0 := 0) (N := 8) (nc' := 2) (ns' := 1208) (a0 := (8, .inl (fun _ => 0))) (ws' := fun q_78 => [(m, .inr (11, [.ref q_77, .int 0, .null, .null, .int 0, .null, .null, .null, .null, .int 0, .int 0, .null, .null, .null, .int 0, .int 0, .null, .null, .null, .null, .null, .null, .null, .null, .null, .int 0, .int 0, .long 0, .long 0, .long 0, .null, .int 0, .int 0, .int 0, .null, .int 0, .int 0, .int 0, .int 0, .int 0, .int 0, .null, .int 0, .null, .null, .null, .null, .null, .null, .null])), (q_77, .inl (E.2.2.1 0, 1200, .inl (fun _ => 0))), (q_78, .inl (E.2.2.1 0, 8, .inl (fun _ => 0)))]) B w_ac_int rfl rfl rfl (fun _ => rfl) (by decide) (by decide) (by decide) rfl rfl (by decide) (by decide) (fun _ => rfl) dX11_init_16 (fun q_78 => ?_)
  refine g_putF (ws' := [(m, .inr (11, [.ref q_77, .int 0, .ref q_78, .null, .int 0, .null, .null, .null, .null, .int 0, .int 0, .null, .null, .null, .int 0, .int 0, .null, .null, .null, .null, .null, .null, .null, .null, .null, .int 0, .int 0, .long 0, .long 0, .long 0, .null, .int 0, .int 0, .int 0, .null, .int 0, .int 0, .int 0, .int 0, .int 0, .int 0, .null, .int 0, .null, .null, .null, .null, .null, .null, .null])), (q_77, .inl (E.2.2.1 0, 1200, .inl (fun _ => 0))), (q_78, .inl (E.2.2.1 0, 8, .inl (fun _ => 0)))]) B hI 0 2 fl_X11_13 pf_X11_2 (fun q h => by cases h; rfl) rfl (Nat.le_of_ble_eq_true rfl) rfl rfl rfl dX11_init_18 ?_
  refine g_aload_n B dX11_init_21 rfl 0 rfl ?_
  refine g_bipush (v := 8) B dX11_init_22 (by decide) ?_
  refine g_newa (ty := .int) (t0 := 0) (N := 8) (nc' := 3) (ns' := 1216) (a0 := (8, .inl (fun _ => 0))) (ws' := fun q_79 => [(m, .inr (11, [.ref q_77, .int 0, .ref q_78, .null, .int 0, .null, .null, .null, .null, .int 0, .int 0, .null, .null, .null, .int 0, .int 0, .null, .null, .null, .null, .null, .null, .null, .null, .null, .int 0, .int 0, .long 0, .long 0, .long 0, .null, .int 0, .int 0, .int 0, .null, .int 0, .int 0, .int 0, .int 0, .int 0, .int 0, .null, .int 0, .null, .null, .null, .null, .null, .null, .null])), (q_77, .inl (E.2.2.1 0, 1200, .inl (fun _ => 0))), (q_78, .inl (E.2.2.1 0, 8, .inl (fun _ => 0))), (q_79, .inl (E.2.2.1 0, 8, .inl (fun _ => 0)))]) B w_ac_int rfl rfl rfl (fun _ => rfl) (by decide) (by decide) (by decide) rfl rfl (by decide) (by decide) (fun _ => rfl) dX11_init_24 (fun q_79 => ?_)
  refine g_putF (ws' := [(m, .inr (11, [.ref q_77, .int 0, .ref q_78, .ref q_79, .int 0, .null, .null, .null, .null, .int 0, .int 0, .null, .null, .null, .int 0, .int 0, .null, .null, .null, .null, .null, .null, .null, .null, .null, .int 0, .int 0, .long 0, .long 0, .long 0, .null, .int 0, .int 0, .int 0, .null, .int 0, .int 0, .int 0, .int 0, .int 0, .int 0, .null, .int 0, .null, .null, .null, .null, .null, .null, .null])), (q_77, .inl (E.2.2.1 0, 1200, .inl (fun _ => 0))), (q_78, .inl (E.2.2.1 0, 8, .inl (fun _ => 0))), (q_79, .inl (E.2.2.1 0, 8, .inl (fun _ => 0)))]) B hI 0 3 fl_X11_16 pf_X11_3 (fun q h => by cases h; rfl) rfl (Nat.le_of_ble_eq_true rfl) rfl rfl rfl dX11_init_26 ?_
  refine g_aload_n B dX11_init_29 rfl 0 rfl ?_
  refine g_sipush (v := 12000) B dX11_init_30 (by decide) ?_
  refine g_newa (ty := .byte) (t0 := 1) (N := 12000) (nc' := 4) (ns' := 13216) (a0 := (12000, .inl (fun _ => 0))) (ws' := fun q_80 => [(m, .inr (11, [.ref q_77, .int 0, .ref q_78, .ref q_79, .int 0, .null, .null, .null, .null, .int 0, .int 0, .null, .null, .null, .int 0, .int 0, .null, .null, .null, .null, .null, .null, .null, .null, .null, .int 0, .int 0, .long 0, .long 0, .long 0, .null, .int 0, .int 0, .int 0, .null, .int 0, .int 0, .int 0, .int 0, .int 0, .int 0, .null, .int 0, .null, .null, .null, .null, .null, .null, .null])), (q_77, .inl (E.2.2.1 0, 1200, .inl (fun _ => 0))), (q_78, .inl (E.2.2.1 0, 8, .inl (fun _ => 0))), (q_79, .inl (E.2.2.1 0, 8, .inl (fun _ => 0))), (q_80, .inl (E.2.2.1 1, 12000, .inl (fun _ => 0)))]) B w_ac_byte rfl rfl rfl (fun _ => rfl) (by decide) (by decide) (by decide) rfl rfl (by decide) (by decide) (fun _ => rfl) dX11_init_33 (fun q_80 => ?_)
  refine g_putF (ws' := [(m, .inr (11, [.ref q_77, .int 0, .ref q_78, .ref q_79, .int 0, .ref q_80, .null, .null, .null, .int 0, .int 0, .null, .null, .null, .int 0, .int 0, .null, .null, .null, .null, .null, .null, .null, .null, .null, .int 0, .int 0, .long 0, .long 0, .long 0, .null, .int 0, .int 0, .int 0, .null, .int 0, .int 0, .int 0, .int 0, .int 0, .int 0, .null, .int 0, .null, .null, .null, .null, .null, .null, .null])), (q_77, .inl (E.2.2.1 0, 1200, .inl (fun _ => 0))), (q_78, .inl (E.2.2.1 0, 8, .inl (fun _ => 0))), (q_79, .inl (E.2.2.1 0, 8, .inl (fun _ => 0))), (q_80, .inl (E.2.2.1 1, 12000, .inl (fun _ => 0)))]) B hI 0 5 fl_X11_19 pf_X11_5 (fun q h => by cases h; rfl) rfl (Nat.le_of_ble_eq_true rfl) rfl rfl rfl dX11_init_35 ?_
  refine g_aload_n B dX11_init_38 rfl 0 rfl ?_
  refine g_iconst (v := 2) B dX11_init_39 (by decide) ?_
  refine g_newa (ty := .int) (t0 := 0) (N := 2) (nc' := 5) (ns' := 13218) (a0 := (2, .inl (fun _ => 0))) (ws' := fun q_81 => [(m, .inr (11, [.ref q_77, .int 0, .ref q_78, .ref q_79, .int 0, .ref q_80, .null, .null, .null, .int 0, .int 0, .null, .null, .null, .int 0, .int 0, .null, .null, .null, .null, .null, .null, .null, .null, .null, .int 0, .int 0, .long 0, .long 0, .long 0, .null, .int 0, .int 0, .int 0, .null, .int 0, .int 0, .int 0, .int 0, .int 0, .int 0, .null, .int 0, .null, .null, .null, .null, .null, .null, .null])), (q_77, .inl (E.2.2.1 0, 1200, .inl (fun _ => 0))), (q_78, .inl (E.2.2.1 0, 8, .inl (fun _ => 0))), (q_79, .inl (E.2.2.1 0, 8, .inl (fun _ => 0))), (q_80, .inl (E.2.2.1 1, 12000, .inl (fun _ => 0))), (q_81, .inl (E.2.2.1 0, 2, .inl (fun _ => 0)))]) B w_ac_int rfl rfl rfl (fun _ => rfl) (by decide) (by decide) (by decide) rfl rfl (by decide) (by decide) (fun _ => rfl) dX11_init_40 (fun q_81 => ?_)
  refine g_putF (ws' := [(m, .inr (11, [.ref q_77, .int 0, .ref q_78, .ref q_79, .int 0, .ref q_80, .ref q_81, .null, .null, .int 0, .int 0, .null, .null, .null, .int 0, .int 0, .null, .null, .null, .null, .null, .null, .null, .null, .null, .int 0, .int 0, .long 0, .long 0, .long 0, .null, .int 0, .int 0, .int 0, .null, .int 0, .int 0, .int 0, .int 0, .int 0, .int 0, .null, .int 0, .null, .null, .null, .null, .null, .null, .null])), (q_77, .inl (E.2.2.1 0, 1200, .inl (fun _ => 0))), (q_78, .inl (E.2.2.1 0, 8, .inl (fun _ => 0))), (q_79, .inl (E.2.2.1 0, 8, .inl (fun _ => 0))), (q_80, .inl (E.2.2.1 1, 12000, .inl (fun _ => 0))), (q_81, .inl (E.2.2.1 0, 2, .inl (fun _ => 0)))]) B hI 0 6 fl_X11_23 pf_X11_6 (fun q h => by cases h; rfl) rfl (Nat.le_of_ble_eq_true rfl) rfl rfl rfl dX11_init_42 ?_
  refine g_aload_n B dX11_init_45 rfl 0 rfl ?_
  refine g_sipush (v := 20000) B dX11_init_46 (by decide) ?_
  refine g_newa (ty := .byte) (t0 := 1) (N := 20000) (nc' := 6) (ns' := 33218) (a0 := (20000, .inl (fun _ => 0))) (ws' := fun q_82 => [(m, .inr (11, [.ref q_77, .int 0, .ref q_78, .ref q_79, .int 0, .ref q_80, .ref q_81, .null, .null, .int 0, .int 0, .null, .null, .null, .int 0, .int 0, .null, .null, .null, .null, .null, .null, .null, .null, .null, .int 0, .int 0, .long 0, .long 0, .long 0, .null, .int 0, .int 0, .int 0, .null, .int 0, .int 0, .int 0, .int 0, .int 0, .int 0, .null, .int 0, .null, .null, .null, .null, .null, .null, .null])), (q_77, .inl (E.2.2.1 0, 1200, .inl (fun _ => 0))), (q_78, .inl (E.2.2.1 0, 8, .inl (fun _ => 0))), (q_79, .inl (E.2.2.1 0, 8, .inl (fun _ => 0))), (q_80, .inl (E.2.2.1 1, 12000, .inl (fun _ => 0))), (q_81, .inl (E.2.2.1 0, 2, .inl (fun _ => 0))), (q_82, .inl (E.2.2.1 1, 20000, .inl (fun _ => 0)))]) B w_ac_byte rfl rfl rfl (fun _ => rfl) (by decide) (by decide) (by decide) rfl rfl (by decide) (by decide) (fun _ => rfl) dX11_init_49 (fun q_82 => ?_)
  refine g_putF (ws' := [(m, .inr (11, [.ref q_77, .int 0, .ref q_78, .ref q_79, .int 0, .ref q_80, .ref q_81, .ref q_82, .null, .int 0, .int 0, .null, .null, .null, .int 0, .int 0, .null, .null, .null, .null, .null, .null, .null, .null, .null, .int 0, .int 0, .long 0, .long 0, .long 0, .null, .int 0, .int 0, .int 0, .null, .int 0, .int 0, .int 0, .int 0, .int 0, .int 0, .null, .int 0, .null, .null, .null, .null, .null, .null, .null])), (q_77, .inl (E.2.2.1 0, 1200, .inl (fun _ => 0))), (q_78, .inl (E.2.2.1 0, 8, .inl (fun _ => 0))), (q_79, .inl (E.2.2.1 0, 8, .inl (fun _ => 0))), (q_80, .inl (E.2.2.1 1, 12000, .inl (fun _ => 0))), (q_81, .inl (E.2.2.1 0, 2, .inl (fun _ => 0))), (q_82, .inl (E.2.2.1 1, 20000, .inl (fun _ => 0)))]) B hI 0 7 fl_X11_26 pf_X11_7 (fun q h => by cases h; rfl) rfl (Nat.le_of_ble_eq_true rfl) rfl rfl rfl dX11_init_51 ?_
  refine g_aload_n B dX11_init_54 rfl 0 rfl ?_
  refine g_sipush (v := 20000) B dX11_init_55 (by decide) ?_
  refine g_newa (ty := .byte) (t0 := 1) (N := 20000) (nc' := 7) (ns' := 53218) (a0 := (20000, .inl (fun _ => 0))) (ws' := fun q_83 => [(m, .inr (11, [.ref q_77, .int 0, .ref q_78, .ref q_79, .int 0, .ref q_80, .ref q_81, .ref q_82, .null, .int 0, .int 0, .null, .null, .null, .int 0, .int 0, .null, .null, .null, .null, .null, .null, .null, .null, .null, .int 0, .int 0, .long 0, .long 0, .long 0, .null, .int 0, .int 0, .int 0, .null, .int 0, .int 0, .int 0, .int 0, .int 0, .int 0, .null, .int 0, .null, .null, .null, .null, .null, .null, .null])), (q_77, .inl (E.2.2.1 0, 1200, .inl (fun _ => 0))), (q_78, .inl (E.2.2.1 0, 8, .inl (fun _ => 0))), (q_79, .inl (E.2.2.1 0, 8, .inl (fun _ => 0))), (q_80, .inl (E.2.2.1 1, 12000, .inl (fun _ => 0))), (q_81, .inl (E.2.2.1 0, 2, .inl (fun _ => 0))), (q_82, .inl (E.2.2.1 1, 20000, .inl (fun _ => 0))), (q_83, .inl (E.2.2.1 1, 20000, .inl (fun _ => 0)))]) B w_ac_byte rfl rfl rfl (fun _ => rfl) (by decide) (by decide) (by decide) rfl rfl (by decide) (by decide) (fun _ => rfl) dX11_init_58 (fun q_83 => ?_)
  refine g_putF (ws' := [(m, .inr (11, [.ref q_77, .int 0, .ref q_78, .ref q_79, .int 0, .ref q_80, .ref q_81, .ref q_82, .ref q_83, .int 0, .int 0, .null, .null, .null, .int 0, .int 0, .null, .null, .null, .null, .null, .null, .null, .null, .null, .int 0, .int 0, .long 0, .long 0, .long 0, .null, .int 0, .int 0, .int 0, .null, .int 0, .int 0, .int 0, .int 0, .int 0, .int 0, .null, .int 0, .null, .null, .null, .null, .null, .null, .null])), (q_77, .inl (E.2.2.1 0, 1200, .inl (fun _ => 0))), (q_78, .inl (E.2.2.1 0, 8, .inl (fun _ => 0))), (q_79, .inl (E.2.2.1 0, 8, .inl (fun _ => 0))), (q_80, .inl (E.2.2.1 1, 12000, .inl (fun _ => 0))), (q_81, .inl (E.2.2.1 0, 2, .inl (fun _ => 0))), (q_82, .inl (E.2.2.1 1, 20000, .inl (fun _ => 0))), (q_83, .inl (E.2.2.1 1, 20000, .inl (fun _ => 0)))]) B hI 0 8 fl_X11_29 pf_X11_8 (fun q h => by cases h; rfl) rfl (Nat.le_of_ble_eq_true rfl) rfl rfl rfl dX11_init_60 ?_
  refine g_aload_n B dX11_init_63 rfl 0 rfl ?_
  refine g_bipush (v := 10) B dX11_init_64 (by decide) ?_
  refine g_newa (ty := .int) (t0 := 0) (N := 10) (nc' := 8) (ns' := 53228) (a0 := (10, .inl (fun _ => 0))) (ws' := fun q_84 => [(m, .inr (11, [.ref q_77, .int 0, .ref q_78, .ref q_79, .int 0, .ref q_80, .ref q_81, .ref q_82, .ref q_83, .int 0, .int 0, .null, .null, .null, .int 0, .int 0, .null, .null, .null, .null, .null, .null, .null, .null, .null, .int 0, .int 0, .long 0, .long 0, .long 0, .null, .int 0, .int 0, .int 0, .null, .int 0, .int 0, .int 0, .int 0, .int 0, .int 0, .null, .int 0, .null, .null, .null, .null, .null, .null, .null])), (q_77, .inl (E.2.2.1 0, 1200, .inl (fun _ => 0))), (q_78, .inl (E.2.2.1 0, 8, .inl (fun _ => 0))), (q_79, .inl (E.2.2.1 0, 8, .inl (fun _ => 0))), (q_80, .inl (E.2.2.1 1, 12000, .inl (fun _ => 0))), (q_81, .inl (E.2.2.1 0, 2, .inl (fun _ => 0))), (q_82, .inl (E.2.2.1 1, 20000, .inl (fun _ => 0))), (q_83, .inl (E.2.2.1 1, 20000, .inl (fun _ => 0))), (q_84, .inl (E.2.2.1 0, 10, .inl (fun _ => 0)))]) B w_ac_int rfl rfl rfl (fun _ => rfl) (by decide) (by decide) (by decide) rfl rfl (by decide) (by decide) (fun _ => rfl) dX11_init_66 (fun q_84 => ?_)
  refine g_putF (ws' := [(m, .inr (11, [.ref q_77, .int 0, .ref q_78, .ref q_79, .int 0, .ref q_80, .ref q_81, .ref q_82, .ref q_83, .int 0, .int 0, .ref q_84, .null, .null, .int 0, .int 0, .null, .null, .null, .null, .null, .null, .null, .null, .null, .int 0, .int 0, .long 0, .long 0, .long 0, .null, .int 0, .int 0, .int 0, .null, .int 0, .int 0, .int 0, .int 0, .int 0, .int 0, .null, .int 0, .null, .null, .null, .null, .null, .null, .null])), (q_77, .inl (E.2.2.1 0, 1200, .inl (fun _ => 0))), (q_78, .inl (E.2.2.1 0, 8, .inl (fun _ => 0))), (q_79, .inl (E.2.2.1 0, 8, .inl (fun _ => 0))), (q_80, .inl (E.2.2.1 1, 12000, .inl (fun _ => 0))), (q_81, .inl (E.2.2.1 0, 2, .inl (fun _ => 0))), (q_82, .inl (E.2.2.1 1, 20000, .inl (fun _ => 0))), (q_83, .inl (E.2.2.1 1, 20000, .inl (fun _ => 0))), (q_84, .inl (E.2.2.1 0, 10, .inl (fun _ => 0)))]) B hI 0 11 fl_X11_32 pf_X11_11 (fun q h => by cases h; rfl) rfl (Nat.le_of_ble_eq_true rfl) rfl rfl rfl dX11_init_68 ?_
  refine g_aload_n B dX11_init_71 rfl 0 rfl ?_
  refine g_bipush (v := 16) B dX11_init_72 (by decide) ?_
  refine g_newa (ty := .int) (t0 := 0) (N := 16) (nc' := 9) (ns' := 53244) (a0 := (16, .inl (fun _ => 0))) (ws' := fun q_85 => [(m, .inr (11, [.ref q_77, .int 0, .ref q_78, .ref q_79, .int 0, .ref q_80, .ref q_81, .ref q_82, .ref q_83, .int 0, .int 0, .ref q_84, .null, .null, .int 0, .int 0, .null, .null, .null, .null, .null, .null, .null, .null, .null, .int 0, .int 0, .long 0, .long 0, .long 0, .null, .int 0, .int 0, .int 0, .null, .int 0, .int 0, .int 0, .int 0, .int 0, .int 0, .null, .int 0, .null, .null, .null, .null, .null, .null, .null])), (q_77, .inl (E.2.2.1 0, 1200, .inl (fun _ => 0))), (q_78, .inl (E.2.2.1 0, 8, .inl (fun _ => 0))), (q_79, .inl (E.2.2.1 0, 8, .inl (fun _ => 0))), (q_80, .inl (E.2.2.1 1, 12000, .inl (fun _ => 0))), (q_81, .inl (E.2.2.1 0, 2, .inl (fun _ => 0))), (q_82, .inl (E.2.2.1 1, 20000, .inl (fun _ => 0))), (q_83, .inl (E.2.2.1 1, 20000, .inl (fun _ => 0))), (q_84, .inl (E.2.2.1 0, 10, .inl (fun _ => 0))), (q_85, .inl (E.2.2.1 0, 16, .inl (fun _ => 0)))]) B w_ac_int rfl rfl rfl (fun _ => rfl) (by decide) (by decide) (by decide) rfl rfl (by decide) (by decide) (fun _ => rfl) dX11_init_74 (fun q_85 => ?_)
  refine g_putF (ws' := [(m, .inr (11, [.ref q_77, .int 0, .ref q_78, .ref q_79, .int 0, .ref q_80, .ref q_81, .ref q_82, .ref q_83, .int 0, .int 0, .ref q_84, .ref q_85, .null, .int 0, .int 0, .null, .null, .null, .null, .null, .null, .null, .null, .null, .int 0, .int 0, .long 0, .long 0, .long 0, .null, .int 0, .int 0, .int 0, .null, .int 0, .int 0, .int 0, .int 0, .int 0, .int 0, .null, .int 0, .null, .null, .null, .null, .null, .null, .null])), (q_77, .inl (E.2.2.1 0, 1200, .inl (fun _ => 0))), (q_78, .inl (E.2.2.1 0, 8, .inl (fun _ => 0))), (q_79, .inl (E.2.2.1 0, 8, .inl (fun _ => 0))), (q_80, .inl (E.2.2.1 1, 12000, .inl (fun _ => 0))), (q_81, .inl (E.2.2.1 0, 2, .inl (fun _ => 0))), (q_82, .inl (E.2.2.1 1, 20000, .inl (fun _ => 0))), (q_83, .inl (E.2.2.1 1, 20000, .inl (fun _ => 0))), (q_84, .inl (E.2.2.1 0, 10, .inl (fun _ => 0))), (q_85, .inl (E.2.2.1 0, 16, .inl (fun _ => 0)))]) B hI 0 12 fl_X11_35 pf_X11_12 (fun q h => by cases h; rfl) rfl (Nat.le_of_ble_eq_true rfl) rfl rfl rfl dX11_init_76 ?_
  refine g_aload_n B dX11_init_79 rfl 0 rfl ?_
  refine g_bipush (v := 6) B dX11_init_80 (by decide) ?_
  refine g_newa (ty := .long) (t0 := 3) (N := 6) (nc' := 10) (ns' := 53250) (a0 := (6, .inr (.inl (fun _ => 0)))) (ws' := fun q_86 => [(m, .inr (11, [.ref q_77, .int 0, .ref q_78, .ref q_79, .int 0, .ref q_80, .ref q_81, .ref q_82, .ref q_83, .int 0, .int 0, .ref q_84, .ref q_85, .null, .int 0, .int 0, .null, .null, .null, .null, .null, .null, .null, .null, .null, .int 0, .int 0, .long 0, .long 0, .long 0, .null, .int 0, .int 0, .int 0, .null, .int 0, .int 0, .int 0, .int 0, .int 0, .int 0, .null, .int 0, .null, .null, .null, .null, .null, .null, .null])), (q_77, .inl (E.2.2.1 0, 1200, .inl (fun _ => 0))), (q_78, .inl (E.2.2.1 0, 8, .inl (fun _ => 0))), (q_79, .inl (E.2.2.1 0, 8, .inl (fun _ => 0))), (q_80, .inl (E.2.2.1 1, 12000, .inl (fun _ => 0))), (q_81, .inl (E.2.2.1 0, 2, .inl (fun _ => 0))), (q_82, .inl (E.2.2.1 1, 20000, .inl (fun _ => 0))), (q_83, .inl (E.2.2.1 1, 20000, .inl (fun _ => 0))), (q_84, .inl (E.2.2.1 0, 10, .inl (fun _ => 0))), (q_85, .inl (E.2.2.1 0, 16, .inl (fun _ => 0))), (q_86, .inl (E.2.2.1 3, 6, .inr (.inl (fun _ => 0))))]) B w_ac_long rfl rfl rfl (fun _ => rfl) (by decide) (by decide) (by decide) rfl rfl (by decide) (by decide) (fun _ => rfl) dX11_init_82 (fun q_86 => ?_)
  refine g_putF (ws' := [(m, .inr (11, [.ref q_77, .int 0, .ref q_78, .ref q_79, .int 0, .ref q_80, .ref q_81, .ref q_82, .ref q_83, .int 0, .int 0, .ref q_84, .ref q_85, .ref q_86, .int 0, .int 0, .null, .null, .null, .null, .null, .null, .null, .null, .null, .int 0, .int 0, .long 0, .long 0, .long 0, .null, .int 0, .int 0, .int 0, .null, .int 0, .int 0, .int 0, .int 0, .int 0, .int 0, .null, .int 0, .null, .null, .null, .null, .null, .null, .null])), (q_77, .inl (E.2.2.1 0, 1200, .inl (fun _ => 0))), (q_78, .inl (E.2.2.1 0, 8, .inl (fun _ => 0))), (q_79, .inl (E.2.2.1 0, 8, .inl (fun _ => 0))), (q_80, .inl (E.2.2.1 1, 12000, .inl (fun _ => 0))), (q_81, .inl (E.2.2.1 0, 2, .inl (fun _ => 0))), (q_82, .inl (E.2.2.1 1, 20000, .inl (fun _ => 0))), (q_83, .inl (E.2.2.1 1, 20000, .inl (fun _ => 0))), (q_84, .inl (E.2.2.1 0, 10, .inl (fun _ => 0))), (q_85, .inl (E.2.2.1 0, 16, .inl (fun _ => 0))), (q_86, .inl (E.2.2.1 3, 6, .inr (.inl (fun _ => 0))))]) B hI 0 13 fl_X11_38 pf_X11_13 (fun q h => by cases h; rfl) rfl (Nat.le_of_ble_eq_true rfl) rfl rfl rfl dX11_init_84 ?_
  refine g_aload_n B dX11_init_87 rfl 0 rfl ?_
  refine g_bipush (v := 8) B dX11_init_88 (by decide) ?_
  refine g_newa (ty := .int) (t0 := 0) (N := 8) (nc' := 11) (ns' := 53258) (a0 := (8, .inl (fun _ => 0))) (ws' := fun q_87 => [(m, .inr (11, [.ref q_77, .int 0, .ref q_78, .ref q_79, .int 0, .ref q_80, .ref q_81, .ref q_82, .ref q_83, .int 0, .int 0, .ref q_84, .ref q_85, .ref q_86, .int 0, .int 0, .null, .null, .null, .null, .null, .null, .null, .null, .null, .int 0, .int 0, .long 0, .long 0, .long 0, .null, .int 0, .int 0, .int 0, .null, .int 0, .int 0, .int 0, .int 0, .int 0, .int 0, .null, .int 0, .null, .null, .null, .null, .null, .null, .null])), (q_77, .inl (E.2.2.1 0, 1200, .inl (fun _ => 0))), (q_78, .inl (E.2.2.1 0, 8, .inl (fun _ => 0))), (q_79, .inl (E.2.2.1 0, 8, .inl (fun _ => 0))), (q_80, .inl (E.2.2.1 1, 12000, .inl (fun _ => 0))), (q_81, .inl (E.2.2.1 0, 2, .inl (fun _ => 0))), (q_82, .inl (E.2.2.1 1, 20000, .inl (fun _ => 0))), (q_83, .inl (E.2.2.1 1, 20000, .inl (fun _ => 0))), (q_84, .inl (E.2.2.1 0, 10, .inl (fun _ => 0))), (q_85, .inl (E.2.2.1 0, 16, .inl (fun _ => 0))), (q_86, .inl (E.2.2.1 3, 6, .inr (.inl (fun _ => 0)))), (q_87, .inl (E.2.2.1 0, 8, .inl (fun _ => 0)))]) B w_ac_int rfl rfl rfl (fun _ => rfl) (by decide) (by decide) (by decide) rfl rfl (by decide) (by decide) (fun _ => rfl) dX11_init_90 (fun q_87 => ?_)
  refine g_putF (ws' := [(m, .inr (11, [.ref q_77, .int 0, .ref q_78, .ref q_79, .int 0, .ref q_80, .ref q_81, .ref q_82, .ref q_83, .int 0, .int 0, .ref q_84, .ref q_85, .ref q_86, .int 0, .int 0, .ref q_87, .null, .null, .null, .null, .null, .null, .null, .null, .int 0, .int 0, .long 0, .long 0, .long 0, .null, .int 0, .int 0, .int 0, .null, .int 0, .int 0, .int 0, .int 0, .int 0, .int 0, .null, .int 0, .null, .null, .null, .null, .null, .null, .null])), (q_77, .inl (E.2.2.1 0, 1200, .inl (fun _ => 0))), (q_78, .inl (E.2.2.1 0, 8, .inl (fun _ => 0))), (q_79, .inl (E.2.2.1 0, 8, .inl (fun _ => 0))), (q_80, .inl (E.2.2.1 1, 12000, .inl (fun _ => 0))), (q_81, .inl (E.2.2.1 0, 2, .inl (fun _ => 0))), (q_82, .inl (E.2.2.1 1, 20000, .inl (fun _ => 0))), (q_83, .inl (E.2.2.1 1, 20000, .inl (fun _ => 0))), (q_84, .inl (E.2.2.1 0, 10, .inl (fun _ => 0))), (q_85, .inl (E.2.2.1 0, 16, .inl (fun _ => 0))), (q_86, .inl (E.2.2.1 3, 6, .inr (.inl (fun _ => 0)))), (q_87, .inl (E.2.2.1 0, 8, .inl (fun _ => 0)))]) B hI 0 16 fl_X11_42 pf_X11_16 (fun q h => by cases h; rfl) rfl (Nat.le_of_ble_eq_true rfl) rfl rfl rfl dX11_init_92 ?_
  refine g_aload_n B dX11_init_95 rfl 0 rfl ?_
  refine g_bipush (v := 8) B dX11_init_96 (by decide) ?_
  refine g_newa (ty := .int) (t0 := 0) (N := 8) (nc' := 12) (ns' := 53266) (a0 := (8, .inl (fun _ => 0))) (ws' := fun q_88 => [(m, .inr (11, [.ref q_77, .int 0, .ref q_78, .ref q_79, .int 0, .ref q_80, .ref q_81, .ref q_82, .ref q_83, .int 0, .int 0, .ref q_84, .ref q_85, .ref q_86, .int 0, .int 0, .ref q_87, .null, .null, .null, .null, .null, .null, .null, .null, .int 0, .int 0, .long 0, .long 0, .long 0, .null, .int 0, .int 0, .int 0, .null, .int 0, .int 0, .int 0, .int 0, .int 0, .int 0, .null, .int 0, .null, .null, .null, .null, .null, .null, .null])), (q_77, .inl (E.2.2.1 0, 1200, .inl (fun _ => 0))), (q_78, .inl (E.2.2.1 0, 8, .inl (fun _ => 0))), (q_79, .inl (E.2.2.1 0, 8, .inl (fun _ => 0))), (q_80, .inl (E.2.2.1 1, 12000, .inl (fun _ => 0))), (q_81, .inl (E.2.2.1 0, 2, .inl (fun _ => 0))), (q_82, .inl (E.2.2.1 1, 20000, .inl (fun _ => 0))), (q_83, .inl (E.2.2.1 1, 20000, .inl (fun _ => 0))), (q_84, .inl (E.2.2.1 0, 10, .inl (fun _ => 0))), (q_85, .inl (E.2.2.1 0, 16, .inl (fun _ => 0))), (q_86, .inl (E.2.2.1 3, 6, .inr (.inl (fun _ => 0)))), (q_87, .inl (E.2.2.1 0, 8, .inl (fun _ => 0))), (q_88, .inl (E.2.2.1 0, 8, .inl (fun _ => 0)))]) B w_ac_int rfl rfl rfl (fun _ => rfl) (by decide) (by decide) (by decide) rfl rfl (by decide) (by decide) (fun _ => rfl) dX11_init_98 (fun q_88 => ?_)
  refine g_putF (ws' := [(m, .inr (11, [.ref q_77, .int 0, .ref q_78, .ref q_79, .int 0, .ref q_80, .ref q_81, .ref q_82, .ref q_83, .int 0, .int 0, .ref q_84, .ref q_85, .ref q_86, .int 0, .int 0, .ref q_87, .ref q_88, .null, .null, .null, .null, .null, .null, .null, .int 0, .int 0, .long 0, .long 0, .long 0, .null, .int 0, .int 0, .int 0, .null, .int 0, .int 0, .int 0, .int 0, .int 0, .int 0, .null, .int 0, .null, .null, .null, .null, .null, .null, .null])), (q_77, .inl (E.2.2.1 0, 1200, .inl (fun _ => 0))), (q_78, .inl (E.2.2.1 0, 8, .inl (fun _ => 0))), (q_79, .inl (E.2.2.1 0, 8, .inl (fun _ => 0))), (q_80, .inl (E.2.2.1 1, 12000, .inl (fun _ => 0))), (q_81, .inl (E.2.2.1 0, 2, .inl (fun _ => 0))), (q_82, .inl (E.2.2.1 1, 20000, .inl (fun _ => 0))), (q_83, .inl (E.2.2.1 1, 20000, .inl (fun _ => 0))), (q_84, .inl (E.2.2.1 0, 10, .inl (fun _ => 0))), (q_85, .inl (E.2.2.1 0, 16, .inl (fun _ => 0))), (q_86, .inl (E.2.2.1 3, 6, .inr (.inl (fun _ => 0)))), (q_87, .inl (E.2.2.1 0, 8, .inl (fun _ => 0))), (q_88, .inl (E.2.2.1 0, 8, .inl (fun _ => 0)))]) B hI 0 17 fl_X11_45 pf_X11_17 (fun q h => by cases h; rfl) rfl (Nat.le_of_ble_eq_true rfl) rfl rfl rfl dX11_init_100 ?_
  refine g_aload_n B dX11_init_103 rfl 0 rfl ?_
  refine g_bipush (v := 16) B dX11_init_104 (by decide) ?_
  refine g_newa (ty := .int) (t0 := 0) (N := 16) (nc' := 13) (ns' := 53282) (a0 := (16, .inl (fun _ => 0))) (ws' := fun q_89 => [(m, .inr (11, [.ref q_77, .int 0, .ref q_78, .ref q_79, .int 0, .ref q_80, .ref q_81, .ref q_82, .ref q_83, .int 0, .int 0, .ref q_84, .ref q_85, .ref q_86, .int 0, .int 0, .ref q_87, .ref q_88, .null, .null, .null, .null, .null, .null, .null, .int 0, .int 0, .long 0, .long 0, .long 0, .null, .int 0, .int 0, .int 0, .null, .int 0, .int 0, .int 0, .int 0, .int 0, .int 0, .null, .int 0, .null, .null, .null, .null, .null, .null, .null])), (q_77, .inl (E.2.2.1 0, 1200, .inl (fun _ => 0))), (q_78, .inl (E.2.2.1 0, 8, .inl (fun _ => 0))), (q_79, .inl (E.2.2.1 0, 8, .inl (fun _ => 0))), (q_80, .inl (E.2.2.1 1, 12000, .inl (fun _ => 0))), (q_81, .inl (E.2.2.1 0, 2, .inl (fun _ => 0))), (q_82, .inl (E.2.2.1 1, 20000, .inl (fun _ => 0))), (q_83, .inl (E.2.2.1 1, 20000, .inl (fun _ => 0))), (q_84, .inl (E.2.2.1 0, 10, .inl (fun _ => 0))), (q_85, .inl (E.2.2.1 0, 16, .inl (fun _ => 0))), (q_86, .inl (E.2.2.1 3, 6, .inr (.inl (fun _ => 0)))), (q_87, .inl (E.2.2.1 0, 8, .inl (fun _ => 0))), (q_88, .inl (E.2.2.1 0, 8, .inl (fun _ => 0))), (q_89, .inl (E.2.2.1 0, 16, .inl (fun _ => 0)))]) B w_ac_int rfl rfl rfl (fun _ => rfl) (by decide) (by decide) (by decide) rfl rfl (by decide) (by decide) (fun _ => rfl) dX11_init_106 (fun q_89 => ?_)
  refine g_putF (ws' := [(m, .inr (11, [.ref q_77, .int 0, .ref q_78, .ref q_79, .int 0, .ref q_80, .ref q_81, .ref q_82, .ref q_83, .int 0, .int 0, .ref q_84, .ref q_85, .ref q_86, .int 0, .int 0, .ref q_87, .ref q_88, .ref q_89, .null, .null, .null, .null, .null, .null, .int 0, .int 0, .long 0, .long 0, .long 0, .null, .int 0, .int 0, .int 0, .null, .int 0, .int 0, .int 0, .int 0, .int 0, .int 0, .null, .int 0, .null, .null, .null, .null, .null, .null, .null])), (q_77, .inl (E.2.2.1 0, 1200, .inl (fun _ => 0))), (q_78, .inl (E.2.2.1 0, 8, .inl (fun _ => 0))), (q_79, .inl (E.2.2.1 0, 8, .inl (fun _ => 0))), (q_80, .inl (E.2.2.1 1, 12000, .inl (fun _ => 0))), (q_81, .inl (E.2.2.1 0, 2, .inl (fun _ => 0))), (q_82, .inl (E.2.2.1 1, 20000, .inl (fun _ => 0))), (q_83, .inl (E.2.2.1 1, 20000, .inl (fun _ => 0))), (q_84, .inl (E.2.2.1 0, 10, .inl (fun _ => 0))), (q_85, .inl (E.2.2.1 0, 16, .inl (fun _ => 0))), (q_86, .inl (E.2.2.1 3, 6, .inr (.inl (fun _ => 0)))), (q_87, .inl (E.2.2.1 0, 8, .inl (fun _ => 0))), (q_88, .inl (E.2.2.1 0, 8, .inl (fun _ => 0))), (q_89, .inl (E.2.2.1 0, 16, .inl (fun _ => 0)))]) B hI 0 18 fl_X11_48 pf_X11_18 (fun q h => by cases h; rfl) rfl (Nat.le_of_ble_eq_true rfl) rfl rfl rfl dX11_init_108 ?_
  refine g_aload_n B dX11_init_111 rfl 0 rfl ?_
  refine g_sipush (v := 128) B dX11_init_112 (by decide) ?_
  refine g_newa (ty := .int) (t0 := 0) (N := 128) (nc' := 14) (ns' := 53410) (a0 := (128, .inl (fun _ => 0))) (ws' := fun q_90 => [(m, .inr (11, [.ref q_77, .int 0, .ref q_78, .ref q_79, .int 0, .ref q_80, .ref q_81, .ref q_82, .ref q_83, .int 0, .int 0, .ref q_84, .ref q_85, .ref q_86, .int 0, .int 0, .ref q_87, .ref q_88, .ref q_89, .null, .null, .null, .null, .null, .null, .int 0, .int 0, .long 0, .long 0, .long 0, .null, .int 0, .int 0, .int 0, .null, .int 0, .int 0, .int 0, .int 0, .int 0, .int 0, .null, .int 0, .null, .null, .null, .null, .null, .null, .null])), (q_77, .inl (E.2.2.1 0, 1200, .inl (fun _ => 0))), (q_78, .inl (E.2.2.1 0, 8, .inl (fun _ => 0))), (q_79, .inl (E.2.2.1 0, 8, .inl (fun _ => 0))), (q_80, .inl (E.2.2.1 1, 12000, .inl (fun _ => 0))), (q_81, .inl (E.2.2.1 0, 2, .inl (fun _ => 0))), (q_82, .inl (E.2.2.1 1, 20000, .inl (fun _ => 0))), (q_83, .inl (E.2.2.1 1, 20000, .inl (fun _ => 0))), (q_84, .inl (E.2.2.1 0, 10, .inl (fun _ => 0))), (q_85, .inl (E.2.2.1 0, 16, .inl (fun _ => 0))), (q_86, .inl (E.2.2.1 3, 6, .inr (.inl (fun _ => 0)))), (q_87, .inl (E.2.2.1 0, 8, .inl (fun _ => 0))), (q_88, .inl (E.2.2.1 0, 8, .inl (fun _ => 0))), (q_89, .inl (E.2.2.1 0, 16, .inl (fun _ => 0))), (q_90, .inl (E.2.2.1 0, 128, .inl (fun _ => 0)))]) B w_ac_int rfl rfl rfl (fun _ => rfl) (by decide) (by decide) (by decide) rfl rfl (by decide) (by decide) (fun _ => rfl) dX11_init_115 (fun q_90 => ?_)
  refine g_putF (ws' := [(m, .inr (11, [.ref q_77, .int 0, .ref q_78, .ref q_79, .int 0, .ref q_80, .ref q_81, .ref q_82, .ref q_83, .int 0, .int 0, .ref q_84, .ref q_85, .ref q_86, .int 0, .int 0, .ref q_87, .ref q_88, .ref q_89, .ref q_90, .null, .null, .null, .null, .null, .int 0, .int 0, .long 0, .long 0, .long 0, .null, .int 0, .int 0, .int 0, .null, .int 0, .int 0, .int 0, .int 0, .int 0, .int 0, .null, .int 0, .null, .null, .null, .null, .null, .null, .null])), (q_77, .inl (E.2.2.1 0, 1200, .inl (fun _ => 0))), (q_78, .inl (E.2.2.1 0, 8, .inl (fun _ => 0))), (q_79, .inl (E.2.2.1 0, 8, .inl (fun _ => 0))), (q_80, .inl (E.2.2.1 1, 12000, .inl (fun _ => 0))), (q_81, .inl (E.2.2.1 0, 2, .inl (fun _ => 0))), (q_82, .inl (E.2.2.1 1, 20000, .inl (fun _ => 0))), (q_83, .inl (E.2.2.1 1, 20000, .inl (fun _ => 0))), (q_84, .inl (E.2.2.1 0, 10, .inl (fun _ => 0))), (q_85, .inl (E.2.2.1 0, 16, .inl (fun _ => 0))), (q_86, .inl (E.2.2.1 3, 6, .inr (.inl (fun _ => 0)))), (q_87, .inl (E.2.2.1 0, 8, .inl (fun _ => 0))), (q_88, .inl (E.2.2.1 0, 8, .inl (fun _ => 0))), (q_89, .inl (E.2.2.1 0, 16, .inl (fun _ => 0))), (q_90, .inl (E.2.2.1 0, 128, .inl (fun _ => 0)))]) B hI 0 19 fl_X11_51 pf_X11_19 (fun q h => by cases h; rfl) rfl (Nat.le_of_ble_eq_true rfl) rfl rfl rfl dX11_init_117 ?_
  refine g_aload_n B dX11_init_120 rfl 0 rfl ?_
  refine g_bipush (v := 8) B dX11_init_121 (by decide) ?_
  refine g_newa (ty := .int) (t0 := 0) (N := 8) (nc' := 15) (ns' := 53418) (a0 := (8, .inl (fun _ => 0))) (ws' := fun q_91 => [(m, .inr (11, [.ref q_77, .int 0, .ref q_78, .ref q_79, .int 0, .ref q_80, .ref q_81, .ref q_82, .ref q_83, .int 0, .int 0, .ref q_84, .ref q_85, .ref q_86, .int 0, .int 0, .ref q_87, .ref q_88, .ref q_89, .ref q_90, .null, .null, .null, .null, .null, .int 0, .int 0, .long 0, .long 0, .long 0, .null, .int 0, .int 0, .int 0, .null, .int 0, .int 0, .int 0, .int 0, .int 0, .int 0, .null, .int 0, .null, .null, .null, .null, .null, .null, .null])), (q_77, .inl (E.2.2.1 0, 1200, .inl (fun _ => 0))), (q_78, .inl (E.2.2.1 0, 8, .inl (fun _ => 0))), (q_79, .inl (E.2.2.1 0, 8, .inl (fun _ => 0))), (q_80, .inl (E.2.2.1 1, 12000, .inl (fun _ => 0))), (q_81, .inl (E.2.2.1 0, 2, .inl (fun _ => 0))), (q_82, .inl (E.2.2.1 1, 20000, .inl (fun _ => 0))), (q_83, .inl (E.2.2.1 1, 20000, .inl (fun _ => 0))), (q_84, .inl (E.2.2.1 0, 10, .inl (fun _ => 0))), (q_85, .inl (E.2.2.1 0, 16, .inl (fun _ => 0))), (q_86, .inl (E.2.2.1 3, 6, .inr (.inl (fun _ => 0)))), (q_87, .inl (E.2.2.1 0, 8, .inl (fun _ => 0))), (q_88, .inl (E.2.2.1 0, 8, .inl (fun _ => 0))), (q_89, .inl (E.2.2.1 0, 16, .inl (fun _ => 0))), (q_90, .inl (E.2.2.1 0, 128, .inl (fun _ => 0))), (q_91, .inl (E.2.2.1 0, 8, .inl (fun _ => 0)))]) B w_ac_int rfl rfl rfl (fun _ => rfl) (by decide) (by decide) (by decide) rfl rfl (by decide) (by decide) (fun _ => rfl) dX11_init_123 (fun q_91 => ?_)
  refine g_putF (ws' := [(m, .inr (11, [.ref q_77, .int 0, .ref q_78, .ref q_79, .int 0, .ref q_80, .ref q_81, .ref q_82, .ref q_83, .int 0, .int 0, .ref q_84, .ref q_85, .ref q_86, .int 0, .int 0, .ref q_87, .ref q_88, .ref q_89, .ref q_90, .ref q_91, .null, .null, .null, .null, .int 0, .int 0, .long 0, .long 0, .long 0, .null, .int 0, .int 0, .int 0, .null, .int 0, .int 0, .int 0, .int 0, .int 0, .int 0, .null, .int 0, .null, .null, .null, .null, .null, .null, .null])), (q_77, .inl (E.2.2.1 0, 1200, .inl (fun _ => 0))), (q_78, .inl (E.2.2.1 0, 8, .inl (fun _ => 0))), (q_79, .inl (E.2.2.1 0, 8, .inl (fun _ => 0))), (q_80, .inl (E.2.2.1 1, 12000, .inl (fun _ => 0))), (q_81, .inl (E.2.2.1 0, 2, .inl (fun _ => 0))), (q_82, .inl (E.2.2.1 1, 20000, .inl (fun _ => 0))), (q_83, .inl (E.2.2.1 1, 20000, .inl (fun _ => 0))), (q_84, .inl (E.2.2.1 0, 10, .inl (fun _ => 0))), (q_85, .inl (E.2.2.1 0, 16, .inl (fun _ => 0))), (q_86, .inl (E.2.2.1 3, 6, .inr (.inl (fun _ => 0)))), (q_87, .inl (E.2.2.1 0, 8, .inl (fun _ => 0))), (q_88, .inl (E.2.2.1 0, 8, .inl (fun _ => 0))), (q_89, .inl (E.2.2.1 0, 16, .inl (fun _ => 0))), (q_90, .inl (E.2.2.1 0, 128, .inl (fun _ => 0))), (q_91, .inl (E.2.2.1 0, 8, .inl (fun _ => 0)))]) B hI 0 20 fl_X11_54 pf_X11_20 (fun q h => by cases h; rfl) rfl (Nat.le_of_ble_eq_true rfl) rfl rfl rfl dX11_init_125 ?_
  refine g_aload_n B dX11_init_128 rfl 0 rfl ?_
  refine g_bipush (v := 8) B dX11_init_129 (by decide) ?_
  refine g_newa (ty := .int) (t0 := 0) (N := 8) (nc' := 16) (ns' := 53426) (a0 := (8, .inl (fun _ => 0))) (ws' := fun q_92 => [(m, .inr (11, [.ref q_77, .int 0, .ref q_78, .ref q_79, .int 0, .ref q_80, .ref q_81, .ref q_82, .ref q_83, .int 0, .int 0, .ref q_84, .ref q_85, .ref q_86, .int 0, .int 0, .ref q_87, .ref q_88, .ref q_89, .ref q_90, .ref q_91, .null, .null, .null, .null, .int 0, .int 0, .long 0, .long 0, .long 0, .null, .int 0, .int 0, .int 0, .null, .int 0, .int 0, .int 0, .int 0, .int 0, .int 0, .null, .int 0, .null, .null, .null, .null, .null, .null, .null])), (q_77, .inl (E.2.2.1 0, 1200, .inl (fun _ => 0))), (q_78, .inl (E.2.2.1 0, 8, .inl (fun _ => 0))), (q_79, .inl (E.2.2.1 0, 8, .inl (fun _ => 0))), (q_80, .inl (E.2.2.1 1, 12000, .inl (fun _ => 0))), (q_81, .inl (E.2.2.1 0, 2, .inl (fun _ => 0))), (q_82, .inl (E.2.2.1 1, 20000, .inl (fun _ => 0))), (q_83, .inl (E.2.2.1 1, 20000, .inl (fun _ => 0))), (q_84, .inl (E.2.2.1 0, 10, .inl (fun _ => 0))), (q_85, .inl (E.2.2.1 0, 16, .inl (fun _ => 0))), (q_86, .inl (E.2.2.1 3, 6, .inr (.inl (fun _ => 0)))), (q_87, .inl (E.2.2.1 0, 8, .inl (fun _ => 0))), (q_88, .inl (E.2.2.1 0, 8, .inl (fun _ => 0))), (q_89, .inl (E.2.2.1 0, 16, .inl (fun _ => 0))), (q_90, .inl (E.2.2.1 0, 128, .inl (fun _ => 0))), (q_91, .inl (E.2.2.1 0, 8, .inl (fun _ => 0))), (q_92, .inl (E.2.2.1 0, 8, .inl (fun _ => 0)))]) B w_ac_int rfl rfl rfl (fun _ => rfl) (by decide) (by decide) (by decide) rfl rfl (by decide) (by decide) (fun _ => rfl) dX11_init_131 (fun q_92 => ?_)
  refine g_putF (ws' := [(m, .inr (11, [.ref q_77, .int 0, .ref q_78, .ref q_79, .int 0, .ref q_80, .ref q_81, .ref q_82, .ref q_83, .int 0, .int 0, .ref q_84, .ref q_85, .ref q_86, .int 0, .int 0, .ref q_87, .ref q_88, .ref q_89, .ref q_90, .ref q_91, .ref q_92, .null, .null, .null, .int 0, .int 0, .long 0, .long 0, .long 0, .null, .int 0, .int 0, .int 0, .null, .int 0, .int 0, .int 0, .int 0, .int 0, .int 0, .null, .int 0, .null, .null, .null, .null, .null, .null, .null])), (q_77, .inl (E.2.2.1 0, 1200, .inl (fun _ => 0))), (q_78, .inl (E.2.2.1 0, 8, .inl (fun _ => 0))), (q_79, .inl (E.2.2.1 0, 8, .inl (fun _ => 0))), (q_80, .inl (E.2.2.1 1, 12000, .inl (fun _ => 0))), (q_81, .inl (E.2.2.1 0, 2, .inl (fun _ => 0))), (q_82, .inl (E.2.2.1 1, 20000, .inl (fun _ => 0))), (q_83, .inl (E.2.2.1 1, 20000, .inl (fun _ => 0))), (q_84, .inl (E.2.2.1 0, 10, .inl (fun _ => 0))), (q_85, .inl (E.2.2.1 0, 16, .inl (fun _ => 0))), (q_86, .inl (E.2.2.1 3, 6, .inr (.inl (fun _ => 0)))), (q_87, .inl (E.2.2.1 0, 8, .inl (fun _ => 0))), (q_88, .inl (E.2.2.1 0, 8, .inl (fun _ => 0))), (q_89, .inl (E.2.2.1 0, 16, .inl (fun _ => 0))), (q_90, .inl (E.2.2.1 0, 128, .inl (fun _ => 0))), (q_91, .inl (E.2.2.1 0, 8, .inl (fun _ => 0))), (q_92, .inl (E.2.2.1 0, 8, .inl (fun _ => 0)))]) B hI 0 21 fl_X11_57 pf_X11_21 (fun q h => by cases h; rfl) rfl (Nat.le_of_ble_eq_true rfl) rfl rfl rfl dX11_init_133 ?_
  refine g_aload_n B dX11_init_136 rfl 0 rfl ?_
  refine g_bipush (v := 16) B dX11_init_137 (by decide) ?_
  refine g_newa (ty := .int) (t0 := 0) (N := 16) (nc' := 17) (ns' := 53442) (a0 := (16, .inl (fun _ => 0))) (ws' := fun q_93 => [(m, .inr (11, [.ref q_77, .int 0, .ref q_78, .ref q_79, .int 0, .ref q_80, .ref q_81, .ref q_82, .ref q_83, .int 0, .int 0, .ref q_84, .ref q_85, .ref q_86, .int 0, .int 0, .ref q_87, .ref q_88, .ref q_89, .ref q_90, .ref q_91, .ref q_92, .null, .null, .null, .int 0, .int 0, .long 0, .long 0, .long 0, .null, .int 0, .int 0, .int 0, .null, .int 0, .int 0, .int 0, .int 0, .int 0, .int 0, .null, .int 0, .null, .null, .null, .null, .null, .null, .null])), (q_77, .inl (E.2.2.1 0, 1200, .inl (fun _ => 0))), (q_78, .inl (E.2.2.1 0, 8, .inl (fun _ => 0))), (q_79, .inl (E.2.2.1 0, 8, .inl (fun _ => 0))), (q_80, .inl (E.2.2.1 1, 12000, .inl (fun _ => 0))), (q_81, .inl (E.2.2.1 0, 2, .inl (fun _ => 0))), (q_82, .inl (E.2.2.1 1, 20000, .inl (fun _ => 0))), (q_83, .inl (E.2.2.1 1, 20000, .inl (fun _ => 0))), (q_84, .inl (E.2.2.1 0, 10, .inl (fun _ => 0))), (q_85, .inl (E.2.2.1 0, 16, .inl (fun _ => 0))), (q_86, .inl (E.2.2.1 3, 6, .inr (.inl (fun _ => 0)))), (q_87, .inl (E.2.2.1 0, 8, .inl (fun _ => 0))), (q_88, .inl (E.2.2.1 0, 8, .inl (fun _ => 0))), (q_89, .inl (E.2.2.1 0, 16, .inl (fun _ => 0))), (q_90, .inl (E.2.2.1 0, 128, .inl (fun _ => 0))), (q_91, .inl (E.2.2.1 0, 8, .inl (fun _ => 0))), (q_92, .inl (E.2.2.1 0, 8, .inl (fun _ => 0))), (q_93, .inl (E.2.2.1 0, 16, .inl (fun _ => 0)))]) B w_ac_int rfl rfl rfl (fun _ => rfl) (by decide) (by decide) (by decide) rfl rfl (by decide) (by decide) (fun _ => rfl) dX11_init_139 (fun q_93 => ?_)
  refine g_putF (ws' := [(m, .inr (11, [.ref q_77, .int 0, .ref q_78, .ref q_79, .int 0, .ref q_80, .ref q_81, .ref q_82, .ref q_83, .int 0, .int 0, .ref q_84, .ref q_85, .ref q_86, .int 0, .int 0, .ref q_87, .ref q_88, .ref q_89, .ref q_90, .ref q_91, .ref q_92, .ref q_93, .null, .null, .int 0, .int 0, .long 0, .long 0, .long 0, .null, .int 0, .int 0, .int 0, .null, .int 0, .int 0, .int 0, .int 0, .int 0, .int 0, .null, .int 0, .null, .null, .null, .null, .null, .null, .null])), (q_77, .inl (E.2.2.1 0, 1200, .inl (fun _ => 0))), (q_78, .inl (E.2.2.1 0, 8, .inl (fun _ => 0))), (q_79, .inl (E.2.2.1 0, 8, .inl (fun _ => 0))), (q_80, .inl (E.2.2.1 1, 12000, .inl (fun _ => 0))), (q_81, .inl (E.2.2.1 0, 2, .inl (fun _ => 0))), (q_82, .inl (E.2.2.1 1, 20000, .inl (fun _ => 0))), (q_83, .inl (E.2.2.1 1, 20000, .inl (fun _ => 0))), (q_84, .inl (E.2.2.1 0, 10, .inl (fun _ => 0))), (q_85, .inl (E.2.2.1 0, 16, .inl (fun _ => 0))), (q_86, .inl (E.2.2.1 3, 6, .inr (.inl (fun _ => 0)))), (q_87, .inl (E.2.2.1 0, 8, .inl (fun _ => 0))), (q_88, .inl (E.2.2.1 0, 8, .inl (fun _ => 0))), (q_89, .inl (E.2.2.1 0, 16, .inl (fun _ => 0))), (q_90, .inl (E.2.2.1 0, 128, .inl (fun _ => 0))), (q_91, .inl (E.2.2.1 0, 8, .inl (fun _ => 0))), (q_92, .inl (E.2.2.1 0, 8, .inl (fun _ => 0))), (q_93, .inl (E.2.2.1 0, 16, .inl (fun _ => 0)))]) B hI 0 22 fl_X11_60 pf_X11_22 (fun q h => by cases h; rfl) rfl (Nat.le_of_ble_eq_true rfl) rfl rfl rfl dX11_init_141 ?_
  refine g_aload_n B dX11_init_144 rfl 0 rfl ?_
  refine g_sipush (v := 128) B dX11_init_145 (by decide) ?_
  refine g_newa (ty := .int) (t0 := 0) (N := 128) (nc' := 18) (ns' := 53570) (a0 := (128, .inl (fun _ => 0))) (ws' := fun q_94 => [(m, .inr (11, [.ref q_77, .int 0, .ref q_78, .ref q_79, .int 0, .ref q_80, .ref q_81, .ref q_82, .ref q_83, .int 0, .int 0, .ref q_84, .ref q_85, .ref q_86, .int 0, .int 0, .ref q_87, .ref q_88, .ref q_89, .ref q_90, .ref q_91, .ref q_92, .ref q_93, .null, .null, .int 0, .int 0, .long 0, .long 0, .long 0, .null, .int 0, .int 0, .int 0, .null, .int 0, .int 0, .int 0, .int 0, .int 0, .int 0, .null, .int 0, .null, .null, .null, .null, .null, .null, .null])), (q_77, .inl (E.2.2.1 0, 1200, .inl (fun _ => 0))), (q_78, .inl (E.2.2.1 0, 8, .inl (fun _ => 0))), (q_79, .inl (E.2.2.1 0, 8, .inl (fun _ => 0))), (q_80, .inl (E.2.2.1 1, 12000, .inl (fun _ => 0))), (q_81, .inl (E.2.2.1 0, 2, .inl (fun _ => 0))), (q_82, .inl (E.2.2.1 1, 20000, .inl (fun _ => 0))), (q_83, .inl (E.2.2.1 1, 20000, .inl (fun _ => 0))), (q_84, .inl (E.2.2.1 0, 10, .inl (fun _ => 0))), (q_85, .inl (E.2.2.1 0, 16, .inl (fun _ => 0))), (q_86, .inl (E.2.2.1 3, 6, .inr (.inl (fun _ => 0)))), (q_87, .inl (E.2.2.1 0, 8, .inl (fun _ => 0))), (q_88, .inl (E.2.2.1 0, 8, .inl (fun _ => 0))), (q_89, .inl (E.2.2.1 0, 16, .inl (fun _ => 0))), (q_90, .inl (E.2.2.1 0, 128, .inl (fun _ => 0))), (q_91, .inl (E.2.2.1 0, 8, .inl (fun _ => 0))), (q_92, .inl (E.2.2.1 0, 8, .inl (fun _ => 0))), (q_93, .inl (E.2.2.1 0, 16, .inl (fun _ => 0))), (q_94, .inl (E.2.2.1 0, 128, .inl (fun _ => 0)))]) B w_ac_int rfl rfl rfl (fun _ => rfl) (by decide) (by decide) (by decide) rfl rfl (by decide) (by decide) (fun _ => rfl) dX11_init_148 (fun q_94 => ?_)
  refine g_putF (ws' := [(m, .inr (11, [.ref q_77, .int 0, .ref q_78, .ref q_79, .int 0, .ref q_80, .ref q_81, .ref q_82, .ref q_83, .int 0, .int 0, .ref q_84, .ref q_85, .ref q_86, .int 0, .int 0, .ref q_87, .ref q_88, .ref q_89, .ref q_90, .ref q_91, .ref q_92, .ref q_93, .ref q_94, .null, .int 0, .int 0, .long 0, .long 0, .long 0, .null, .int 0, .int 0, .int 0, .null, .int 0, .int 0, .int 0, .int 0, .int 0, .int 0, .null, .int 0, .null, .null, .null, .null, .null, .null, .null])), (q_77, .inl (E.2.2.1 0, 1200, .inl (fun _ => 0))), (q_78, .inl (E.2.2.1 0, 8, .inl (fun _ => 0))), (q_79, .inl (E.2.2.1 0, 8, .inl (fun _ => 0))), (q_80, .inl (E.2.2.1 1, 12000, .inl (fun _ => 0))), (q_81, .inl (E.2.2.1 0, 2, .inl (fun _ => 0))), (q_82, .inl (E.2.2.1 1, 20000, .inl (fun _ => 0))), (q_83, .inl (E.2.2.1 1, 20000, .inl (fun _ => 0))), (q_84, .inl (E.2.2.1 0, 10, .inl (fun _ => 0))), (q_85, .inl (E.2.2.1 0, 16, .inl (fun _ => 0))), (q_86, .inl (E.2.2.1 3, 6, .inr (.inl (fun _ => 0)))), (q_87, .inl (E.2.2.1 0, 8, .inl (fun _ => 0))), (q_88, .inl (E.2.2.1 0, 8, .inl (fun _ => 0))), (q_89, .inl (E.2.2.1 0, 16, .inl (fun _ => 0))), (q_90, .inl (E.2.2.1 0, 128, .inl (fun _ => 0))), (q_91, .inl (E.2.2.1 0, 8, .inl (fun _ => 0))), (q_92, .inl (E.2.2.1 0, 8, .inl (fun _ => 0))), (q_93, .inl (E.2.2.1 0, 16, .inl (fun _ => 0))), (q_94, .inl (E.2.2.1 0, 128, .inl (fun _ => 0)))]) B hI 0 23 fl_X11_63 pf_X11_23 (fun q h => by cases h; rfl) rfl (Nat.le_of_ble_eq_true rfl) rfl rfl rfl dX11_init_150 ?_
  refine g_aload_n B dX11_init_153 rfl 0 rfl ?_
  refine g_bipush (v := 6) B dX11_init_154 (by decide) ?_
  refine g_newa (ty := .long) (t0 := 3) (N := 6) (nc' := 19) (ns' := 53576) (a0 := (6, .inr (.inl (fun _ => 0)))) (ws' := fun q_95 => [(m, .inr (11, [.ref q_77, .int 0, .ref q_78, .ref q_79, .int 0, .ref q_80, .ref q_81, .ref q_82, .ref q_83, .int 0, .int 0, .ref q_84, .ref q_85, .ref q_86, .int 0, .int 0, .ref q_87, .ref q_88, .ref q_89, .ref q_90, .ref q_91, .ref q_92, .ref q_93, .ref q_94, .null, .int 0, .int 0, .long 0, .long 0, .long 0, .null, .int 0, .int 0, .int 0, .null, .int 0, .int 0, .int 0, .int 0, .int 0, .int 0, .null, .int 0, .null, .null, .null, .null, .null, .null, .null])), (q_77, .inl (E.2.2.1 0, 1200, .inl (fun _ => 0))), (q_78, .inl (E.2.2.1 0, 8, .inl (fun _ => 0))), (q_79, .inl (E.2.2.1 0, 8, .inl (fun _ => 0))), (q_80, .inl (E.2.2.1 1, 12000, .inl (fun _ => 0))), (q_81, .inl (E.2.2.1 0, 2, .inl (fun _ => 0))), (q_82, .inl (E.2.2.1 1, 20000, .inl (fun _ => 0))), (q_83, .inl (E.2.2.1 1, 20000, .inl (fun _ => 0))), (q_84, .inl (E.2.2.1 0, 10, .inl (fun _ => 0))), (q_85, .inl (E.2.2.1 0, 16, .inl (fun _ => 0))), (q_86, .inl (E.2.2.1 3, 6, .inr (.inl (fun _ => 0)))), (q_87, .inl (E.2.2.1 0, 8, .inl (fun _ => 0))), (q_88, .inl (E.2.2.1 0, 8, .inl (fun _ => 0))), (q_89, .inl (E.2.2.1 0, 16, .inl (fun _ => 0))), (q_90, .inl (E.2.2.1 0, 128, .inl (fun _ => 0))), (q_91, .inl (E.2.2.1 0, 8, .inl (fun _ => 0))), (q_92, .inl (E.2.2.1 0, 8, .inl (fun _ => 0))), (q_93, .inl (E.2.2.1 0, 16, .inl (fun _ => 0))), (q_94, .inl (E.2.2.1 0, 128, .inl (fun _ => 0))), (q_95, .inl (E.2.2.1 3, 6, .inr (.inl (fun _ => 0))))]) B w_ac_long rfl rfl rfl (fun _ => rfl) (by decide) (by decide) (by decide) rfl rfl (by decide) (by decide) (fun _ => rfl) dX11_init_156 (fun q_95 => ?_)
  refine g_putF (ws' := [(m, .inr (11, [.ref q_77, .int 0, .ref q_78, .ref q_79, .int 0, .ref q_80, .ref q_81, .ref q_82, .ref q_83, .int 0, .int 0, .ref q_84, .ref q_85, .ref q_86, .int 0, .int 0, .ref q_87, .ref q_88, .ref q_89, .ref q_90, .ref q_91, .ref q_92, .ref q_93, .ref q_94, .ref q_95, .int 0, .int 0, .long 0, .long 0, .long 0, .null, .int 0, .int 0, .int 0, .null, .int 0, .int 0, .int 0, .int 0, .int 0, .int 0, .null, .int 0, .null, .null, .null, .null, .null, .null, .null])), (q_77, .inl (E.2.2.1 0, 1200, .inl (fun _ => 0))), (q_78, .inl (E.2.2.1 0, 8, .inl (fun _ => 0))), (q_79, .inl (E.2.2.1 0, 8, .inl (fun _ => 0))), (q_80, .inl (E.2.2.1 1, 12000, .inl (fun _ => 0))), (q_81, .inl (E.2.2.1 0, 2, .inl (fun _ => 0))), (q_82, .inl (E.2.2.1 1, 20000, .inl (fun _ => 0))), (q_83, .inl (E.2.2.1 1, 20000, .inl (fun _ => 0))), (q_84, .inl (E.2.2.1 0, 10, .inl (fun _ => 0))), (q_85, .inl (E.2.2.1 0, 16, .inl (fun _ => 0))), (q_86, .inl (E.2.2.1 3, 6, .inr (.inl (fun _ => 0)))), (q_87, .inl (E.2.2.1 0, 8, .inl (fun _ => 0))), (q_88, .inl (E.2.2.1 0, 8, .inl (fun _ => 0))), (q_89, .inl (E.2.2.1 0, 16, .inl (fun _ => 0))), (q_90, .inl (E.2.2.1 0, 128, .inl (fun _ => 0))), (q_91, .inl (E.2.2.1 0, 8, .inl (fun _ => 0))), (q_92, .inl (E.2.2.1 0, 8, .inl (fun _ => 0))), (q_93, .inl (E.2.2.1 0, 16, .inl (fun _ => 0))), (q_94, .inl (E.2.2.1 0, 128, .inl (fun _ => 0))), (q_95, .inl (E.2.2.1 3, 6, .inr (.inl (fun _ => 0))))]) B hI 0 24 fl_X11_66 pf_X11_24 (fun q h => by cases h; rfl) rfl (Nat.le_of_ble_eq_true rfl) rfl rfl rfl dX11_init_158 ?_
  refine g_aload_n B dX11_init_161 rfl 0 rfl ?_
  refine g_ldc (v := 160000) B w_k_X11_69 dX11_init_162 ?_
  refine g_newa (ty := .byte) (t0 := 1) (N := 160000) (nc' := 20) (ns' := 213576) (a0 := (160000, .inl (fun _ => 0))) (ws' := fun q_96 => [(m, .inr (11, [.ref q_77, .int 0, .ref q_78, .ref q_79, .int 0, .ref q_80, .ref q_81, .ref q_82, .ref q_83, .int 0, .int 0, .ref q_84, .ref q_85, .ref q_86, .int 0, .int 0, .ref q_87, .ref q_88, .ref q_89, .ref q_90, .ref q_91, .ref q_92, .ref q_93, .ref q_94, .ref q_95, .int 0, .int 0, .long 0, .long 0, .long 0, .null, .int 0, .int 0, .int 0, .null, .int 0, .int 0, .int 0, .int 0, .int 0, .int 0, .null, .int 0, .null, .null, .null, .null, .null, .null, .null])), (q_77, .inl (E.2.2.1 0, 1200, .inl (fun _ => 0))), (q_78, .inl (E.2.2.1 0, 8, .inl (fun _ => 0))), (q_79, .inl (E.2.2.1 0, 8, .inl (fun _ => 0))), (q_80, .inl (E.2.2.1 1, 12000, .inl (fun _ => 0))), (q_81, .inl (E.2.2.1 0, 2, .inl (fun _ => 0))), (q_82, .inl (E.2.2.1 1, 20000, .inl (fun _ => 0))), (q_83, .inl (E.2.2.1 1, 20000, .inl (fun _ => 0))), (q_84, .inl (E.2.2.1 0, 10, .inl (fun _ => 0))), (q_85, .inl (E.2.2.1 0, 16, .inl (fun _ => 0))), (q_86, .inl (E.2.2.1 3, 6, .inr (.inl (fun _ => 0)))), (q_87, .inl (E.2.2.1 0, 8, .inl (fun _ => 0))), (q_88, .inl (E.2.2.1 0, 8, .inl (fun _ => 0))), (q_89, .inl (E.2.2.1 0, 16, .inl (fun _ => 0))), (q_90, .inl (E.2.2.1 0, 128, .inl (fun _ => 0))), (q_91, .inl (E.2.2.1 0, 8, .inl (fun _ => 0))), (q_92, .inl (E.2.2.1 0, 8, .inl (fun _ => 0))), (q_93, .inl (E.2.2.1 0, 16, .inl (fun _ => 0))), (q_94, .inl (E.2.2.1 0, 128, .inl (fun _ => 0))), (q_95, .inl (E.2.2.1 3, 6, .inr (.inl (fun _ => 0)))), (q_96, .inl (E.2.2.1 1, 160000, .inl (fun _ => 0)))]) B w_ac_byte rfl rfl rfl (fun _ => rfl) (by decide) (by decide) (by decide) rfl rfl (by decide) (by decide) (fun _ => rfl) dX11_init_164 (fun q_96 => ?_)
  refine g_putF (ws' := [(m, .inr (11, [.ref q_77, .int 0, .ref q_78, .ref q_79, .int 0, .ref q_80, .ref q_81, .ref q_82, .ref q_83, .int 0, .int 0, .ref q_84, .ref q_85, .ref q_86, .int 0, .int 0, .ref q_87, .ref q_88, .ref q_89, .ref q_90, .ref q_91, .ref q_92, .ref q_93, .ref q_94, .ref q_95, .int 0, .int 0, .long 0, .long 0, .long 0, .ref q_96, .int 0, .int 0, .int 0, .null, .int 0, .int 0, .int 0, .int 0, .int 0, .int 0, .null, .int 0, .null, .null, .null, .null, .null, .null, .null])), (q_77, .inl (E.2.2.1 0, 1200, .inl (fun _ => 0))), (q_78, .inl (E.2.2.1 0, 8, .inl (fun _ => 0))), (q_79, .inl (E.2.2.1 0, 8, .inl (fun _ => 0))), (q_80, .inl (E.2.2.1 1, 12000, .inl (fun _ => 0))), (q_81, .inl (E.2.2.1 0, 2, .inl (fun _ => 0))), (q_82, .inl (E.2.2.1 1, 20000, .inl (fun _ => 0))), (q_83, .inl (E.2.2.1 1, 20000, .inl (fun _ => 0))), (q_84, .inl (E.2.2.1 0, 10, .inl (fun _ => 0))), (q_85, .inl (E.2.2.1 0, 16, .inl (fun _ => 0))), (q_86, .inl (E.2.2.1 3, 6, .inr (.inl (fun _ => 0)))), (q_87, .inl (E.2.2.1 0, 8, .inl (fun _ => 0))), (q_88, .inl (E.2.2.1 0, 8, .inl (fun _ => 0))), (q_89, .inl (E.2.2.1 0, 16, .inl (fun _ => 0))), (q_90, .inl (E.2.2.1 0, 128, .inl (fun _ => 0))), (q_91, .inl (E.2.2.1 0, 8, .inl (fun _ => 0))), (q_92, .inl (E.2.2.1 0, 8, .inl (fun _ => 0))), (q_93, .inl (E.2.2.1 0, 16, .inl (fun _ => 0))), (q_94, .inl (E.2.2.1 0, 128, .inl (fun _ => 0))), (q_95, .inl (E.2.2.1 3, 6, .inr (.inl (fun _ => 0)))), (q_96, .inl (E.2.2.1 1, 160000, .inl (fun _ => 0)))]) B hI 0 30 fl_X11_70 pf_X11_30 (fun q h => by cases h; rfl) rfl (Nat.le_of_ble_eq_true rfl) rfl rfl rfl dX11_init_166 ?_
  refine g_aload_n B dX11_init_169 rfl 0 rfl ?_
  refine g_ldc (v := 50000) B w_k_X11_73 dX11_init_170 ?_
  refine g_newa (ty := .byte) (t0 := 1) (N := 50000) (nc' := 21) (ns' := 263576) (a0 := (50000, .inl (fun _ => 0))) (ws' := fun q_97 => [(m, .inr (11, [.ref q_77, .int 0, .ref q_78, .ref q_79, .int 0, .ref q_80, .ref q_81, .ref q_82, .ref q_83, .int 0, .int 0, .ref q_84, .ref q_85, .ref q_86, .int 0, .int 0, .ref q_87, .ref q_88, .ref q_89, .ref q_90, .ref q_91, .ref q_92, .ref q_93, .ref q_94, .ref q_95, .int 0, .int 0, .long 0, .long 0, .long 0, .ref q_96, .int 0, .int 0, .int 0, .null, .int 0, .int 0, .int 0, .int 0, .int 0, .int 0, .null, .int 0, .null, .null, .null, .null, .null, .null, .null])), (q_77, .inl (E.2.2.1 0, 1200, .inl (fun _ => 0))), (q_78, .inl (E.2.2.1 0, 8, .inl (fun _ => 0))), (q_79, .inl (E.2.2.1 0, 8, .inl (fun _ => 0))), (q_80, .inl (E.2.2.1 1, 12000, .inl (fun _ => 0))), (q_81, .inl (E.2.2.1 0, 2, .inl (fun _ => 0))), (q_82, .inl (E.2.2.1 1, 20000, .inl (fun _ => 0))), (q_83, .inl (E.2.2.1 1, 20000, .inl (fun _ => 0))), (q_84, .inl (E.2.2.1 0, 10, .inl (fun _ => 0))), (q_85, .inl (E.2.2.1 0, 16, .inl (fun _ => 0))), (q_86, .inl (E.2.2.1 3, 6, .inr (.inl (fun _ => 0)))), (q_87, .inl (E.2.2.1 0, 8, .inl (fun _ => 0))), (q_88, .inl (E.2.2.1 0, 8, .inl (fun _ => 0))), (q_89, .inl (E.2.2.1 0, 16, .inl (fun _ => 0))), (q_90, .inl (E.2.2.1 0, 128, .inl (fun _ => 0))), (q_91, .inl (E.2.2.1 0, 8, .inl (fun _ => 0))), (q_92, .inl (E.2.2.1 0, 8, .inl (fun _ => 0))), (q_93, .inl (E.2.2.1 0, 16, .inl (fun _ => 0))), (q_94, .inl (E.2.2.1 0, 128, .inl (fun _ => 0))), (q_95, .inl (E.2.2.1 3, 6, .inr (.inl (fun _ => 0)))), (q_96, .inl (E.2.2.1 1, 160000, .inl (fun _ => 0))), (q_97, .inl (E.2.2.1 1, 50000, .inl (fun _ => 0)))]) B w_ac_byte rfl rfl rfl (fun _ => rfl) (by decide) (by decide) (by decide) rfl rfl (by decide) (by decide) (fun _ => rfl) dX11_init_172 (fun q_97 => ?_)
  refine g_putF (ws' := [(m, .inr (11, [.ref q_77, .int 0, .ref q_78, .ref q_79, .int 0, .ref q_80, .ref q_81, .ref q_82, .ref q_83, .int 0, .int 0, .ref q_84, .ref q_85, .ref q_86, .int 0, .int 0, .ref q_87, .ref q_88, .ref q_89, .ref q_90, .ref q_91, .ref q_92, .ref q_93, .ref q_94, .ref q_95, .int 0, .int 0, .long 0, .long 0, .long 0, .ref q_96, .int 0, .int 0, .int 0, .ref q_97, .int 0, .int 0, .int 0, .int 0, .int 0, .int 0, .null, .int 0, .null, .null, .null, .null, .null, .null, .null])), (q_77, .inl (E.2.2.1 0, 1200, .inl (fun _ => 0))), (q_78, .inl (E.2.2.1 0, 8, .inl (fun _ => 0))), (q_79, .inl (E.2.2.1 0, 8, .inl (fun _ => 0))), (q_80, .inl (E.2.2.1 1, 12000, .inl (fun _ => 0))), (q_81, .inl (E.2.2.1 0, 2, .inl (fun _ => 0))), (q_82, .inl (E.2.2.1 1, 20000, .inl (fun _ => 0))), (q_83, .inl (E.2.2.1 1, 20000, .inl (fun _ => 0))), (q_84, .inl (E.2.2.1 0, 10, .inl (fun _ => 0))), (q_85, .inl (E.2.2.1 0, 16, .inl (fun _ => 0))), (q_86, .inl (E.2.2.1 3, 6, .inr (.inl (fun _ => 0)))), (q_87, .inl (E.2.2.1 0, 8, .inl (fun _ => 0))), (q_88, .inl (E.2.2.1 0, 8, .inl (fun _ => 0))), (q_89, .inl (E.2.2.1 0, 16, .inl (fun _ => 0))), (q_90, .inl (E.2.2.1 0, 128, .inl (fun _ => 0))), (q_91, .inl (E.2.2.1 0, 8, .inl (fun _ => 0))), (q_92, .inl (E.2.2.1 0, 8, .inl (fun _ => 0))), (q_93, .inl (E.2.2.1 0, 16, .inl (fun _ => 0))), (q_94, .inl (E.2.2.1 0, 128, .inl (fun _ => 0))), (q_95, .inl (E.2.2.1 3, 6, .inr (.inl (fun _ => 0)))), (q_96, .inl (E.2.2.1 1, 160000, .inl (fun _ => 0))), (q_97, .inl (E.2.2.1 1, 50000, .inl (fun _ => 0)))]) B hI 0 34 fl_X11_74 pf_X11_34 (fun q h => by cases h; rfl) rfl (Nat.le_of_ble_eq_true rfl) rfl rfl rfl dX11_init_174 ?_
  refine g_aload_n B dX11_init_177 rfl 0 rfl ?_
  refine g_sipush (v := 1200) B dX11_init_178 (by decide) ?_
  refine g_newa (ty := .int) (t0 := 0) (N := 1200) (nc' := 22) (ns' := 264776) (a0 := (1200, .inl (fun _ => 0))) (ws' := fun q_98 => [(m, .inr (11, [.ref q_77, .int 0, .ref q_78, .ref q_79, .int 0, .ref q_80, .ref q_81, .ref q_82, .ref q_83, .int 0, .int 0, .ref q_84, .ref q_85, .ref q_86, .int 0, .int 0, .ref q_87, .ref q_88, .ref q_89, .ref q_90, .ref q_91, .ref q_92, .ref q_93, .ref q_94, .ref q_95, .int 0, .int 0, .long 0, .long 0, .long 0, .ref q_96, .int 0, .int 0, .int 0, .ref q_97, .int 0, .int 0, .int 0, .int 0, .int 0, .int 0, .null, .int 0, .null, .null, .null, .null, .null, .null, .null])), (q_77, .inl (E.2.2.1 0, 1200, .inl (fun _ => 0))), (q_78, .inl (E.2.2.1 0, 8, .inl (fun _ => 0))), (q_79, .inl (E.2.2.1 0, 8, .inl (fun _ => 0))), (q_80, .inl (E.2.2.1 1, 12000, .inl (fun _ => 0))), (q_81, .inl (E.2.2.1 0, 2, .inl (fun _ => 0))), (q_82, .inl (E.2.2.1 1, 20000, .inl (fun _ => 0))), (q_83, .inl (E.2.2.1 1, 20000, .inl (fun _ => 0))), (q_84, .inl (E.2.2.1 0, 10, .inl (fun _ => 0))), (q_85, .inl (E.2.2.1 0, 16, .inl (fun _ => 0))), (q_86, .inl (E.2.2.1 3, 6, .inr (.inl (fun _ => 0)))), (q_87, .inl (E.2.2.1 0, 8, .inl (fun _ => 0))), (q_88, .inl (E.2.2.1 0, 8, .inl (fun _ => 0))), (q_89, .inl (E.2.2.1 0, 16, .inl (fun _ => 0))), (q_90, .inl (E.2.2.1 0, 128, .inl (fun _ => 0))), (q_91, .inl (E.2.2.1 0, 8, .inl (fun _ => 0))), (q_92, .inl (E.2.2.1 0, 8, .inl (fun _ => 0))), (q_93, .inl (E.2.2.1 0, 16, .inl (fun _ => 0))), (q_94, .inl (E.2.2.1 0, 128, .inl (fun _ => 0))), (q_95, .inl (E.2.2.1 3, 6, .inr (.inl (fun _ => 0)))), (q_96, .inl (E.2.2.1 1, 160000, .inl (fun _ => 0))), (q_97, .inl (E.2.2.1 1, 50000, .inl (fun _ => 0))), (q_98, .inl (E.2.2.1 0, 1200, .inl (fun _ => 0)))]) B w_ac_int rfl rfl rfl (fun _ => rfl) (by decide) (by decide) (by decide) rfl rfl (by decide) (by decide) (fun _ => rfl) dX11_init_181 (fun q_98 => ?_)
  refine g_putF (ws' := [(m, .inr (11, [.ref q_77, .int 0, .ref q_78, .ref q_79, .int 0, .ref q_80, .ref q_81, .ref q_82, .ref q_83, .int 0, .int 0, .ref q_84, .ref q_85, .ref q_86, .int 0, .int 0, .ref q_87, .ref q_88, .ref q_89, .ref q_90, .ref q_91, .ref q_92, .ref q_93, .ref q_94, .ref q_95, .int 0, .int 0, .long 0, .long 0, .long 0, .ref q_96, .int 0, .int 0, .int 0, .ref q_97, .int 0, .int 0, .int 0, .int 0, .int 0, .int 0, .ref q_98, .int 0, .null, .null, .null, .null, .null, .null, .null])), (q_77, .inl (E.2.2.1 0, 1200, .inl (fun _ => 0))), (q_78, .inl (E.2.2.1 0, 8, .inl (fun _ => 0))), (q_79, .inl (E.2.2.1 0, 8, .inl (fun _ => 0))), (q_80, .inl (E.2.2.1 1, 12000, .inl (fun _ => 0))), (q_81, .inl (E.2.2.1 0, 2, .inl (fun _ => 0))), (q_82, .inl (E.2.2.1 1, 20000, .inl (fun _ => 0))), (q_83, .inl (E.2.2.1 1, 20000, .inl (fun _ => 0))), (q_84, .inl (E.2.2.1 0, 10, .inl (fun _ => 0))), (q_85, .inl (E.2.2.1 0, 16, .inl (fun _ => 0))), (q_86, .inl (E.2.2.1 3, 6, .inr (.inl (fun _ => 0)))), (q_87, .inl (E.2.2.1 0, 8, .inl (fun _ => 0))), (q_88, .inl (E.2.2.1 0, 8, .inl (fun _ => 0))), (q_89, .inl (E.2.2.1 0, 16, .inl (fun _ => 0))), (q_90, .inl (E.2.2.1 0, 128, .inl (fun _ => 0))), (q_91, .inl (E.2.2.1 0, 8, .inl (fun _ => 0))), (q_92, .inl (E.2.2.1 0, 8, .inl (fun _ => 0))), (q_93, .inl (E.2.2.1 0, 16, .inl (fun _ => 0))), (q_94, .inl (E.2.2.1 0, 128, .inl (fun _ => 0))), (q_95, .inl (E.2.2.1 3, 6, .inr (.inl (fun _ => 0)))), (q_96, .inl (E.2.2.1 1, 160000, .inl (fun _ => 0))), (q_97, .inl (E.2.2.1 1, 50000, .inl (fun _ => 0))), (q_98, .inl (E.2.2.1 0, 1200, .inl (fun _ => 0)))]) B hI 0 41 fl_X11_77 pf_X11_41 (fun q h => by cases h; rfl) rfl (Nat.le_of_ble_eq_true rfl) rfl rfl rfl dX11_init_183 ?_
  refine g_aload_n B dX11_init_186 rfl 0 rfl ?_
  refine g_sipush (v := 6000) B dX11_init_187 (by decide) ?_
  refine g_newa (ty := .byte) (t0 := 1) (N := 6000) (nc' := 23) (ns' := 270776) (a0 := (6000, .inl (fun _ => 0))) (ws' := fun q_99 => [(m, .inr (11, [.ref q_77, .int 0, .ref q_78, .ref q_79, .int 0, .ref q_80, .ref q_81, .ref q_82, .ref q_83, .int 0, .int 0, .ref q_84, .ref q_85, .ref q_86, .int 0, .int 0, .ref q_87, .ref q_88, .ref q_89, .ref q_90, .ref q_91, .ref q_92, .ref q_93, .ref q_94, .ref q_95, .int 0, .int 0, .long 0, .long 0, .long 0, .ref q_96, .int 0, .int 0, .int 0, .ref q_97, .int 0, .int 0, .int 0, .int 0, .int 0, .int 0, .ref q_98, .int 0, .null, .null, .null, .null, .null, .null, .null])), (q_77, .inl (E.2.2.1 0, 1200, .inl (fun _ => 0))), (q_78, .inl (E.2.2.1 0, 8, .inl (fun _ => 0))), (q_79, .inl (E.2.2.1 0, 8, .inl (fun _ => 0))), (q_80, .inl (E.2.2.1 1, 12000, .inl (fun _ => 0))), (q_81, .inl (E.2.2.1 0, 2, .inl (fun _ => 0))), (q_82, .inl (E.2.2.1 1, 20000, .inl (fun _ => 0))), (q_83, .inl (E.2.2.1 1, 20000, .inl (fun _ => 0))), (q_84, .inl (E.2.2.1 0, 10, .inl (fun _ => 0))), (q_85, .inl (E.2.2.1 0, 16, .inl (fun _ => 0))), (q_86, .inl (E.2.2.1 3, 6, .inr (.inl (fun _ => 0)))), (q_87, .inl (E.2.2.1 0, 8, .inl (fun _ => 0))), (q_88, .inl (E.2.2.1 0, 8, .inl (fun _ => 0))), (q_89, .inl (E.2.2.1 0, 16, .inl (fun _ => 0))), (q_90, .inl (E.2.2.1 0, 128, .inl (fun _ => 0))), (q_91, .inl (E.2.2.1 0, 8, .inl (fun _ => 0))), (q_92, .inl (E.2.2.1 0, 8, .inl (fun _ => 0))), (q_93, .inl (E.2.2.1 0, 16, .inl (fun _ => 0))), (q_94, .inl (E.2.2.1 0, 128, .inl (fun _ => 0))), (q_95, .inl (E.2.2.1 3, 6, .inr (.inl (fun _ => 0)))), (q_96, .inl (E.2.2.1 1, 160000, .inl (fun _ => 0))), (q_97, .inl (E.2.2.1 1, 50000, .inl (fun _ => 0))), (q_98, .inl (E.2.2.1 0, 1200, .inl (fun _ => 0))), (q_99, .inl (E.2.2.1 1, 6000, .inl (fun _ => 0)))]) B w_ac_byte rfl rfl rfl (fun _ => rfl) (by decide) (by decide) (by decide) rfl rfl (by decide) (by decide) (fun _ => rfl) dX11_init_190 (fun q_99 => ?_)
  refine g_putF (ws' := [(m, .inr (11, [.ref q_77, .int 0, .ref q_78, .ref q_79, .int 0, .ref q_80, .ref q_81, .ref q_82, .ref q_83, .int 0, .int 0, .ref q_84, .ref q_85, .ref q_86, .int 0, .int 0, .ref q_87, .ref q_88, .ref q_89, .ref q_90, .ref q_91, .ref q_92, .ref q_93, .ref q_94, .ref q_95, .int 0, .int 0, .long 0, .long 0, .long 0, .ref q_96, .int 0, .int 0, .int 0, .ref q_97, .int 0, .int 0, .int 0, .int 0, .int 0, .int 0, .ref q_98, .int 0, .ref q_99, .null, .null, .null, .null, .null, .null])), (q_77, .inl (E.2.2.1 0, 1200, .inl (fun _ => 0))), (q_78, .inl (E.2.2.1 0, 8, .inl (fun _ => 0))), (q_79, .inl (E.2.2.1 0, 8, .inl (fun _ => 0))), (q_80, .inl (E.2.2.1 1, 12000, .inl (fun _ => 0))), (q_81, .inl (E.2.2.1 0, 2, .inl (fun _ => 0))), (q_82, .inl (E.2.2.1 1, 20000, .inl (fun _ => 0))), (q_83, .inl (E.2.2.1 1, 20000, .inl (fun _ => 0))), (q_84, .inl (E.2.2.1 0, 10, .inl (fun _ => 0))), (q_85, .inl (E.2.2.1 0, 16, .inl (fun _ => 0))), (q_86, .inl (E.2.2.1 3, 6, .inr (.inl (fun _ => 0)))), (q_87, .inl (E.2.2.1 0, 8, .inl (fun _ => 0))), (q_88, .inl (E.2.2.1 0, 8, .inl (fun _ => 0))), (q_89, .inl (E.2.2.1 0, 16, .inl (fun _ => 0))), (q_90, .inl (E.2.2.1 0, 128, .inl (fun _ => 0))), (q_91, .inl (E.2.2.1 0, 8, .inl (fun _ => 0))), (q_92, .inl (E.2.2.1 0, 8, .inl (fun _ => 0))), (q_93, .inl (E.2.2.1 0, 16, .inl (fun _ => 0))), (q_94, .inl (E.2.2.1 0, 128, .inl (fun _ => 0))), (q_95, .inl (E.2.2.1 3, 6, .inr (.inl (fun _ => 0)))), (q_96, .inl (E.2.2.1 1, 160000, .inl (fun _ => 0))), (q_97, .inl (E.2.2.1 1, 50000, .inl (fun _ => 0))), (q_98, .inl (E.2.2.1 0, 1200, .inl (fun _ => 0))), (q_99, .inl (E.2.2.1 1, 6000, .inl (fun _ => 0)))]) B hI 0 43 fl_X11_80 pf_X11_43 (fun q h => by cases h; rfl) rfl (Nat.le_of_ble_eq_true rfl) rfl rfl rfl dX11_init_192 ?_
  refine g_aload_n B dX11_init_195 rfl 0 rfl ?_
  refine g_sipush (v := 1200) B dX11_init_196 (by decide) ?_
  refine g_newa (ty := .long) (t0 := 3) (N := 1200) (nc' := 24) (ns' := 271976) (a0 := (1200, .inr (.inl (fun _ => 0)))) (ws' := fun q_100 => [(m, .inr (11, [.ref q_77, .int 0, .ref q_78, .ref q_79, .int 0, .ref q_80, .ref q_81, .ref q_82, .ref q_83, .int 0, .int 0, .ref q_84, .ref q_85, .ref q_86, .int 0, .int 0, .ref q_87, .ref q_88, .ref q_89, .ref q_90, .ref q_91, .ref q_92, .ref q_93, .ref q_94, .ref q_95, .int 0, .int 0, .long 0, .long 0, .long 0, .ref q_96, .int 0, .int 0, .int 0, .ref q_97, .int 0, .int 0, .int 0, .int 0, .int 0, .int 0, .ref q_98, .int 0, .ref q_99, .null, .null, .null, .null, .null, .null])), (q_77, .inl (E.2.2.1 0, 1200, .inl (fun _ => 0))), (q_78, .inl (E.2.2.1 0, 8, .inl (fun _ => 0))), (q_79, .inl (E.2.2.1 0, 8, .inl (fun _ => 0))), (q_80, .inl (E.2.2.1 1, 12000, .inl (fun _ => 0))), (q_81, .inl (E.2.2.1 0, 2, .inl (fun _ => 0))), (q_82, .inl (E.2.2.1 1, 20000, .inl (fun _ => 0))), (q_83, .inl (E.2.2.1 1, 20000, .inl (fun _ => 0))), (q_84, .inl (E.2.2.1 0, 10, .inl (fun _ => 0))), (q_85, .inl (E.2.2.1 0, 16, .inl (fun _ => 0))), (q_86, .inl (E.2.2.1 3, 6, .inr (.inl (fun _ => 0)))), (q_87, .inl (E.2.2.1 0, 8, .inl (fun _ => 0))), (q_88, .inl (E.2.2.1 0, 8, .inl (fun _ => 0))), (q_89, .inl (E.2.2.1 0, 16, .inl (fun _ => 0))), (q_90, .inl (E.2.2.1 0, 128, .inl (fun _ => 0))), (q_91, .inl (E.2.2.1 0, 8, .inl (fun _ => 0))), (q_92, .inl (E.2.2.1 0, 8, .inl (fun _ => 0))), (q_93, .inl (E.2.2.1 0, 16, .inl (fun _ => 0))), (q_94, .inl (E.2.2.1 0, 128, .inl (fun _ => 0))), (q_95, .inl (E.2.2.1 3, 6, .inr (.inl (fun _ => 0)))), (q_96, .inl (E.2.2.1 1, 160000, .inl (fun _ => 0))), (q_97, .inl (E.2.2.1 1, 50000, .inl (fun _ => 0))), (q_98, .inl (E.2.2.1 0, 1200, .inl (fun _ => 0))), (q_99, .inl (E.2.2.1 1, 6000, .inl (fun _ => 0))), (q_100, .inl (E.2.2.1 3, 1200, .inr (.inl (fun _ => 0))))]) B w_ac_long rfl rfl rfl (fun _ => rfl) (by decide) (by decide) (by decide) rfl rfl (by decide) (by decide) (fun _ => rfl) dX11_init_199 (fun q_100 => ?_)
  refine g_putF (ws' := [(m, .inr (11, [.ref q_77, .int 0, .ref q_78, .ref q_79, .int 0, .ref q_80, .ref q_81, .ref q_82, .ref q_83, .int 0, .int 0, .ref q_84, .ref q_85, .ref q_86, .int 0, .int 0, .ref q_87, .ref q_88, .ref q_89, .ref q_90, .ref q_91, .ref q_92, .ref q_93, .ref q_94, .ref q_95, .int 0, .int 0, .long 0, .long 0, .long 0, .ref q_96, .int 0, .int 0, .int 0, .ref q_97, .int 0, .int 0, .int 0, .int 0, .int 0, .int 0, .ref q_98, .int 0, .ref q_99, .ref q_100, .null, .null, .null, .null, .null])), (q_77, .inl (E.2.2.1 0, 1200, .inl (fun _ => 0))), (q_78, .inl (E.2.2.1 0, 8, .inl (fun _ => 0))), (q_79, .inl (E.2.2.1 0, 8, .inl (fun _ => 0))), (q_80, .inl (E.2.2.1 1, 12000, .inl (fun _ => 0))), (q_81, .inl (E.2.2.1 0, 2, .inl (fun _ => 0))), (q_82, .inl (E.2.2.1 1, 20000, .inl (fun _ => 0))), (q_83, .inl (E.2.2.1 1, 20000, .inl (fun _ => 0))), (q_84, .inl (E.2.2.1 0, 10, .inl (fun _ => 0))), (q_85, .inl (E.2.2.1 0, 16, .inl (fun _ => 0))), (q_86, .inl (E.2.2.1 3, 6, .inr (.inl (fun _ => 0)))), (q_87, .inl (E.2.2.1 0, 8, .inl (fun _ => 0))), (q_88, .inl (E.2.2.1 0, 8, .inl (fun _ => 0))), (q_89, .inl (E.2.2.1 0, 16, .inl (fun _ => 0))), (q_90, .inl (E.2.2.1 0, 128, .inl (fun _ => 0))), (q_91, .inl (E.2.2.1 0, 8, .inl (fun _ => 0))), (q_92, .inl (E.2.2.1 0, 8, .inl (fun _ => 0))), (q_93, .inl (E.2.2.1 0, 16, .inl (fun _ => 0))), (q_94, .inl (E.2.2.1 0, 128, .inl (fun _ => 0))), (q_95, .inl (E.2.2.1 3, 6, .inr (.inl (fun _ => 0)))), (q_96, .inl (E.2.2.1 1, 160000, .inl (fun _ => 0))), (q_97, .inl (E.2.2.1 1, 50000, .inl (fun _ => 0))), (q_98, .inl (E.2.2.1 0, 1200, .inl (fun _ => 0))), (q_99, .inl (E.2.2.1 1, 6000, .inl (fun _ => 0))), (q_100, .inl (E.2.2.1 3, 1200, .inr (.inl (fun _ => 0))))]) B hI 0 44 fl_X11_83 pf_X11_44 (fun q h => by cases h; rfl) rfl (Nat.le_of_ble_eq_true rfl) rfl rfl rfl dX11_init_201 ?_
  refine g_aload_n B dX11_init_204 rfl 0 rfl ?_
  refine g_sipush (v := 1200) B dX11_init_205 (by decide) ?_
  refine g_newa (ty := .long) (t0 := 3) (N := 1200) (nc' := 25) (ns' := 273176) (a0 := (1200, .inr (.inl (fun _ => 0)))) (ws' := fun q_101 => [(m, .inr (11, [.ref q_77, .int 0, .ref q_78, .ref q_79, .int 0, .ref q_80, .ref q_81, .ref q_82, .ref q_83, .int 0, .int 0, .ref q_84, .ref q_85, .ref q_86, .int 0, .int 0, .ref q_87, .ref q_88, .ref q_89, .ref q_90, .ref q_91, .ref q_92, .ref q_93, .ref q_94, .ref q_95, .int 0, .int 0, .long 0, .long 0, .long 0, .ref q_96, .int 0, .int 0, .int 0, .ref q_97, .int 0, .int 0, .int 0, .int 0, .int 0, .int 0, .ref q_98, .int 0, .ref q_99, .ref q_100, .null, .null, .null, .null, .null])), (q_77, .inl (E.2.2.1 0, 1200, .inl (fun _ => 0))), (q_78, .inl (E.2.2.1 0, 8, .inl (fun _ => 0))), (q_79, .inl (E.2.2.1 0, 8, .inl (fun _ => 0))), (q_80, .inl (E.2.2.1 1, 12000, .inl (fun _ => 0))), (q_81, .inl (E.2.2.1 0, 2, .inl (fun _ => 0))), (q_82, .inl (E.2.2.1 1, 20000, .inl (fun _ => 0))), (q_83, .inl (E.2.2.1 1, 20000, .inl (fun _ => 0))), (q_84, .inl (E.2.2.1 0, 10, .inl (fun _ => 0))), (q_85, .inl (E.2.2.1 0, 16, .inl (fun _ => 0))), (q_86, .inl (E.2.2.1 3, 6, .inr (.inl (fun _ => 0)))), (q_87, .inl (E.2.2.1 0, 8, .inl (fun _ => 0))), (q_88, .inl (E.2.2.1 0, 8, .inl (fun _ => 0))), (q_89, .inl (E.2.2.1 0, 16, .inl (fun _ => 0))), (q_90, .inl (E.2.2.1 0, 128, .inl (fun _ => 0))), (q_91, .inl (E.2.2.1 0, 8, .inl (fun _ => 0))), (q_92, .inl (E.2.2.1 0, 8, .inl (fun _ => 0))), (q_93, .inl (E.2.2.1 0, 16, .inl (fun _ => 0))), (q_94, .inl (E.2.2.1 0, 128, .inl (fun _ => 0))), (q_95, .inl (E.2.2.1 3, 6, .inr (.inl (fun _ => 0)))), (q_96, .inl (E.2.2.1 1, 160000, .inl (fun _ => 0))), (q_97, .inl (E.2.2.1 1, 50000, .inl (fun _ => 0))), (q_98, .inl (E.2.2.1 0, 1200, .inl (fun _ => 0))), (q_99, .inl (E.2.2.1 1, 6000, .inl (fun _ => 0))), (q_100, .inl (E.2.2.1 3, 1200, .inr (.inl (fun _ => 0)))), (q_101, .inl (E.2.2.1 3, 1200, .inr (.inl (fun _ => 0))))]) B w_ac_long rfl rfl rfl (fun _ => rfl) (by decide) (by decide) (by decide) rfl rfl (by decide) (by decide) (fun _ => rfl) dX11_init_208 (fun q_101 => ?_)
  refine g_putF (ws' := [(m, .inr (11, [.ref q_77, .int 0, .ref q_78, .ref q_79, .int 0, .ref q_80, .ref q_81, .ref q_82, .ref q_83, .int 0, .int 0, .ref q_84, .ref q_85, .ref q_86, .int 0, .int 0, .ref q_87, .ref q_88, .ref q_89, .ref q_90, .ref q_91, .ref q_92, .ref q_93, .ref q_94, .ref q_95, .int 0, .int 0, .long 0, .long 0, .long 0, .ref q_96, .int 0, .int 0, .int 0, .ref q_97, .int 0, .int 0, .int 0, .int 0, .int 0, .int 0, .ref q_98, .int 0, .ref q_99, .ref q_100, .ref q_101, .null, .null, .null, .null])), (q_77, .inl (E.2.2.1 0, 1200, .inl (fun _ => 0))), (q_78, .inl (E.2.2.1 0, 8, .inl (fun _ => 0))), (q_79, .inl (E.2.2.1 0, 8, .inl (fun _ => 0))), (q_80, .inl (E.2.2.1 1, 12000, .inl (fun _ => 0))), (q_81, .inl (E.2.2.1 0, 2, .inl (fun _ => 0))), (q_82, .inl (E.2.2.1 1, 20000, .inl (fun _ => 0))), (q_83, .inl (E.2.2.1 1, 20000, .inl (fun _ => 0))), (q_84, .inl (E.2.2.1 0, 10, .inl (fun _ => 0))), (q_85, .inl (E.2.2.1 0, 16, .inl (fun _ => 0))), (q_86, .inl (E.2.2.1 3, 6, .inr (.inl (fun _ => 0)))), (q_87, .inl (E.2.2.1 0, 8, .inl (fun _ => 0))), (q_88, .inl (E.2.2.1 0, 8, .inl (fun _ => 0))), (q_89, .inl (E.2.2.1 0, 16, .inl (fun _ => 0))), (q_90, .inl (E.2.2.1 0, 128, .inl (fun _ => 0))), (q_91, .inl (E.2.2.1 0, 8, .inl (fun _ => 0))), (q_92, .inl (E.2.2.1 0, 8, .inl (fun _ => 0))), (q_93, .inl (E.2.2.1 0, 16, .inl (fun _ => 0))), (q_94, .inl (E.2.2.1 0, 128, .inl (fun _ => 0))), (q_95, .inl (E.2.2.1 3, 6, .inr (.inl (fun _ => 0)))), (q_96, .inl (E.2.2.1 1, 160000, .inl (fun _ => 0))), (q_97, .inl (E.2.2.1 1, 50000, .inl (fun _ => 0))), (q_98, .inl (E.2.2.1 0, 1200, .inl (fun _ => 0))), (q_99, .inl (E.2.2.1 1, 6000, .inl (fun _ => 0))), (q_100, .inl (E.2.2.1 3, 1200, .inr (.inl (fun _ => 0)))), (q_101, .inl (E.2.2.1 3, 1200, .inr (.inl (fun _ => 0))))]) B hI 0 45 fl_X11_86 pf_X11_45 (fun q h => by cases h; rfl) rfl (Nat.le_of_ble_eq_true rfl) rfl rfl rfl dX11_init_210 ?_
  refine g_aload_n B dX11_init_213 rfl 0 rfl ?_
  refine g_sipush (v := 1200) B dX11_init_214 (by decide) ?_
  refine g_newa (ty := .long) (t0 := 3) (N := 1200) (nc' := 26) (ns' := 274376) (a0 := (1200, .inr (.inl (fun _ => 0)))) (ws' := fun q_102 => [(m, .inr (11, [.ref q_77, .int 0, .ref q_78, .ref q_79, .int 0, .ref q_80, .ref q_81, .ref q_82, .ref q_83, .int 0, .int 0, .ref q_84, .ref q_85, .ref q_86, .int 0, .int 0, .ref q_87, .ref q_88, .ref q_89, .ref q_90, .ref q_91, .ref q_92, .ref q_93, .ref q_94, .ref q_95, .int 0, .int 0, .long 0, .long 0, .long 0, .ref q_96, .int 0, .int 0, .int 0, .ref q_97, .int 0, .int 0, .int 0, .int 0, .int 0, .int 0, .ref q_98, .int 0, .ref q_99, .ref q_100, .ref q_101, .null, .null, .null, .null])), (q_77, .inl (E.2.2.1 0, 1200, .inl (fun _ => 0))), (q_78, .inl (E.2.2.1 0, 8, .inl (fun _ => 0))), (q_79, .inl (E.2.2.1 0, 8, .inl (fun _ => 0))), (q_80, .inl (E.2.2.1 1, 12000, .inl (fun _ => 0))), (q_81, .inl (E.2.2.1 0, 2, .inl (fun _ => 0))), (q_82, .inl (E.2.2.1 1, 20000, .inl (fun _ => 0))), (q_83, .inl (E.2.2.1 1, 20000, .inl (fun _ => 0))), (q_84, .inl (E.2.2.1 0, 10, .inl (fun _ => 0))), (q_85, .inl (E.2.2.1 0, 16, .inl (fun _ => 0))), (q_86, .inl (E.2.2.1 3, 6, .inr (.inl (fun _ => 0)))), (q_87, .inl (E.2.2.1 0, 8, .inl (fun _ => 0))), (q_88, .inl (E.2.2.1 0, 8, .inl (fun _ => 0))), (q_89, .inl (E.2.2.1 0, 16, .inl (fun _ => 0))), (q_90, .inl (E.2.2.1 0, 128, .inl (fun _ => 0))), (q_91, .inl (E.2.2.1 0, 8, .inl (fun _ => 0))), (q_92, .inl (E.2.2.1 0, 8, .inl (fun _ => 0))), (q_93, .inl (E.2.2.1 0, 16, .inl (fun _ => 0))), (q_94, .inl (E.2.2.1 0, 128, .inl (fun _ => 0))), (q_95, .inl (E.2.2.1 3, 6, .inr (.inl (fun _ => 0)))), (q_96, .inl (E.2.2.1 1, 160000, .inl (fun _ => 0))), (q_97, .inl (E.2.2.1 1, 50000, .inl (fun _ => 0))), (q_98, .inl (E.2.2.1 0, 1200, .inl (fun _ => 0))), (q_99, .inl (E.2.2.1 1, 6000, .inl (fun _ => 0))), (q_100, .inl (E.2.2.1 3, 1200, .inr (.inl (fun _ => 0)))), (q_101, .inl (E.2.2.1 3, 1200, .inr (.inl (fun _ => 0)))), (q_102, .inl (E.2.2.1 3, 1200, .inr (.inl (fun _ => 0))))]) B w_ac_long rfl rfl rfl (fun _ => rfl) (by decide) (by decide) (by decide) rfl rfl (by decide) (by decide) (fun _ => rfl) dX11_init_217 (fun q_102 => ?_)
  refine g_putF (ws' := [(m, .inr (11, [.ref q_77, .int 0, .ref q_78, .ref q_79, .int 0, .ref q_80, .ref q_81, .ref q_82, .ref q_83, .int 0, .int 0, .ref q_84, .ref q_85, .ref q_86, .int 0, .int 0, .ref q_87, .ref q_88, .ref q_89, .ref q_90, .ref q_91, .ref q_92, .ref q_93, .ref q_94, .ref q_95, .int 0, .int 0, .long 0, .long 0, .long 0, .ref q_96, .int 0, .int 0, .int 0, .ref q_97, .int 0, .int 0, .int 0, .int 0, .int 0, .int 0, .ref q_98, .int 0, .ref q_99, .ref q_100, .ref q_101, .ref q_102, .null, .null, .null])), (q_77, .inl (E.2.2.1 0, 1200, .inl (fun _ => 0))), (q_78, .inl (E.2.2.1 0, 8, .inl (fun _ => 0))), (q_79, .inl (E.2.2.1 0, 8, .inl (fun _ => 0))), (q_80, .inl (E.2.2.1 1, 12000, .inl (fun _ => 0))), (q_81, .inl (E.2.2.1 0, 2, .inl (fun _ => 0))), (q_82, .inl (E.2.2.1 1, 20000, .inl (fun _ => 0))), (q_83, .inl (E.2.2.1 1, 20000, .inl (fun _ => 0))), (q_84, .inl (E.2.2.1 0, 10, .inl (fun _ => 0))), (q_85, .inl (E.2.2.1 0, 16, .inl (fun _ => 0))), (q_86, .inl (E.2.2.1 3, 6, .inr (.inl (fun _ => 0)))), (q_87, .inl (E.2.2.1 0, 8, .inl (fun _ => 0))), (q_88, .inl (E.2.2.1 0, 8, .inl (fun _ => 0))), (q_89, .inl (E.2.2.1 0, 16, .inl (fun _ => 0))), (q_90, .inl (E.2.2.1 0, 128, .inl (fun _ => 0))), (q_91, .inl (E.2.2.1 0, 8, .inl (fun _ => 0))), (q_92, .inl (E.2.2.1 0, 8, .inl (fun _ => 0))), (q_93, .inl (E.2.2.1 0, 16, .inl (fun _ => 0))), (q_94, .inl (E.2.2.1 0, 128, .inl (fun _ => 0))), (q_95, .inl (E.2.2.1 3, 6, .inr (.inl (fun _ => 0)))), (q_96, .inl (E.2.2.1 1, 160000, .inl (fun _ => 0))), (q_97, .inl (E.2.2.1 1, 50000, .inl (fun _ => 0))), (q_98, .inl (E.2.2.1 0, 1200, .inl (fun _ => 0))), (q_99, .inl (E.2.2.1 1, 6000, .inl (fun _ => 0))), (q_100, .inl (E.2.2.1 3, 1200, .inr (.inl (fun _ => 0)))), (q_101, .inl (E.2.2.1 3, 1200, .inr (.inl (fun _ => 0)))), (q_102, .inl (E.2.2.1 3, 1200, .inr (.inl (fun _ => 0))))]) B hI 0 46 fl_X11_89 pf_X11_46 (fun q h => by cases h; rfl) rfl (Nat.le_of_ble_eq_true rfl) rfl rfl rfl dX11_init_219 ?_
  refine g_aload_n B dX11_init_222 rfl 0 rfl ?_
  refine g_sipush (v := 1200) B dX11_init_223 (by decide) ?_
  refine g_newa (ty := .boolean) (t0 := 2) (N := 1200) (nc' := 27) (ns' := 275576) (a0 := (1200, .inl (fun _ => 0))) (ws' := fun q_103 => [(m, .inr (11, [.ref q_77, .int 0, .ref q_78, .ref q_79, .int 0, .ref q_80, .ref q_81, .ref q_82, .ref q_83, .int 0, .int 0, .ref q_84, .ref q_85, .ref q_86, .int 0, .int 0, .ref q_87, .ref q_88, .ref q_89, .ref q_90, .ref q_91, .ref q_92, .ref q_93, .ref q_94, .ref q_95, .int 0, .int 0, .long 0, .long 0, .long 0, .ref q_96, .int 0, .int 0, .int 0, .ref q_97, .int 0, .int 0, .int 0, .int 0, .int 0, .int 0, .ref q_98, .int 0, .ref q_99, .ref q_100, .ref q_101, .ref q_102, .null, .null, .null])), (q_77, .inl (E.2.2.1 0, 1200, .inl (fun _ => 0))), (q_78, .inl (E.2.2.1 0, 8, .inl (fun _ => 0))), (q_79, .inl (E.2.2.1 0, 8, .inl (fun _ => 0))), (q_80, .inl (E.2.2.1 1, 12000, .inl (fun _ => 0))), (q_81, .inl (E.2.2.1 0, 2, .inl (fun _ => 0))), (q_82, .inl (E.2.2.1 1, 20000, .inl (fun _ => 0))), (q_83, .inl (E.2.2.1 1, 20000, .inl (fun _ => 0))), (q_84, .inl (E.2.2.1 0, 10, .inl (fun _ => 0))), (q_85, .inl (E.2.2.1 0, 16, .inl (fun _ => 0))), (q_86, .inl (E.2.2.1 3, 6, .inr (.inl (fun _ => 0)))), (q_87, .inl (E.2.2.1 0, 8, .inl (fun _ => 0))), (q_88, .inl (E.2.2.1 0, 8, .inl (fun _ => 0))), (q_89, .inl (E.2.2.1 0, 16, .inl (fun _ => 0))), (q_90, .inl (E.2.2.1 0, 128, .inl (fun _ => 0))), (q_91, .inl (E.2.2.1 0, 8, .inl (fun _ => 0))), (q_92, .inl (E.2.2.1 0, 8, .inl (fun _ => 0))), (q_93, .inl (E.2.2.1 0, 16, .inl (fun _ => 0))), (q_94, .inl (E.2.2.1 0, 128, .inl (fun _ => 0))), (q_95, .inl (E.2.2.1 3, 6, .inr (.inl (fun _ => 0)))), (q_96, .inl (E.2.2.1 1, 160000, .inl (fun _ => 0))), (q_97, .inl (E.2.2.1 1, 50000, .inl (fun _ => 0))), (q_98, .inl (E.2.2.1 0, 1200, .inl (fun _ => 0))), (q_99, .inl (E.2.2.1 1, 6000, .inl (fun _ => 0))), (q_100, .inl (E.2.2.1 3, 1200, .inr (.inl (fun _ => 0)))), (q_101, .inl (E.2.2.1 3, 1200, .inr (.inl (fun _ => 0)))), (q_102, .inl (E.2.2.1 3, 1200, .inr (.inl (fun _ => 0)))), (q_103, .inl (E.2.2.1 2, 1200, .inl (fun _ => 0)))]) B w_ac_boolean rfl rfl rfl (fun _ => rfl) (by decide) (by decide) (by decide) rfl rfl (by decide) (by decide) (fun _ => rfl) dX11_init_226 (fun q_103 => ?_)
  refine g_putF (ws' := [(m, .inr (11, [.ref q_77, .int 0, .ref q_78, .ref q_79, .int 0, .ref q_80, .ref q_81, .ref q_82, .ref q_83, .int 0, .int 0, .ref q_84, .ref q_85, .ref q_86, .int 0, .int 0, .ref q_87, .ref q_88, .ref q_89, .ref q_90, .ref q_91, .ref q_92, .ref q_93, .ref q_94, .ref q_95, .int 0, .int 0, .long 0, .long 0, .long 0, .ref q_96, .int 0, .int 0, .int 0, .ref q_97, .int 0, .int 0, .int 0, .int 0, .int 0, .int 0, .ref q_98, .int 0, .ref q_99, .ref q_100, .ref q_101, .ref q_102, .ref q_103, .null, .null])), (q_77, .inl (E.2.2.1 0, 1200, .inl (fun _ => 0))), (q_78, .inl (E.2.2.1 0, 8, .inl (fun _ => 0))), (q_79, .inl (E.2.2.1 0, 8, .inl (fun _ => 0))), (q_80, .inl (E.2.2.1 1, 12000, .inl (fun _ => 0))), (q_81, .inl (E.2.2.1 0, 2, .inl (fun _ => 0))), (q_82, .inl (E.2.2.1 1, 20000, .inl (fun _ => 0))), (q_83, .inl (E.2.2.1 1, 20000, .inl (fun _ => 0))), (q_84, .inl (E.2.2.1 0, 10, .inl (fun _ => 0))), (q_85, .inl (E.2.2.1 0, 16, .inl (fun _ => 0))), (q_86, .inl (E.2.2.1 3, 6, .inr (.inl (fun _ => 0)))), (q_87, .inl (E.2.2.1 0, 8, .inl (fun _ => 0))), (q_88, .inl (E.2.2.1 0, 8, .inl (fun _ => 0))), (q_89, .inl (E.2.2.1 0, 16, .inl (fun _ => 0))), (q_90, .inl (E.2.2.1 0, 128, .inl (fun _ => 0))), (q_91, .inl (E.2.2.1 0, 8, .inl (fun _ => 0))), (q_92, .inl (E.2.2.1 0, 8, .inl (fun _ => 0))), (q_93, .inl (E.2.2.1 0, 16, .inl (fun _ => 0))), (q_94, .inl (E.2.2.1 0, 128, .inl (fun _ => 0))), (q_95, .inl (E.2.2.1 3, 6, .inr (.inl (fun _ => 0)))), (q_96, .inl (E.2.2.1 1, 160000, .inl (fun _ => 0))), (q_97, .inl (E.2.2.1 1, 50000, .inl (fun _ => 0))), (q_98, .inl (E.2.2.1 0, 1200, .inl (fun _ => 0))), (q_99, .inl (E.2.2.1 1, 6000, .inl (fun _ => 0))), (q_100, .inl (E.2.2.1 3, 1200, .inr (.inl (fun _ => 0)))), (q_101, .inl (E.2.2.1 3, 1200, .inr (.inl (fun _ => 0)))), (q_102, .inl (E.2.2.1 3, 1200, .inr (.inl (fun _ => 0)))), (q_103, .inl (E.2.2.1 2, 1200, .inl (fun _ => 0)))]) B hI 0 47 fl_X11_92 pf_X11_47 (fun q h => by cases h; rfl) rfl (Nat.le_of_ble_eq_true rfl) rfl rfl rfl dX11_init_228 ?_
  refine g_aload_n B dX11_init_231 rfl 0 rfl ?_
  refine g_sipush (v := 1200) B dX11_init_232 (by decide) ?_
  refine g_newa (ty := .boolean) (t0 := 2) (N := 1200) (nc' := 28) (ns' := 276776) (a0 := (1200, .inl (fun _ => 0))) (ws' := fun q_104 => [(m, .inr (11, [.ref q_77, .int 0, .ref q_78, .ref q_79, .int 0, .ref q_80, .ref q_81, .ref q_82, .ref q_83, .int 0, .int 0, .ref q_84, .ref q_85, .ref q_86, .int 0, .int 0, .ref q_87, .ref q_88, .ref q_89, .ref q_90, .ref q_91, .ref q_92, .ref q_93, .ref q_94, .ref q_95, .int 0, .int 0, .long 0, .long 0, .long 0, .ref q_96, .int 0, .int 0, .int 0, .ref q_97, .int 0, .int 0, .int 0, .int 0, .int 0, .int 0, .ref q_98, .int 0, .ref q_99, .ref q_100, .ref q_101, .ref q_102, .ref q_103, .null, .null])), (q_77, .inl (E.2.2.1 0, 1200, .inl (fun _ => 0))), (q_78, .inl (E.2.2.1 0, 8, .inl (fun _ => 0))), (q_79, .inl (E.2.2.1 0, 8, .inl (fun _ => 0))), (q_80, .inl (E.2.2.1 1, 12000, .inl (fun _ => 0))), (q_81, .inl (E.2.2.1 0, 2, .inl (fun _ => 0))), (q_82, .inl (E.2.2.1 1, 20000, .inl (fun _ => 0))), (q_83, .inl (E.2.2.1 1, 20000, .inl (fun _ => 0))), (q_84, .inl (E.2.2.1 0, 10, .inl (fun _ => 0))), (q_85, .inl (E.2.2.1 0, 16, .inl (fun _ => 0))), (q_86, .inl (E.2.2.1 3, 6, .inr (.inl (fun _ => 0)))), (q_87, .inl (E.2.2.1 0, 8, .inl (fun _ => 0))), (q_88, .inl (E.2.2.1 0, 8, .inl (fun _ => 0))), (q_89, .inl (E.2.2.1 0, 16, .inl (fun _ => 0))), (q_90, .inl (E.2.2.1 0, 128, .inl (fun _ => 0))), (q_91, .inl (E.2.2.1 0, 8, .inl (fun _ => 0))), (q_92, .inl (E.2.2.1 0, 8, .inl (fun _ => 0))), (q_93, .inl (E.2.2.1 0, 16, .inl (fun _ => 0))), (q_94, .inl (E.2.2.1 0, 128, .inl (fun _ => 0))), (q_95, .inl (E.2.2.1 3, 6, .inr (.inl (fun _ => 0)))), (q_96, .inl (E.2.2.1 1, 160000, .inl (fun _ => 0))), (q_97, .inl (E.2.2.1 1, 50000, .inl (fun _ => 0))), (q_98, .inl (E.2.2.1 0, 1200, .inl (fun _ => 0))), (q_99, .inl (E.2.2.1 1, 6000, .inl (fun _ => 0))), (q_100, .inl (E.2.2.1 3, 1200, .inr (.inl (fun _ => 0)))), (q_101, .inl (E.2.2.1 3, 1200, .inr (.inl (fun _ => 0)))), (q_102, .inl (E.2.2.1 3, 1200, .inr (.inl (fun _ => 0)))), (q_103, .inl (E.2.2.1 2, 1200, .inl (fun _ => 0))), (q_104, .inl (E.2.2.1 2, 1200, .inl (fun _ => 0)))]) B w_ac_boolean rfl rfl rfl (fun _ => rfl) (by decide) (by decide) (by decide) rfl rfl (by decide) (by decide) (fun _ => rfl) dX11_init_235 (fun q_104 => ?_)
  refine g_putF (ws' := [(m, .inr (11, [.ref q_77, .int 0, .ref q_78, .ref q_79, .int 0, .ref q_80, .ref q_81, .ref q_82, .ref q_83, .int 0, .int 0, .ref q_84, .ref q_85, .ref q_86, .int 0, .int 0, .ref q_87, .ref q_88, .ref q_89, .ref q_90, .ref q_91, .ref q_92, .ref q_93, .ref q_94, .ref q_95, .int 0, .int 0, .long 0, .long 0, .long 0, .ref q_96, .int 0, .int 0, .int 0, .ref q_97, .int 0, .int 0, .int 0, .int 0, .int 0, .int 0, .ref q_98, .int 0, .ref q_99, .ref q_100, .ref q_101, .ref q_102, .ref q_103, .ref q_104, .null])), (q_77, .inl (E.2.2.1 0, 1200, .inl (fun _ => 0))), (q_78, .inl (E.2.2.1 0, 8, .inl (fun _ => 0))), (q_79, .inl (E.2.2.1 0, 8, .inl (fun _ => 0))), (q_80, .inl (E.2.2.1 1, 12000, .inl (fun _ => 0))), (q_81, .inl (E.2.2.1 0, 2, .inl (fun _ => 0))), (q_82, .inl (E.2.2.1 1, 20000, .inl (fun _ => 0))), (q_83, .inl (E.2.2.1 1, 20000, .inl (fun _ => 0))), (q_84, .inl (E.2.2.1 0, 10, .inl (fun _ => 0))), (q_85, .inl (E.2.2.1 0, 16, .inl (fun _ => 0))), (q_86, .inl (E.2.2.1 3, 6, .inr (.inl (fun _ => 0)))), (q_87, .inl (E.2.2.1 0, 8, .inl (fun _ => 0))), (q_88, .inl (E.2.2.1 0, 8, .inl (fun _ => 0))), (q_89, .inl (E.2.2.1 0, 16, .inl (fun _ => 0))), (q_90, .inl (E.2.2.1 0, 128, .inl (fun _ => 0))), (q_91, .inl (E.2.2.1 0, 8, .inl (fun _ => 0))), (q_92, .inl (E.2.2.1 0, 8, .inl (fun _ => 0))), (q_93, .inl (E.2.2.1 0, 16, .inl (fun _ => 0))), (q_94, .inl (E.2.2.1 0, 128, .inl (fun _ => 0))), (q_95, .inl (E.2.2.1 3, 6, .inr (.inl (fun _ => 0)))), (q_96, .inl (E.2.2.1 1, 160000, .inl (fun _ => 0))), (q_97, .inl (E.2.2.1 1, 50000, .inl (fun _ => 0))), (q_98, .inl (E.2.2.1 0, 1200, .inl (fun _ => 0))), (q_99, .inl (E.2.2.1 1, 6000, .inl (fun _ => 0))), (q_100, .inl (E.2.2.1 3, 1200, .inr (.inl (fun _ => 0)))), (q_101, .inl (E.2.2.1 3, 1200, .inr (.inl (fun _ => 0)))), (q_102, .inl (E.2.2.1 3, 1200, .inr (.inl (fun _ => 0)))), (q_103, .inl (E.2.2.1 2, 1200, .inl (fun _ => 0))), (q_104, .inl (E.2.2.1 2, 1200, .inl (fun _ => 0)))]) B hI 0 48 fl_X11_96 pf_X11_48 (fun q h => by cases h; rfl) rfl (Nat.le_of_ble_eq_true rfl) rfl rfl rfl dX11_init_237 ?_
  refine g_aload_n B dX11_init_240 rfl 0 rfl ?_
  refine g_iconst (v := 5) B dX11_init_241 (by decide) ?_
  refine g_newa (ty := .int) (t0 := 0) (N := 5) (nc' := 29) (ns' := 276781) (a0 := (5, .inl (fun _ => 0))) (ws' := fun q_105 => [(m, .inr (11, [.ref q_77, .int 0, .ref q_78, .ref q_79, .int 0, .ref q_80, .ref q_81, .ref q_82, .ref q_83, .int 0, .int 0, .ref q_84, .ref q_85, .ref q_86, .int 0, .int 0, .ref q_87, .ref q_88, .ref q_89, .ref q_90, .ref q_91, .ref q_92, .ref q_93, .ref q_94, .ref q_95, .int 0, .int 0, .long 0, .long 0, .long 0, .ref q_96, .int 0, .int 0, .int 0, .ref q_97, .int 0, .int 0, .int 0, .int 0, .int 0, .int 0, .ref q_98, .int 0, .ref q_99, .ref q_100, .ref q_101, .ref q_102, .ref q_103, .ref q_104, .null])), (q_77, .inl (E.2.2.1 0, 1200, .inl (fun _ => 0))), (q_78, .inl (E.2.2.1 0, 8, .inl (fun _ => 0))), (q_79, .inl (E.2.2.1 0, 8, .inl (fun _ => 0))), (q_80, .inl (E.2.2.1 1, 12000, .inl (fun _ => 0))), (q_81, .inl (E.2.2.1 0, 2, .inl (fun _ => 0))), (q_82, .inl (E.2.2.1 1, 20000, .inl (fun _ => 0))), (q_83, .inl (E.2.2.1 1, 20000, .inl (fun _ => 0))), (q_84, .inl (E.2.2.1 0, 10, .inl (fun _ => 0))), (q_85, .inl (E.2.2.1 0, 16, .inl (fun _ => 0))), (q_86, .inl (E.2.2.1 3, 6, .inr (.inl (fun _ => 0)))), (q_87, .inl (E.2.2.1 0, 8, .inl (fun _ => 0))), (q_88, .inl (E.2.2.1 0, 8, .inl (fun _ => 0))), (q_89, .inl (E.2.2.1 0, 16, .inl (fun _ => 0))), (q_90, .inl (E.2.2.1 0, 128, .inl (fun _ => 0))), (q_91, .inl (E.2.2.1 0, 8, .inl (fun _ => 0))), (q_92, .inl (E.2.2.1 0, 8, .inl (fun _ => 0))), (q_93, .inl (E.2.2.1 0, 16, .inl (fun _ => 0))), (q_94, .inl (E.2.2.1 0, 128, .inl (fun _ => 0))), (q_95, .inl (E.2.2.1 3, 6, .inr (.inl (fun _ => 0)))), (q_96, .inl (E.2.2.1 1, 160000, .inl (fun _ => 0))), (q_97, .inl (E.2.2.1 1, 50000, .inl (fun _ => 0))), (q_98, .inl (E.2.2.1 0, 1200, .inl (fun _ => 0))), (q_99, .inl (E.2.2.1 1, 6000, .inl (fun _ => 0))), (q_100, .inl (E.2.2.1 3, 1200, .inr (.inl (fun _ => 0)))), (q_101, .inl (E.2.2.1 3, 1200, .inr (.inl (fun _ => 0)))), (q_102, .inl (E.2.2.1 3, 1200, .inr (.inl (fun _ => 0)))), (q_103, .inl (E.2.2.1 2, 1200, .inl (fun _ => 0))), (q_104, .inl (E.2.2.1 2, 1200, .inl (fun _ => 0))), (q_105, .inl (E.2.2.1 0, 5, .inl (fun _ => 0)))]) B w_ac_int rfl rfl rfl (fun _ => rfl) (by decide) (by decide) (by decide) rfl rfl (by decide) (by decide) (fun _ => rfl) dX11_init_242 (fun q_105 => ?_)
  refine g_putF (ws' := [(m, .inr (11, [.ref q_77, .int 0, .ref q_78, .ref q_79, .int 0, .ref q_80, .ref q_81, .ref q_82, .ref q_83, .int 0, .int 0, .ref q_84, .ref q_85, .ref q_86, .int 0, .int 0, .ref q_87, .ref q_88, .ref q_89, .ref q_90, .ref q_91, .ref q_92, .ref q_93, .ref q_94, .ref q_95, .int 0, .int 0, .long 0, .long 0, .long 0, .ref q_96, .int 0, .int 0, .int 0, .ref q_97, .int 0, .int 0, .int 0, .int 0, .int 0, .int 0, .ref q_98, .int 0, .ref q_99, .ref q_100, .ref q_101, .ref q_102, .ref q_103, .ref q_104, .ref q_105])), (q_77, .inl (E.2.2.1 0, 1200, .inl (fun _ => 0))), (q_78, .inl (E.2.2.1 0, 8, .inl (fun _ => 0))), (q_79, .inl (E.2.2.1 0, 8, .inl (fun _ => 0))), (q_80, .inl (E.2.2.1 1, 12000, .inl (fun _ => 0))), (q_81, .inl (E.2.2.1 0, 2, .inl (fun _ => 0))), (q_82, .inl (E.2.2.1 1, 20000, .inl (fun _ => 0))), (q_83, .inl (E.2.2.1 1, 20000, .inl (fun _ => 0))), (q_84, .inl (E.2.2.1 0, 10, .inl (fun _ => 0))), (q_85, .inl (E.2.2.1 0, 16, .inl (fun _ => 0))), (q_86, .inl (E.2.2.1 3, 6, .inr (.inl (fun _ => 0)))), (q_87, .inl (E.2.2.1 0, 8, .inl (fun _ => 0))), (q_88, .inl (E.2.2.1 0, 8, .inl (fun _ => 0))), (q_89, .inl (E.2.2.1 0, 16, .inl (fun _ => 0))), (q_90, .inl (E.2.2.1 0, 128, .inl (fun _ => 0))), (q_91, .inl (E.2.2.1 0, 8, .inl (fun _ => 0))), (q_92, .inl (E.2.2.1 0, 8, .inl (fun _ => 0))), (q_93, .inl (E.2.2.1 0, 16, .inl (fun _ => 0))), (q_94, .inl (E.2.2.1 0, 128, .inl (fun _ => 0))), (q_95, .inl (E.2.2.1 3, 6, .inr (.inl (fun _ => 0)))), (q_96, .inl (E.2.2.1 1, 160000, .inl (fun _ => 0))), (q_97, .inl (E.2.2.1 1, 50000, .inl (fun _ => 0))), (q_98, .inl (E.2.2.1 0, 1200, .inl (fun _ => 0))), (q_99, .inl (E.2.2.1 1, 6000, .inl (fun _ => 0))), (q_100, .inl (E.2.2.1 3, 1200, .inr (.inl (fun _ => 0)))), (q_101, .inl (E.2.2.1 3, 1200, .inr (.inl (fun _ => 0)))), (q_102, .inl (E.2.2.1 3, 1200, .inr (.inl (fun _ => 0)))), (q_103, .inl (E.2.2.1 2, 1200, .inl (fun _ => 0))), (q_104, .inl (E.2.2.1 2, 1200, .inl (fun _ => 0))), (q_105, .inl (E.2.2.1 0, 5, .inl (fun _ => 0)))]) B hI 0 49 fl_X11_99 pf_X11_49 (fun q h => by cases h; rfl) rfl (Nat.le_of_ble_eq_true rfl) rfl rfl rfl dX11_init_244 ?_
  exact g_vret B hr dX11_init_247 (by decide) (by decide) ⟨q_77, q_78, q_79, q_80, q_81, q_82, q_83, q_84, q_85, q_86, q_87, q_88, q_89, q_90, q_91, q_92, q_93, q_94, q_95, q_96, q_97, q_98, q_99, q_100, q_101, q_102, q_103, q_104, q_105, rfl, rfl⟩
end
section
def nb (f : Nat → Int32) : Nat → Int32 := fun j => (f j).toInt8.toInt32
theorem nb_upd (f : Nat → Int32) (k : Nat) (x : Int32) : upd (nb f) k (vp_nar .byte x) = nb (upd f k x) := by
  funext j
  unfold upd nb
  split <;> simp_all [vp_nar_byte]
theorem nb_cpy (f h : Nat → Int32) (a b n : Nat) : va_cpy (nb f) (nb h) a b n = nb (va_cpy f h a b n) := by
  funext j
  unfold va_cpy nb
  by_cases h1 : b ≤ j ∧ j < b + n
  · simp only [if_pos h1]
  · simp only [if_neg h1]
theorem in_pw {i : Int32} {N : Nat} (k : Nat) (hk : k < 4) (hN : N < 2147483648) (h1 : ¬ i < 0) (hi : i ≤ 2147483643) (h2 : ¬ nI N < i + 4) : vp_in (i + nI k) N := by
  obtain ⟨j, hj, rfl⟩ := nI_of2 (n := 2147483643) (by decide) h1 hi
  have e4 : nI j + 4 = nI (j + 4) := nI_add j 4
  rw [e4] at h2
  have h3 : j + 4 ≤ N := by
    rcases Nat.lt_or_ge N (j + 4) with h | h
    · exact absurd (nI_lt h (by omega)) h2
    · exact h
  rw [nI_add]
  exact vp_in_nI (by omega) hN
theorem cp_le {n : Int32} {N : Nat} (hN : N < 2147483648) (h1 : ¬ n < 0) (h2 : ¬ nI N < n) : Int32.toNatClampNeg 0 + n.toNatClampNeg ≤ N := by
  obtain ⟨j, hj, rfl⟩ := nI_of h1
  rw [nI_clamp hj]
  have h3 : j ≤ N := by
    rcases Nat.lt_or_ge N j with h | h
    · exact absurd (nI_lt h hj) h2
    · exact h
  have h4 : Int32.toNatClampNeg 0 = 0 := by decide
  omega
theorem inv_up {i n : Int32} (h0 : ¬ i < 0) (h : i < n) : ¬ (i + 1) < 0 := by
  obtain ⟨j, hj, rfl⟩ := nI_of h0
  rw [nI_1]
  have h1 := Int32.lt_iff_toInt_lt.mp h
  have h2 := n.toInt_lt
  rw [nI_toInt hj] at h1
  exact nI_pos (by omega)
theorem in_and15 (x : Int32) : vp_in (x &&& 15) 16 := pk_andIn x 4 (by decide) (by decide)
theorem in_lt {i : Int32} {N : Nat} (hN : N < 2147483648) (h1 : ¬ i < 0) (h2 : i < nI N) : vp_in i N := by
  rcases pk_ix i (n := N) hN with h | h | ⟨j, hj, rfl⟩
  · exact absurd h h1
  · exact absurd h2 (o_4 h)
  · exact vp_in_nI hj hN
theorem st_up {i n : Int32} (h : i < n) : (n.toInt - (i + 1).toInt).toNat < (n.toInt - i.toInt).toNat := by
  have h1 := Int32.lt_iff_toInt_lt.mp h
  have h2 := n.toInt_lt
  have h3 := i.le_toInt
  have h4 : (i + 1).toInt = i.toInt + 1 := by
    rw [Int32.toInt_add]
    rw [Int.bmod_eq_of_le] <;> simp <;> omega
  omega
theorem st_dn {i : Int32} (h : ¬ i < 0) : ((i + (-1)).toInt + 1).toNat < (i.toInt + 1).toNat := by
  have h1 : ¬ i.toInt < 0 := fun q => h (Int32.lt_iff_toInt_lt.mpr q)
  have h2 := i.toInt_lt
  have h4 : (i + (-1)).toInt = i.toInt - 1 := by
    rw [Int32.toInt_add]
    rw [Int.bmod_eq_of_le] <;> simp <;> omega
  omega
abbrev MX2_at : g_M := (yX2_at, cX2_at, 2, (some .int))
theorem dX2_at_0 : decode cX2_at 0 = .ok (.iload_n 1, 1) := by decide +kernel
theorem dX2_at_1 : decode cX2_at 1 = .ok (.ifCond .lt 33, 3) := by decide +kernel
theorem dX2_at_34 : decode cX2_at 34 = .ok (.iconst (-1), 1) := by decide +kernel
theorem dX2_at_35 : decode cX2_at 35 = .ok (.ireturn, 1) := by decide +kernel
theorem dX2_at_4 : decode cX2_at 4 = .ok (.iload_n 1, 1) := by decide +kernel
theorem dX2_at_5 : decode cX2_at 5 = .ok (.aload_n 0, 1) := by decide +kernel
theorem dX2_at_6 : decode cX2_at 6 = .ok (.getfield 21, 3) := by decide +kernel
theorem dX2_at_9 : decode cX2_at 9 = .ok (.if_icmp .ge 25, 3) := by decide +kernel
theorem dX2_at_12 : decode cX2_at 12 = .ok (.iload_n 1, 1) := by decide +kernel
theorem dX2_at_13 : decode cX2_at 13 = .ok (.aload_n 0, 1) := by decide +kernel
theorem dX2_at_14 : decode cX2_at 14 = .ok (.getfield 15, 3) := by decide +kernel
theorem dX2_at_17 : decode cX2_at 17 = .ok (.arraylength, 1) := by decide +kernel
theorem dX2_at_18 : decode cX2_at 18 = .ok (.if_icmp .ge 16, 3) := by decide +kernel
theorem dX2_at_21 : decode cX2_at 21 = .ok (.aload_n 0, 1) := by decide +kernel
theorem dX2_at_22 : decode cX2_at 22 = .ok (.getfield 15, 3) := by decide +kernel
theorem dX2_at_25 : decode cX2_at 25 = .ok (.iload_n 1, 1) := by decide +kernel
theorem dX2_at_26 : decode cX2_at 26 = .ok (.baload, 1) := by decide +kernel
theorem dX2_at_27 : decode cX2_at 27 = .ok (.sipush 255, 3) := by decide +kernel
theorem dX2_at_30 : decode cX2_at 30 = .ok (.iand, 1) := by decide +kernel
theorem dX2_at_31 : decode cX2_at 31 = .ok (.goto 4, 3) := by decide +kernel
set_option maxRecDepth 100000 in
set_option maxHeartbeats 4000000 in
theorem wk_X2_at (E : g_E) (t : Nat) (a : Nat) (N : Nat) (t_1 : Int32) (a_f : Nat → Int32) (i : Int32) (hN : N < 2147483648) : Ev E MX2_at 0 0 0 0 [.ref t, .int i] [(t, .inr (2, [.ref a, .int t_1])), (a, .inl (E.2.2.1 1, N, .inl (nb a_f)))] (fun v_ w_ => ∃ zt_1 : Int32, ∃ za_f : Nat → Int32, ∃ zr : Int32, v_ = some (.int zr) ∧ w_ = [(t, .inr (2, [.ref a, .int zt_1])), (a, .inl (E.2.2.1 1, N, .inl (nb za_f)))]) := by
  refine Ev.intro (by decide) (Nat.le_of_ble_eq_true rfl) ?_
  intro X B hr hI
  have B : Bd E X cX2_at RX2 2 0 0 0 0 := B
  have hr : Rt E X (some .int) 0 0 (fun v_ w_ => ∃ zt_1 : Int32, ∃ za_f : Nat → Int32, ∃ zr : Int32, v_ = some (.int zr) ∧ w_ = [(t, .inr (2, [.ref a, .int zt_1])), (a, .inl (E.2.2.1 1, N, .inl (nb za_f)))]) := hr
  show G E X 2 [(t, .inr (2, [.ref a, .int t_1])), (a, .inl (E.2.2.1 1, N, .inl (nb a_f)))] 0 0 [(0, .ref t), (1, .int i)] 0 []
  refine g_iload_n B dX2_at_0 rfl 1 rfl ?_
  refine g_if_lt (tgt := 34) B dX2_at_1 (by decide) (fun c1_106 => ?_) (fun c1_106 => ?_)
  · refine g_iconst (v := (-1)) B dX2_at_34 (by decide) ?_
    exact g_iret B hr dX2_at_35 (by decide) (by decide) ⟨t_1, a_f, (-1), rfl, rfl⟩
  · refine g_iload_n B dX2_at_4 rfl 1 rfl ?_
    refine g_aload_n B dX2_at_5 rfl 0 rfl ?_
    refine g_get B 0 1 fl_X2_21 rfl rfl dX2_at_6 ?_
    refine g_icmp_ge (tgt := 34) B dX2_at_9 (by decide) (fun c9_107 => ?_) (fun c9_107 => ?_)
    · refine g_iconst (v := (-1)) B dX2_at_34 (by decide) ?_
      exact g_iret B hr dX2_at_35 (by decide) (by decide) ⟨t_1, a_f, (-1), rfl, rfl⟩
    · refine g_iload_n B dX2_at_12 rfl 1 rfl ?_
      refine g_aload_n B dX2_at_13 rfl 0 rfl ?_
      refine g_get B 0 0 fl_X2_15 rfl rfl dX2_at_14 ?_
      refine g_alen (v := nI N) B 1 (by decide) rfl rfl dX2_at_17 ?_
      refine g_icmp_ge (tgt := 34) B dX2_at_18 (by decide) (fun c18_108 => ?_) (fun c18_108 => ?_)
      · refine g_iconst (v := (-1)) B dX2_at_34 (by decide) ?_
        exact g_iret B hr dX2_at_35 (by decide) (by decide) ⟨t_1, a_f, (-1), rfl, rfl⟩
      · refine g_aload_n B dX2_at_21 rfl 0 rfl ?_
        refine g_get B 0 0 fl_X2_15 rfl rfl dX2_at_22 ?_
        refine g_iload_n B dX2_at_25 rfl 1 rfl ?_
        refine g_bald B 1 rfl (in_lt hN c1_106 (o_2 c18_108)) dX2_at_26 ?_
        refine g_sipush (v := 255) B dX2_at_27 (by decide) ?_
        refine g_iand B dX2_at_30 ?_
        refine g_goto (tgt := 35) B dX2_at_31 (by decide) ?_
        exact g_iret B hr dX2_at_35 (by decide) (by decide) ⟨t_1, a_f, (((nb a_f) (Int32.toNatClampNeg i)) &&& 255), rfl, rfl⟩
abbrev MX2_add : g_M := (yX2_add, cX2_add, 2, none)
theorem dX2_add_0 : decode cX2_add 0 = .ok (.aload_n 0, 1) := by decide +kernel
theorem dX2_add_1 : decode cX2_add 1 = .ok (.getfield 21, 3) := by decide +kernel
theorem dX2_add_4 : decode cX2_add 4 = .ok (.ifCond .lt 36, 3) := by decide +kernel
theorem dX2_add_40 : decode cX2_add 40 = .ok (.return_, 1) := by decide +kernel
theorem dX2_add_7 : decode cX2_add 7 = .ok (.aload_n 0, 1) := by decide +kernel
theorem dX2_add_8 : decode cX2_add 8 = .ok (.getfield 21, 3) := by decide +kernel
theorem dX2_add_11 : decode cX2_add 11 = .ok (.aload_n 0, 1) := by decide +kernel
theorem dX2_add_12 : decode cX2_add 12 = .ok (.getfield 15, 3) := by decide +kernel
theorem dX2_add_15 : decode cX2_add 15 = .ok (.arraylength, 1) := by decide +kernel
theorem dX2_add_16 : decode cX2_add 16 = .ok (.if_icmp .ge 24, 3) := by decide +kernel
theorem dX2_add_19 : decode cX2_add 19 = .ok (.aload_n 0, 1) := by decide +kernel
theorem dX2_add_20 : decode cX2_add 20 = .ok (.getfield 15, 3) := by decide +kernel
theorem dX2_add_23 : decode cX2_add 23 = .ok (.aload_n 0, 1) := by decide +kernel
theorem dX2_add_24 : decode cX2_add 24 = .ok (.getfield 21, 3) := by decide +kernel
theorem dX2_add_27 : decode cX2_add 27 = .ok (.iload_n 1, 1) := by decide +kernel
theorem dX2_add_28 : decode cX2_add 28 = .ok (.i2b, 1) := by decide +kernel
theorem dX2_add_29 : decode cX2_add 29 = .ok (.bastore, 1) := by decide +kernel
theorem dX2_add_30 : decode cX2_add 30 = .ok (.aload_n 0, 1) := by decide +kernel
theorem dX2_add_31 : decode cX2_add 31 = .ok (.dup, 1) := by decide +kernel
theorem dX2_add_32 : decode cX2_add 32 = .ok (.getfield 21, 3) := by decide +kernel
theorem dX2_add_35 : decode cX2_add 35 = .ok (.iconst 1, 1) := by decide +kernel
theorem dX2_add_36 : decode cX2_add 36 = .ok (.iadd, 1) := by decide +kernel
theorem dX2_add_37 : decode cX2_add 37 = .ok (.putfield 21, 3) := by decide +kernel
set_option maxRecDepth 100000 in
set_option maxHeartbeats 4000000 in
theorem wk_X2_add (E : g_E) (t : Nat) (a : Nat) (N : Nat) (t_1 : Int32) (a_f : Nat → Int32) (b : Int32) (hN : N < 2147483648) : Ev E MX2_add 0 0 0 0 [.ref t, .int b] [(t, .inr (2, [.ref a, .int t_1])), (a, .inl (E.2.2.1 1, N, .inl (nb a_f)))] (fun v_ w_ => ∃ zt_1 : Int32, ∃ za_f : Nat → Int32, v_ = none ∧ w_ = [(t, .inr (2, [.ref a, .int zt_1])), (a, .inl (E.2.2.1 1, N, .inl (nb za_f)))]) := by
  refine Ev.intro (by decide) (Nat.le_of_ble_eq_true rfl) ?_
  intro X B hr hI
  have B : Bd E X cX2_add RX2 2 0 0 0 0 := B
  have hr : Rt E X none 0 0 (fun v_ w_ => ∃ zt_1 : Int32, ∃ za_f : Nat → Int32, v_ = none ∧ w_ = [(t, .inr (2, [.ref a, .int zt_1])), (a, .inl (E.2.2.1 1, N, .inl (nb za_f)))]) := hr
  show G E X 2 [(t, .inr (2, [.ref a, .int t_1])), (a, .inl (E.2.2.1 1, N, .inl (nb a_f)))] 0 0 [(0, .ref t), (1, .int b)] 0 []
  refine g_aload_n B dX2_add_0 rfl 0 rfl ?_
  refine g_get B 0 1 fl_X2_21 rfl rfl dX2_add_1 ?_
  refine g_if_lt (tgt := 40) B dX2_add_4 (by decide) (fun c4_109 => ?_) (fun c4_109 => ?_)
  · exact g_vret B hr dX2_add_40 (by decide) (by decide) ⟨t_1, a_f, rfl, rfl⟩
  · refine g_aload_n B dX2_add_7 rfl 0 rfl ?_
    refine g_get B 0 1 fl_X2_21 rfl rfl dX2_add_8 ?_
    refine g_aload_n B dX2_add_11 rfl 0 rfl ?_
    refine g_get B 0 0 fl_X2_15 rfl rfl dX2_add_12 ?_
    refine g_alen (v := nI N) B 1 (by decide) rfl rfl dX2_add_15 ?_
    refine g_icmp_ge (tgt := 40) B dX2_add_16 (by decide) (fun c16_110 => ?_) (fun c16_110 => ?_)
    · exact g_vret B hr dX2_add_40 (by decide) (by decide) ⟨t_1, a_f, rfl, rfl⟩
    · refine g_aload_n B dX2_add_19 rfl 0 rfl ?_
      refine g_get B 0 0 fl_X2_15 rfl rfl dX2_add_20 ?_
      refine g_aload_n B dX2_add_23 rfl 0 rfl ?_
      refine g_get B 0 1 fl_X2_21 rfl rfl dX2_add_24 ?_
      refine g_iload_n B dX2_add_27 rfl 1 rfl ?_
      refine g_i2b B dX2_add_28 ?_
      refine g_bast (ws' := [(t, .inr (2, [.ref a, .int t_1])), (a, .inl (E.2.2.1 1, N, .inl (nb (upd a_f (Int32.toNatClampNeg t_1) (Int8.toInt32 (Int32.toInt8 b))))))]) B 1 rfl (in_lt hN c4_109 (o_2 c16_110)) (by rw [nb_upd]; rfl) dX2_add_29 ?_
      refine g_aload_n B dX2_add_30 rfl 0 rfl ?_
      refine g_dup B dX2_add_31 rfl ?_
      refine g_get B 0 1 fl_X2_21 rfl rfl dX2_add_32 ?_
      refine g_iconst (v := 1) B dX2_add_35 (by decide) ?_
      refine g_iadd B dX2_add_36 ?_
      refine g_put (ws' := [(t, .inr (2, [.ref a, .int (t_1 + 1)])), (a, .inl (E.2.2.1 1, N, .inl (nb (upd a_f (Int32.toNatClampNeg t_1) (Int8.toInt32 (Int32.toInt8 b))))))]) B 0 1 fl_X2_21 pf_X2_1 rfl (Nat.le_of_ble_eq_true rfl) rfl rfl rfl dX2_add_37 ?_
      exact g_vret B hr dX2_add_40 (by decide) (by decide) ⟨(t_1 + 1), (upd a_f (Int32.toNatClampNeg t_1) (Int8.toInt32 (Int32.toInt8 b))), rfl, rfl⟩
abbrev MX2_turn : g_M := (yX2_turn, cX2_turn, 3, (some .boolean))
theorem dX2_turn_0 : decode cX2_turn 0 = .ok (.iload_n 1, 1) := by decide +kernel
theorem dX2_turn_1 : decode cX2_turn 1 = .ok (.ifCond .lt 20, 3) := by decide +kernel
theorem dX2_turn_21 : decode cX2_turn 21 = .ok (.iconst 0, 1) := by decide +kernel
theorem dX2_turn_22 : decode cX2_turn 22 = .ok (.ireturn, 1) := by decide +kernel
theorem dX2_turn_4 : decode cX2_turn 4 = .ok (.iload_n 1, 1) := by decide +kernel
theorem dX2_turn_5 : decode cX2_turn 5 = .ok (.aload_n 0, 1) := by decide +kernel
theorem dX2_turn_6 : decode cX2_turn 6 = .ok (.getfield 21, 3) := by decide +kernel
theorem dX2_turn_9 : decode cX2_turn 9 = .ok (.if_icmp .ge 12, 3) := by decide +kernel
theorem dX2_turn_12 : decode cX2_turn 12 = .ok (.iload_n 1, 1) := by decide +kernel
theorem dX2_turn_13 : decode cX2_turn 13 = .ok (.aload_n 0, 1) := by decide +kernel
theorem dX2_turn_14 : decode cX2_turn 14 = .ok (.getfield 15, 3) := by decide +kernel
theorem dX2_turn_17 : decode cX2_turn 17 = .ok (.arraylength, 1) := by decide +kernel
theorem dX2_turn_18 : decode cX2_turn 18 = .ok (.if_icmp .lt 5, 3) := by decide +kernel
theorem dX2_turn_23 : decode cX2_turn 23 = .ok (.aload_n 0, 1) := by decide +kernel
theorem dX2_turn_24 : decode cX2_turn 24 = .ok (.getfield 15, 3) := by decide +kernel
theorem dX2_turn_27 : decode cX2_turn 27 = .ok (.iload_n 1, 1) := by decide +kernel
theorem dX2_turn_28 : decode cX2_turn 28 = .ok (.aload_n 0, 1) := by decide +kernel
theorem dX2_turn_29 : decode cX2_turn 29 = .ok (.getfield 15, 3) := by decide +kernel
theorem dX2_turn_32 : decode cX2_turn 32 = .ok (.iload_n 1, 1) := by decide +kernel
theorem dX2_turn_33 : decode cX2_turn 33 = .ok (.baload, 1) := by decide +kernel
theorem dX2_turn_34 : decode cX2_turn 34 = .ok (.iload_n 2, 1) := by decide +kernel
theorem dX2_turn_35 : decode cX2_turn 35 = .ok (.ixor, 1) := by decide +kernel
theorem dX2_turn_36 : decode cX2_turn 36 = .ok (.i2b, 1) := by decide +kernel
theorem dX2_turn_37 : decode cX2_turn 37 = .ok (.bastore, 1) := by decide +kernel
theorem dX2_turn_38 : decode cX2_turn 38 = .ok (.iconst 1, 1) := by decide +kernel
theorem dX2_turn_39 : decode cX2_turn 39 = .ok (.ireturn, 1) := by decide +kernel
set_option maxRecDepth 100000 in
set_option maxHeartbeats 4000000 in
theorem wk_X2_turn (E : g_E) (t : Nat) (a : Nat) (N : Nat) (t_1 : Int32) (a_f : Nat → Int32) (i : Int32) (b : Int32) (hN : N < 2147483648) : Ev E MX2_turn 0 0 0 0 [.ref t, .int i, .int b] [(t, .inr (2, [.ref a, .int t_1])), (a, .inl (E.2.2.1 1, N, .inl (nb a_f)))] (fun v_ w_ => ∃ zt_1 : Int32, ∃ za_f : Nat → Int32, ∃ zr : Int32, (zr = 0 ∨ zr = 1) ∧ v_ = some (.int zr) ∧ w_ = [(t, .inr (2, [.ref a, .int zt_1])), (a, .inl (E.2.2.1 1, N, .inl (nb za_f)))]) := by
  refine Ev.intro (by decide) (Nat.le_of_ble_eq_true rfl) ?_
  intro X B hr hI
  have B : Bd E X cX2_turn RX2 3 0 0 0 0 := B
  have hr : Rt E X (some .boolean) 0 0 (fun v_ w_ => ∃ zt_1 : Int32, ∃ za_f : Nat → Int32, ∃ zr : Int32, (zr = 0 ∨ zr = 1) ∧ v_ = some (.int zr) ∧ w_ = [(t, .inr (2, [.ref a, .int zt_1])), (a, .inl (E.2.2.1 1, N, .inl (nb za_f)))]) := hr
  show G E X 3 [(t, .inr (2, [.ref a, .int t_1])), (a, .inl (E.2.2.1 1, N, .inl (nb a_f)))] 0 0 [(0, .ref t), (1, .int i), (2, .int b)] 0 []
  refine g_iload_n B dX2_turn_0 rfl 1 rfl ?_
  refine g_if_lt (tgt := 21) B dX2_turn_1 (by decide) (fun c1_111 => ?_) (fun c1_111 => ?_)
  · refine g_iconst (v := 0) B dX2_turn_21 (by decide) ?_
    exact g_zret B hr (by decide) dX2_turn_22 (by decide) (by decide) ⟨t_1, a_f, 0, (Or.inl rfl), rfl, rfl⟩
  · refine g_iload_n B dX2_turn_4 rfl 1 rfl ?_
    refine g_aload_n B dX2_turn_5 rfl 0 rfl ?_
    refine g_get B 0 1 fl_X2_21 rfl rfl dX2_turn_6 ?_
    refine g_icmp_ge (tgt := 21) B dX2_turn_9 (by decide) (fun c9_112 => ?_) (fun c9_112 => ?_)
    · refine g_iconst (v := 0) B dX2_turn_21 (by decide) ?_
      exact g_zret B hr (by decide) dX2_turn_22 (by decide) (by decide) ⟨t_1, a_f, 0, (Or.inl rfl), rfl, rfl⟩
    · refine g_iload_n B dX2_turn_12 rfl 1 rfl ?_
      refine g_aload_n B dX2_turn_13 rfl 0 rfl ?_
      refine g_get B 0 0 fl_X2_15 rfl rfl dX2_turn_14 ?_
      refine g_alen (v := nI N) B 1 (by decide) rfl rfl dX2_turn_17 ?_
      refine g_icmp_lt (tgt := 23) B dX2_turn_18 (by decide) (fun c18_113 => ?_) (fun c18_113 => ?_)
      · refine g_aload_n B dX2_turn_23 rfl 0 rfl ?_
        refine g_get B 0 0 fl_X2_15 rfl rfl dX2_turn_24 ?_
        refine g_iload_n B dX2_turn_27 rfl 1 rfl ?_
        refine g_aload_n B dX2_turn_28 rfl 0 rfl ?_
        refine g_get B 0 0 fl_X2_15 rfl rfl dX2_turn_29 ?_
        refine g_iload_n B dX2_turn_32 rfl 1 rfl ?_
        refine g_bald B 1 rfl (in_lt hN c1_111 c18_113) dX2_turn_33 ?_
        refine g_iload_n B dX2_turn_34 rfl 2 rfl ?_
        refine g_ixor B dX2_turn_35 ?_
        refine g_i2b B dX2_turn_36 ?_
        refine g_bast (ws' := [(t, .inr (2, [.ref a, .int t_1])), (a, .inl (E.2.2.1 1, N, .inl (nb (upd a_f (Int32.toNatClampNeg i) (Int8.toInt32 (Int32.toInt8 (((nb a_f) (Int32.toNatClampNeg i)) ^^^ b)))))))]) B 1 rfl (in_lt hN c1_111 c18_113) (by rw [nb_upd]; rfl) dX2_turn_37 ?_
        refine g_iconst (v := 1) B dX2_turn_38 (by decide) ?_
        exact g_zret B hr (by decide) dX2_turn_39 (by decide) (by decide) ⟨t_1, (upd a_f (Int32.toNatClampNeg i) (Int8.toInt32 (Int32.toInt8 (((nb a_f) (Int32.toNatClampNeg i)) ^^^ b)))), 1, (Or.inr rfl), rfl, rfl⟩
      · refine g_iconst (v := 0) B dX2_turn_21 (by decide) ?_
        exact g_zret B hr (by decide) dX2_turn_22 (by decide) (by decide) ⟨t_1, a_f, 0, (Or.inl rfl), rfl, rfl⟩
abbrev MX2_shorten : g_M := (yX2_shorten, cX2_shorten, 2, (some .boolean))
theorem dX2_shorten_0 : decode cX2_shorten 0 = .ok (.iload_n 1, 1) := by decide +kernel
theorem dX2_shorten_1 : decode cX2_shorten 1 = .ok (.ifCond .lt 11, 3) := by decide +kernel
theorem dX2_shorten_12 : decode cX2_shorten 12 = .ok (.iconst 0, 1) := by decide +kernel
theorem dX2_shorten_13 : decode cX2_shorten 13 = .ok (.ireturn, 1) := by decide +kernel
theorem dX2_shorten_4 : decode cX2_shorten 4 = .ok (.iload_n 1, 1) := by decide +kernel
theorem dX2_shorten_5 : decode cX2_shorten 5 = .ok (.aload_n 0, 1) := by decide +kernel
theorem dX2_shorten_6 : decode cX2_shorten 6 = .ok (.getfield 21, 3) := by decide +kernel
theorem dX2_shorten_9 : decode cX2_shorten 9 = .ok (.if_icmp .le 5, 3) := by decide +kernel
theorem dX2_shorten_14 : decode cX2_shorten 14 = .ok (.aload_n 0, 1) := by decide +kernel
theorem dX2_shorten_15 : decode cX2_shorten 15 = .ok (.iload_n 1, 1) := by decide +kernel
theorem dX2_shorten_16 : decode cX2_shorten 16 = .ok (.putfield 21, 3) := by decide +kernel
theorem dX2_shorten_19 : decode cX2_shorten 19 = .ok (.iconst 1, 1) := by decide +kernel
theorem dX2_shorten_20 : decode cX2_shorten 20 = .ok (.ireturn, 1) := by decide +kernel
set_option maxRecDepth 100000 in
set_option maxHeartbeats 4000000 in
theorem wk_X2_shorten (E : g_E) (t : Nat) (a : Nat) (N : Nat) (t_1 : Int32) (a_f : Nat → Int32) (n : Int32) (hN : N < 2147483648) : Ev E MX2_shorten 0 0 0 0 [.ref t, .int n] [(t, .inr (2, [.ref a, .int t_1])), (a, .inl (E.2.2.1 1, N, .inl (nb a_f)))] (fun v_ w_ => ∃ zt_1 : Int32, ∃ za_f : Nat → Int32, ∃ zr : Int32, (zr = 0 ∨ zr = 1) ∧ v_ = some (.int zr) ∧ w_ = [(t, .inr (2, [.ref a, .int zt_1])), (a, .inl (E.2.2.1 1, N, .inl (nb za_f)))]) := by
  refine Ev.intro (by decide) (Nat.le_of_ble_eq_true rfl) ?_
  intro X B hr hI
  have B : Bd E X cX2_shorten RX2 2 0 0 0 0 := B
  have hr : Rt E X (some .boolean) 0 0 (fun v_ w_ => ∃ zt_1 : Int32, ∃ za_f : Nat → Int32, ∃ zr : Int32, (zr = 0 ∨ zr = 1) ∧ v_ = some (.int zr) ∧ w_ = [(t, .inr (2, [.ref a, .int zt_1])), (a, .inl (E.2.2.1 1, N, .inl (nb za_f)))]) := hr
  show G E X 2 [(t, .inr (2, [.ref a, .int t_1])), (a, .inl (E.2.2.1 1, N, .inl (nb a_f)))] 0 0 [(0, .ref t), (1, .int n)] 0 []
  refine g_iload_n B dX2_shorten_0 rfl 1 rfl ?_
  refine g_if_lt (tgt := 12) B dX2_shorten_1 (by decide) (fun c1_114 => ?_) (fun c1_114 => ?_)
  · refine g_iconst (v := 0) B dX2_shorten_12 (by decide) ?_
    exact g_zret B hr (by decide) dX2_shorten_13 (by decide) (by decide) ⟨t_1, a_f, 0, (Or.inl rfl), rfl, rfl⟩
  · refine g_iload_n B dX2_shorten_4 rfl 1 rfl ?_
    refine g_aload_n B dX2_shorten_5 rfl 0 rfl ?_
    refine g_get B 0 1 fl_X2_21 rfl rfl dX2_shorten_6 ?_
    refine g_icmp_le (tgt := 14) B dX2_shorten_9 (by decide) (fun c9_115 => ?_) (fun c9_115 => ?_)
    · refine g_aload_n B dX2_shorten_14 rfl 0 rfl ?_
      refine g_iload_n B dX2_shorten_15 rfl 1 rfl ?_
      refine g_put (ws' := [(t, .inr (2, [.ref a, .int n])), (a, .inl (E.2.2.1 1, N, .inl (nb a_f)))]) B 0 1 fl_X2_21 pf_X2_1 rfl (Nat.le_of_ble_eq_true rfl) rfl rfl rfl dX2_shorten_16 ?_
      refine g_iconst (v := 1) B dX2_shorten_19 (by decide) ?_
      exact g_zret B hr (by decide) dX2_shorten_20 (by decide) (by decide) ⟨n, a_f, 1, (Or.inr rfl), rfl, rfl⟩
    · refine g_iconst (v := 0) B dX2_shorten_12 (by decide) ?_
      exact g_zret B hr (by decide) dX2_shorten_13 (by decide) (by decide) ⟨t_1, a_f, 0, (Or.inl rfl), rfl, rfl⟩
abbrev MX2_addWord : g_M := (yX2_addWord, cX2_addWord, 3, none)
theorem dX2_addWord_0 : decode cX2_addWord 0 = .ok (.bipush 24, 2) := by decide +kernel
theorem dX2_addWord_2 : decode cX2_addWord 2 = .ok (.istore_n 2, 1) := by decide +kernel
theorem dX2_addWord_3 : decode cX2_addWord 3 = .ok (.iload_n 2, 1) := by decide +kernel
theorem dX2_addWord_4 : decode cX2_addWord 4 = .ok (.ifCond .lt 16, 3) := by decide +kernel
theorem dX2_addWord_7 : decode cX2_addWord 7 = .ok (.aload_n 0, 1) := by decide +kernel
theorem dX2_addWord_8 : decode cX2_addWord 8 = .ok (.iload_n 1, 1) := by decide +kernel
theorem dX2_addWord_9 : decode cX2_addWord 9 = .ok (.iload_n 2, 1) := by decide +kernel
theorem dX2_addWord_10 : decode cX2_addWord 10 = .ok (.ishr, 1) := by decide +kernel
theorem dX2_addWord_11 : decode cX2_addWord 11 = .ok (.invokevirtual 25, 3) := by decide +kernel
theorem w_ml_X2_25 : Cond.methodLink RX2 25 yX2_add ∈ g_tbl := g_tbl_in 500 (by decide +kernel) (by decide +kernel)
theorem w_cd_X2_add : g_cw MX2_add ∈ g_tbl := g_tbl_in 495 (by decide +kernel) (by decide +kernel)
theorem cl_X2_25 : CL RX2 25 1 MX2_add := ⟨w_ml_X2_25, w_cd_X2_add, w_ini_X2, by decide +kernel, by decide +kernel, by decide +kernel⟩
theorem w_im_X2_add : Cond.instanceMethod yX2_add ∈ g_tbl := g_tbl_in 493 (by decide +kernel) (by decide +kernel)
theorem w_se_X2_add : Cond.selects RX2 yX2_add yX2_add ∈ g_tbl := g_tbl_in 494 (by decide +kernel) (by decide +kernel)
theorem dX2_addWord_14 : decode cX2_addWord 14 = .ok (.iinc 2 (-8), 3) := by decide +kernel
theorem dX2_addWord_17 : decode cX2_addWord 17 = .ok (.goto (-14), 3) := by decide +kernel
theorem dX2_addWord_20 : decode cX2_addWord 20 = .ok (.return_, 1) := by decide +kernel
set_option maxRecDepth 100000 in
set_option maxHeartbeats 4000000 in
theorem wk_X2_addWord (E : g_E) (t : Nat) (a : Nat) (N : Nat) (t_1 : Int32) (a_f : Nat → Int32) (w : Int32) (hN : N < 2147483648) : Ev E MX2_addWord 1 21 0 0 [.ref t, .int w] [(t, .inr (2, [.ref a, .int t_1])), (a, .inl (E.2.2.1 1, N, .inl (nb a_f)))] (fun v_ w_ => ∃ zt_1 : Int32, ∃ za_f : Nat → Int32, v_ = none ∧ w_ = [(t, .inr (2, [.ref a, .int zt_1])), (a, .inl (E.2.2.1 1, N, .inl (nb za_f)))]) := by
  refine Ev.intro (by decide) (Nat.le_of_ble_eq_true rfl) ?_
  intro X B hr hI
  have B : Bd E X cX2_addWord RX2 3 1 21 0 0 := B
  have hr : Rt E X none 0 0 (fun v_ w_ => ∃ zt_1 : Int32, ∃ za_f : Nat → Int32, v_ = none ∧ w_ = [(t, .inr (2, [.ref a, .int zt_1])), (a, .inl (E.2.2.1 1, N, .inl (nb za_f)))]) := hr
  show G E X 3 [(t, .inr (2, [.ref a, .int t_1])), (a, .inl (E.2.2.1 1, N, .inl (nb a_f)))] 0 0 [(0, .ref t), (1, .int w)] 0 []
  refine g_bipush (v := 24) B dX2_addWord_0 (by decide) ?_
  refine g_istore_n (lv' := [(2, .int 24), (0, .ref t), (1, .int w)]) B dX2_addWord_2 rfl (by decide) rfl ?_
  refine g_iload_n B dX2_addWord_3 rfl 0 rfl ?_
  refine g_if_lt (tgt := 20) B dX2_addWord_4 (by decide) (fun h => absurd h (by decide)) (fun c4 => ?_)
  refine g_aload_n B dX2_addWord_7 rfl 1 rfl ?_
  refine g_iload_n B dX2_addWord_8 rfl 2 rfl ?_
  refine g_iload_n B dX2_addWord_9 rfl 0 rfl ?_
  refine g_ishr B dX2_addWord_10 ?_
  refine g_callV (st := []) (As := [.int (w >>> (24 &&& 31))]) (wr := []) (nc' := 0) (ns' := 0) B cl_X2_25 w_im_X2_add w_se_X2_add (wk_X2_add E t a N t_1 a_f (w >>> (24 &&& 31)) (by first | assumption | omega | decide)) rfl [0, 1] [] rfl rfl (by decide) (by decide) (by decide) 0 rfl (fun q h => by cases h; rfl) rfl ⟨by decide, by decide⟩ rfl rfl (by decide) (by decide) rfl (Nat.le_of_ble_eq_true rfl) dX2_addWord_11 (fun v w hq => ?_)
  obtain ⟨zt_1_116, za_f_117, rfl, rfl⟩ := hq
  show G E X 3 [(t, .inr (2, [.ref a, .int zt_1_116])), (a, .inl (E.2.2.1 1, N, .inl (nb za_f_117)))] 0 0 [(2, .int 24), (0, .ref t), (1, .int w)] 14 []
  refine g_iinc (v := 16) (lv' := [(2, .int 16), (0, .ref t), (1, .int w)]) B dX2_addWord_14 0 rfl (by decide) (by decide) rfl ?_
  refine g_goto (tgt := 3) B dX2_addWord_17 (by decide) ?_
  refine g_iload_n B dX2_addWord_3 rfl 0 rfl ?_
  refine g_if_lt (tgt := 20) B dX2_addWord_4 (by decide) (fun h => absurd h (by decide)) (fun c4 => ?_)
  refine g_aload_n B dX2_addWord_7 rfl 1 rfl ?_
  refine g_iload_n B dX2_addWord_8 rfl 2 rfl ?_
  refine g_iload_n B dX2_addWord_9 rfl 0 rfl ?_
  refine g_ishr B dX2_addWord_10 ?_
  refine g_callV (st := []) (As := [.int (w >>> (16 &&& 31))]) (wr := []) (nc' := 0) (ns' := 0) B cl_X2_25 w_im_X2_add w_se_X2_add (wk_X2_add E t a N zt_1_116 za_f_117 (w >>> (16 &&& 31)) (by first | assumption | omega | decide)) rfl [0, 1] [] rfl rfl (by decide) (by decide) (by decide) 0 rfl (fun q h => by cases h; rfl) rfl ⟨by decide, by decide⟩ rfl rfl (by decide) (by decide) rfl (Nat.le_of_ble_eq_true rfl) dX2_addWord_11 (fun v w hq => ?_)
  obtain ⟨zt_1_118, za_f_119, rfl, rfl⟩ := hq
  show G E X 3 [(t, .inr (2, [.ref a, .int zt_1_118])), (a, .inl (E.2.2.1 1, N, .inl (nb za_f_119)))] 0 0 [(2, .int 16), (0, .ref t), (1, .int w)] 14 []
  refine g_iinc (v := 8) (lv' := [(2, .int 8), (0, .ref t), (1, .int w)]) B dX2_addWord_14 0 rfl (by decide) (by decide) rfl ?_
  refine g_goto (tgt := 3) B dX2_addWord_17 (by decide) ?_
  refine g_iload_n B dX2_addWord_3 rfl 0 rfl ?_
  refine g_if_lt (tgt := 20) B dX2_addWord_4 (by decide) (fun h => absurd h (by decide)) (fun c4 => ?_)
  refine g_aload_n B dX2_addWord_7 rfl 1 rfl ?_
  refine g_iload_n B dX2_addWord_8 rfl 2 rfl ?_
  refine g_iload_n B dX2_addWord_9 rfl 0 rfl ?_
  refine g_ishr B dX2_addWord_10 ?_
  refine g_callV (st := []) (As := [.int (w >>> (8 &&& 31))]) (wr := []) (nc' := 0) (ns' := 0) B cl_X2_25 w_im_X2_add w_se_X2_add (wk_X2_add E t a N zt_1_118 za_f_119 (w >>> (8 &&& 31)) (by first | assumption | omega | decide)) rfl [0, 1] [] rfl rfl (by decide) (by decide) (by decide) 0 rfl (fun q h => by cases h; rfl) rfl ⟨by decide, by decide⟩ rfl rfl (by decide) (by decide) rfl (Nat.le_of_ble_eq_true rfl) dX2_addWord_11 (fun v w hq => ?_)
  obtain ⟨zt_1_120, za_f_121, rfl, rfl⟩ := hq
  show G E X 3 [(t, .inr (2, [.ref a, .int zt_1_120])), (a, .inl (E.2.2.1 1, N, .inl (nb za_f_121)))] 0 0 [(2, .int 8), (0, .ref t), (1, .int w)] 14 []
  refine g_iinc (v := 0) (lv' := [(2, .int 0), (0, .ref t), (1, .int w)]) B dX2_addWord_14 0 rfl (by decide) (by decide) rfl ?_
  refine g_goto (tgt := 3) B dX2_addWord_17 (by decide) ?_
  refine g_iload_n B dX2_addWord_3 rfl 0 rfl ?_
  refine g_if_lt (tgt := 20) B dX2_addWord_4 (by decide) (fun h => absurd h (by decide)) (fun c4 => ?_)
  refine g_aload_n B dX2_addWord_7 rfl 1 rfl ?_
  refine g_iload_n B dX2_addWord_8 rfl 2 rfl ?_
  refine g_iload_n B dX2_addWord_9 rfl 0 rfl ?_
  refine g_ishr B dX2_addWord_10 ?_
  refine g_callV (st := []) (As := [.int (w >>> (0 &&& 31))]) (wr := []) (nc' := 0) (ns' := 0) B cl_X2_25 w_im_X2_add w_se_X2_add (wk_X2_add E t a N zt_1_120 za_f_121 (w >>> (0 &&& 31)) (by first | assumption | omega | decide)) rfl [0, 1] [] rfl rfl (by decide) (by decide) (by decide) 0 rfl (fun q h => by cases h; rfl) rfl ⟨by decide, by decide⟩ rfl rfl (by decide) (by decide) rfl (Nat.le_of_ble_eq_true rfl) dX2_addWord_11 (fun v w hq => ?_)
  obtain ⟨zt_1_122, za_f_123, rfl, rfl⟩ := hq
  show G E X 3 [(t, .inr (2, [.ref a, .int zt_1_122])), (a, .inl (E.2.2.1 1, N, .inl (nb za_f_123)))] 0 0 [(2, .int 0), (0, .ref t), (1, .int w)] 14 []
  refine g_iinc (v := (-8)) (lv' := [(2, .int (-8)), (0, .ref t), (1, .int w)]) B dX2_addWord_14 0 rfl (by decide) (by decide) rfl ?_
  refine g_goto (tgt := 3) B dX2_addWord_17 (by decide) ?_
  refine g_iload_n B dX2_addWord_3 rfl 0 rfl ?_
  refine g_if_lt (tgt := 20) B dX2_addWord_4 (by decide) (fun c4 => ?_) (fun h => absurd (by decide) h)
  exact g_vret B hr dX2_addWord_20 (by decide) (by decide) ⟨zt_1_122, za_f_123, rfl, rfl⟩
abbrev MX2_wordAt : g_M := (yX2_wordAt, cX2_wordAt, 4, (some .int))
theorem dX2_wordAt_0 : decode cX2_wordAt 0 = .ok (.iconst 0, 1) := by decide +kernel
theorem dX2_wordAt_1 : decode cX2_wordAt 1 = .ok (.istore_n 2, 1) := by decide +kernel
theorem dX2_wordAt_2 : decode cX2_wordAt 2 = .ok (.iconst 0, 1) := by decide +kernel
theorem dX2_wordAt_3 : decode cX2_wordAt 3 = .ok (.istore_n 3, 1) := by decide +kernel
theorem dX2_wordAt_4 : decode cX2_wordAt 4 = .ok (.iload_n 3, 1) := by decide +kernel
theorem dX2_wordAt_5 : decode cX2_wordAt 5 = .ok (.iconst 4, 1) := by decide +kernel
theorem dX2_wordAt_6 : decode cX2_wordAt 6 = .ok (.if_icmp .ge 26, 3) := by decide +kernel
theorem dX2_wordAt_9 : decode cX2_wordAt 9 = .ok (.iload_n 2, 1) := by decide +kernel
theorem dX2_wordAt_10 : decode cX2_wordAt 10 = .ok (.bipush 8, 2) := by decide +kernel
theorem dX2_wordAt_12 : decode cX2_wordAt 12 = .ok (.ishl, 1) := by decide +kernel
theorem dX2_wordAt_13 : decode cX2_wordAt 13 = .ok (.aload_n 0, 1) := by decide +kernel
theorem dX2_wordAt_14 : decode cX2_wordAt 14 = .ok (.iload_n 1, 1) := by decide +kernel
theorem dX2_wordAt_15 : decode cX2_wordAt 15 = .ok (.iload_n 3, 1) := by decide +kernel
theorem dX2_wordAt_16 : decode cX2_wordAt 16 = .ok (.iadd, 1) := by decide +kernel
theorem dX2_wordAt_17 : decode cX2_wordAt 17 = .ok (.invokevirtual 29, 3) := by decide +kernel
theorem w_ml_X2_29 : Cond.methodLink RX2 29 yX2_at ∈ g_tbl := g_tbl_in 754 (by decide +kernel) (by decide +kernel)
theorem w_cd_X2_at : g_cw MX2_at ∈ g_tbl := g_tbl_in 702 (by decide +kernel) (by decide +kernel)
theorem cl_X2_29 : CL RX2 29 1 MX2_at := ⟨w_ml_X2_29, w_cd_X2_at, w_ini_X2, by decide +kernel, by decide +kernel, by decide +kernel⟩
theorem w_im_X2_at : Cond.instanceMethod yX2_at ∈ g_tbl := g_tbl_in 700 (by decide +kernel) (by decide +kernel)
theorem w_se_X2_at : Cond.selects RX2 yX2_at yX2_at ∈ g_tbl := g_tbl_in 701 (by decide +kernel) (by decide +kernel)
theorem dX2_wordAt_20 : decode cX2_wordAt 20 = .ok (.sipush 255, 3) := by decide +kernel
theorem dX2_wordAt_23 : decode cX2_wordAt 23 = .ok (.iand, 1) := by decide +kernel
theorem dX2_wordAt_24 : decode cX2_wordAt 24 = .ok (.ior, 1) := by decide +kernel
theorem dX2_wordAt_25 : decode cX2_wordAt 25 = .ok (.istore_n 2, 1) := by decide +kernel
theorem dX2_wordAt_26 : decode cX2_wordAt 26 = .ok (.iinc 3 1, 3) := by decide +kernel
theorem dX2_wordAt_29 : decode cX2_wordAt 29 = .ok (.goto (-25), 3) := by decide +kernel
theorem dX2_wordAt_32 : decode cX2_wordAt 32 = .ok (.iload_n 2, 1) := by decide +kernel
theorem dX2_wordAt_33 : decode cX2_wordAt 33 = .ok (.ireturn, 1) := by decide +kernel
set_option maxRecDepth 100000 in
set_option maxHeartbeats 4000000 in
theorem wk_X2_wordAt (E : g_E) (t : Nat) (a : Nat) (N : Nat) (t_1 : Int32) (a_f : Nat → Int32) (i : Int32) (hN : N < 2147483648) : Ev E MX2_wordAt 1 21 0 0 [.ref t, .int i] [(t, .inr (2, [.ref a, .int t_1])), (a, .inl (E.2.2.1 1, N, .inl (nb a_f)))] (fun v_ w_ => ∃ zt_1 : Int32, ∃ za_f : Nat → Int32, ∃ zr : Int32, v_ = some (.int zr) ∧ w_ = [(t, .inr (2, [.ref a, .int zt_1])), (a, .inl (E.2.2.1 1, N, .inl (nb za_f)))]) := by
  refine Ev.intro (by decide) (Nat.le_of_ble_eq_true rfl) ?_
  intro X B hr hI
  have B : Bd E X cX2_wordAt RX2 4 1 21 0 0 := B
  have hr : Rt E X (some .int) 0 0 (fun v_ w_ => ∃ zt_1 : Int32, ∃ za_f : Nat → Int32, ∃ zr : Int32, v_ = some (.int zr) ∧ w_ = [(t, .inr (2, [.ref a, .int zt_1])), (a, .inl (E.2.2.1 1, N, .inl (nb za_f)))]) := hr
  show G E X 4 [(t, .inr (2, [.ref a, .int t_1])), (a, .inl (E.2.2.1 1, N, .inl (nb a_f)))] 0 0 [(0, .ref t), (1, .int i)] 0 []
  refine g_iconst (v := 0) B dX2_wordAt_0 (by decide) ?_
  refine g_istore_n (lv' := [(2, .int 0), (0, .ref t), (1, .int i)]) B dX2_wordAt_1 rfl (by decide) rfl ?_
  refine g_iconst (v := 0) B dX2_wordAt_2 (by decide) ?_
  refine g_istore_n (lv' := [(3, .int 0), (2, .int 0), (0, .ref t), (1, .int i)]) B dX2_wordAt_3 rfl (by decide) rfl ?_
  refine g_iload_n B dX2_wordAt_4 rfl 0 rfl ?_
  refine g_iconst (v := 4) B dX2_wordAt_5 (by decide) ?_
  refine g_icmp_ge (tgt := 32) B dX2_wordAt_6 (by decide) (fun h => absurd h (by decide)) (fun c6 => ?_)
  refine g_iload_n B dX2_wordAt_9 rfl 1 rfl ?_
  refine g_bipush (v := 8) B dX2_wordAt_10 (by decide) ?_
  refine g_ishl B dX2_wordAt_12 ?_
  refine g_ri (x' := 0) (by decide) ?_
  refine g_aload_n B dX2_wordAt_13 rfl 2 rfl ?_
  refine g_iload_n B dX2_wordAt_14 rfl 3 rfl ?_
  refine g_iload_n B dX2_wordAt_15 rfl 0 rfl ?_
  refine g_iadd B dX2_wordAt_16 ?_
  refine g_callV (st := [.int 0]) (As := [.int (i + 0)]) (wr := []) (nc' := 0) (ns' := 0) B cl_X2_29 w_im_X2_at w_se_X2_at (wk_X2_at E t a N t_1 a_f (i + 0) (by first | assumption | omega | decide)) rfl [0, 1] [] rfl rfl (by decide) (by decide) (by decide) 0 rfl (fun q h => by cases h; rfl) rfl ⟨by decide, by decide⟩ rfl rfl (by decide) (by decide) rfl (Nat.le_of_ble_eq_true rfl) dX2_wordAt_17 (fun v w hq => ?_)
  obtain ⟨zt_1_124, za_f_125, zr_126, rfl, rfl⟩ := hq
  show G E X 4 [(t, .inr (2, [.ref a, .int zt_1_124])), (a, .inl (E.2.2.1 1, N, .inl (nb za_f_125)))] 0 0 [(3, .int 0), (2, .int 0), (0, .ref t), (1, .int i)] 20 [.int zr_126, .int 0]
  refine g_sipush (v := 255) B dX2_wordAt_20 (by decide) ?_
  refine g_iand B dX2_wordAt_23 ?_
  refine g_ior B dX2_wordAt_24 ?_
  refine g_istore_n (lv' := [(2, .int (0 ||| (zr_126 &&& 255))), (3, .int 0), (0, .ref t), (1, .int i)]) B dX2_wordAt_25 rfl (by decide) rfl ?_
  refine g_iinc (v := 1) (lv' := [(3, .int 1), (2, .int (0 ||| (zr_126 &&& 255))), (0, .ref t), (1, .int i)]) B dX2_wordAt_26 1 rfl (by decide) (by decide) rfl ?_
  refine g_goto (tgt := 4) B dX2_wordAt_29 (by decide) ?_
  refine g_iload_n B dX2_wordAt_4 rfl 0 rfl ?_
  refine g_iconst (v := 4) B dX2_wordAt_5 (by decide) ?_
  refine g_icmp_ge (tgt := 32) B dX2_wordAt_6 (by decide) (fun h => absurd h (by decide)) (fun c6 => ?_)
  refine g_iload_n B dX2_wordAt_9 rfl 1 rfl ?_
  refine g_bipush (v := 8) B dX2_wordAt_10 (by decide) ?_
  refine g_ishl B dX2_wordAt_12 ?_
  refine g_aload_n B dX2_wordAt_13 rfl 2 rfl ?_
  refine g_iload_n B dX2_wordAt_14 rfl 3 rfl ?_
  refine g_iload_n B dX2_wordAt_15 rfl 0 rfl ?_
  refine g_iadd B dX2_wordAt_16 ?_
  refine g_callV (st := [.int ((0 ||| (zr_126 &&& 255)) <<< (8 &&& 31))]) (As := [.int (i + 1)]) (wr := []) (nc' := 0) (ns' := 0) B cl_X2_29 w_im_X2_at w_se_X2_at (wk_X2_at E t a N zt_1_124 za_f_125 (i + 1) (by first | assumption | omega | decide)) rfl [0, 1] [] rfl rfl (by decide) (by decide) (by decide) 0 rfl (fun q h => by cases h; rfl) rfl ⟨by decide, by decide⟩ rfl rfl (by decide) (by decide) rfl (Nat.le_of_ble_eq_true rfl) dX2_wordAt_17 (fun v w hq => ?_)
  obtain ⟨zt_1_127, za_f_128, zr_129, rfl, rfl⟩ := hq
  show G E X 4 [(t, .inr (2, [.ref a, .int zt_1_127])), (a, .inl (E.2.2.1 1, N, .inl (nb za_f_128)))] 0 0 [(3, .int 1), (2, .int (0 ||| (zr_126 &&& 255))), (0, .ref t), (1, .int i)] 20 [.int zr_129, .int ((0 ||| (zr_126 &&& 255)) <<< (8 &&& 31))]
  refine g_sipush (v := 255) B dX2_wordAt_20 (by decide) ?_
  refine g_iand B dX2_wordAt_23 ?_
  refine g_ior B dX2_wordAt_24 ?_
  refine g_istore_n (lv' := [(2, .int (((0 ||| (zr_126 &&& 255)) <<< (8 &&& 31)) ||| (zr_129 &&& 255))), (3, .int 1), (0, .ref t), (1, .int i)]) B dX2_wordAt_25 rfl (by decide) rfl ?_
  refine g_iinc (v := 2) (lv' := [(3, .int 2), (2, .int (((0 ||| (zr_126 &&& 255)) <<< (8 &&& 31)) ||| (zr_129 &&& 255))), (0, .ref t), (1, .int i)]) B dX2_wordAt_26 1 rfl (by decide) (by decide) rfl ?_
  refine g_goto (tgt := 4) B dX2_wordAt_29 (by decide) ?_
  refine g_iload_n B dX2_wordAt_4 rfl 0 rfl ?_
  refine g_iconst (v := 4) B dX2_wordAt_5 (by decide) ?_
  refine g_icmp_ge (tgt := 32) B dX2_wordAt_6 (by decide) (fun h => absurd h (by decide)) (fun c6 => ?_)
  refine g_iload_n B dX2_wordAt_9 rfl 1 rfl ?_
  refine g_bipush (v := 8) B dX2_wordAt_10 (by decide) ?_
  refine g_ishl B dX2_wordAt_12 ?_
  refine g_aload_n B dX2_wordAt_13 rfl 2 rfl ?_
  refine g_iload_n B dX2_wordAt_14 rfl 3 rfl ?_
  refine g_iload_n B dX2_wordAt_15 rfl 0 rfl ?_
  refine g_iadd B dX2_wordAt_16 ?_
  refine g_callV (st := [.int ((((0 ||| (zr_126 &&& 255)) <<< (8 &&& 31)) ||| (zr_129 &&& 255)) <<< (8 &&& 31))]) (As := [.int (i + 2)]) (wr := []) (nc' := 0) (ns' := 0) B cl_X2_29 w_im_X2_at w_se_X2_at (wk_X2_at E t a N zt_1_127 za_f_128 (i + 2) (by first | assumption | omega | decide)) rfl [0, 1] [] rfl rfl (by decide) (by decide) (by decide) 0 rfl (fun q h => by cases h; rfl) rfl ⟨by decide, by decide⟩ rfl rfl (by decide) (by decide) rfl (Nat.le_of_ble_eq_true rfl) dX2_wordAt_17 (fun v w hq => ?_)
  obtain ⟨zt_1_130, za_f_131, zr_132, rfl, rfl⟩ := hq
  show G E X 4 [(t, .inr (2, [.ref a, .int zt_1_130])), (a, .inl (E.2.2.1 1, N, .inl (nb za_f_131)))] 0 0 [(3, .int 2), (2, .int (((0 ||| (zr_126 &&& 255)) <<< (8 &&& 31)) ||| (zr_129 &&& 255))), (0, .ref t), (1, .int i)] 20 [.int zr_132, .int ((((0 ||| (zr_126 &&& 255)) <<< (8 &&& 31)) ||| (zr_129 &&& 255)) <<< (8 &&& 31))]
  refine g_sipush (v := 255) B dX2_wordAt_20 (by decide) ?_
  refine g_iand B dX2_wordAt_23 ?_
  refine g_ior B dX2_wordAt_24 ?_
  refine g_istore_n (lv' := [(2, .int (((((0 ||| (zr_126 &&& 255)) <<< (8 &&& 31)) ||| (zr_129 &&& 255)) <<< (8 &&& 31)) ||| (zr_132 &&& 255))), (3, .int 2), (0, .ref t), (1, .int i)]) B dX2_wordAt_25 rfl (by decide) rfl ?_
  refine g_iinc (v := 3) (lv' := [(3, .int 3), (2, .int (((((0 ||| (zr_126 &&& 255)) <<< (8 &&& 31)) ||| (zr_129 &&& 255)) <<< (8 &&& 31)) ||| (zr_132 &&& 255))), (0, .ref t), (1, .int i)]) B dX2_wordAt_26 1 rfl (by decide) (by decide) rfl ?_
  refine g_goto (tgt := 4) B dX2_wordAt_29 (by decide) ?_
  refine g_iload_n B dX2_wordAt_4 rfl 0 rfl ?_
  refine g_iconst (v := 4) B dX2_wordAt_5 (by decide) ?_
  refine g_icmp_ge (tgt := 32) B dX2_wordAt_6 (by decide) (fun h => absurd h (by decide)) (fun c6 => ?_)
  refine g_iload_n B dX2_wordAt_9 rfl 1 rfl ?_
  refine g_bipush (v := 8) B dX2_wordAt_10 (by decide) ?_
  refine g_ishl B dX2_wordAt_12 ?_
  refine g_aload_n B dX2_wordAt_13 rfl 2 rfl ?_
  refine g_iload_n B dX2_wordAt_14 rfl 3 rfl ?_
  refine g_iload_n B dX2_wordAt_15 rfl 0 rfl ?_
  refine g_iadd B dX2_wordAt_16 ?_
  refine g_callV (st := [.int ((((((0 ||| (zr_126 &&& 255)) <<< (8 &&& 31)) ||| (zr_129 &&& 255)) <<< (8 &&& 31)) ||| (zr_132 &&& 255)) <<< (8 &&& 31))]) (As := [.int (i + 3)]) (wr := []) (nc' := 0) (ns' := 0) B cl_X2_29 w_im_X2_at w_se_X2_at (wk_X2_at E t a N zt_1_130 za_f_131 (i + 3) (by first | assumption | omega | decide)) rfl [0, 1] [] rfl rfl (by decide) (by decide) (by decide) 0 rfl (fun q h => by cases h; rfl) rfl ⟨by decide, by decide⟩ rfl rfl (by decide) (by decide) rfl (Nat.le_of_ble_eq_true rfl) dX2_wordAt_17 (fun v w hq => ?_)
  obtain ⟨zt_1_133, za_f_134, zr_135, rfl, rfl⟩ := hq
  show G E X 4 [(t, .inr (2, [.ref a, .int zt_1_133])), (a, .inl (E.2.2.1 1, N, .inl (nb za_f_134)))] 0 0 [(3, .int 3), (2, .int (((((0 ||| (zr_126 &&& 255)) <<< (8 &&& 31)) ||| (zr_129 &&& 255)) <<< (8 &&& 31)) ||| (zr_132 &&& 255))), (0, .ref t), (1, .int i)] 20 [.int zr_135, .int ((((((0 ||| (zr_126 &&& 255)) <<< (8 &&& 31)) ||| (zr_129 &&& 255)) <<< (8 &&& 31)) ||| (zr_132 &&& 255)) <<< (8 &&& 31))]
  refine g_sipush (v := 255) B dX2_wordAt_20 (by decide) ?_
  refine g_iand B dX2_wordAt_23 ?_
  refine g_ior B dX2_wordAt_24 ?_
  refine g_istore_n (lv' := [(2, .int (((((((0 ||| (zr_126 &&& 255)) <<< (8 &&& 31)) ||| (zr_129 &&& 255)) <<< (8 &&& 31)) ||| (zr_132 &&& 255)) <<< (8 &&& 31)) ||| (zr_135 &&& 255))), (3, .int 3), (0, .ref t), (1, .int i)]) B dX2_wordAt_25 rfl (by decide) rfl ?_
  refine g_iinc (v := 4) (lv' := [(3, .int 4), (2, .int (((((((0 ||| (zr_126 &&& 255)) <<< (8 &&& 31)) ||| (zr_129 &&& 255)) <<< (8 &&& 31)) ||| (zr_132 &&& 255)) <<< (8 &&& 31)) ||| (zr_135 &&& 255))), (0, .ref t), (1, .int i)]) B dX2_wordAt_26 1 rfl (by decide) (by decide) rfl ?_
  refine g_goto (tgt := 4) B dX2_wordAt_29 (by decide) ?_
  refine g_iload_n B dX2_wordAt_4 rfl 0 rfl ?_
  refine g_iconst (v := 4) B dX2_wordAt_5 (by decide) ?_
  refine g_icmp_ge (tgt := 32) B dX2_wordAt_6 (by decide) (fun c6 => ?_) (fun h => absurd (by decide) h)
  refine g_iload_n B dX2_wordAt_32 rfl 1 rfl ?_
  exact g_iret B hr dX2_wordAt_33 (by decide) (by decide) ⟨zt_1_133, za_f_134, (((((((0 ||| (zr_126 &&& 255)) <<< (8 &&& 31)) ||| (zr_129 &&& 255)) <<< (8 &&& 31)) ||| (zr_132 &&& 255)) <<< (8 &&& 31)) ||| (zr_135 &&& 255)), rfl, rfl⟩
abbrev MX2_putWord : g_M := (yX2_putWord, cX2_putWord, 4, none)
theorem dX2_putWord_0 : decode cX2_putWord 0 = .ok (.iload_n 1, 1) := by decide +kernel
theorem dX2_putWord_1 : decode cX2_putWord 1 = .ok (.ifCond .lt 24, 3) := by decide +kernel
theorem dX2_putWord_25 : decode cX2_putWord 25 = .ok (.return_, 1) := by decide +kernel
theorem dX2_putWord_4 : decode cX2_putWord 4 = .ok (.iload_n 1, 1) := by decide +kernel
theorem dX2_putWord_5 : decode cX2_putWord 5 = .ok (.iconst 4, 1) := by decide +kernel
theorem dX2_putWord_6 : decode cX2_putWord 6 = .ok (.iadd, 1) := by decide +kernel
theorem dX2_putWord_7 : decode cX2_putWord 7 = .ok (.aload_n 0, 1) := by decide +kernel
theorem dX2_putWord_8 : decode cX2_putWord 8 = .ok (.getfield 21, 3) := by decide +kernel
theorem dX2_putWord_11 : decode cX2_putWord 11 = .ok (.if_icmp .gt 14, 3) := by decide +kernel
theorem dX2_putWord_14 : decode cX2_putWord 14 = .ok (.iload_n 1, 1) := by decide +kernel
theorem dX2_putWord_15 : decode cX2_putWord 15 = .ok (.iconst 4, 1) := by decide +kernel
theorem dX2_putWord_16 : decode cX2_putWord 16 = .ok (.iadd, 1) := by decide +kernel
theorem dX2_putWord_17 : decode cX2_putWord 17 = .ok (.aload_n 0, 1) := by decide +kernel
theorem dX2_putWord_18 : decode cX2_putWord 18 = .ok (.getfield 15, 3) := by decide +kernel
theorem dX2_putWord_21 : decode cX2_putWord 21 = .ok (.arraylength, 1) := by decide +kernel
theorem dX2_putWord_22 : decode cX2_putWord 22 = .ok (.if_icmp .le 4, 3) := by decide +kernel
theorem dX2_putWord_26 : decode cX2_putWord 26 = .ok (.iconst 0, 1) := by decide +kernel
theorem dX2_putWord_27 : decode cX2_putWord 27 = .ok (.istore_n 3, 1) := by decide +kernel
theorem dX2_putWord_28 : decode cX2_putWord 28 = .ok (.iload_n 3, 1) := by decide +kernel
theorem dX2_putWord_29 : decode cX2_putWord 29 = .ok (.iconst 4, 1) := by decide +kernel
theorem dX2_putWord_30 : decode cX2_putWord 30 = .ok (.if_icmp .ge 27, 3) := by decide +kernel
theorem dX2_putWord_33 : decode cX2_putWord 33 = .ok (.aload_n 0, 1) := by decide +kernel
theorem dX2_putWord_34 : decode cX2_putWord 34 = .ok (.getfield 15, 3) := by decide +kernel
theorem dX2_putWord_37 : decode cX2_putWord 37 = .ok (.iload_n 1, 1) := by decide +kernel
theorem dX2_putWord_38 : decode cX2_putWord 38 = .ok (.iload_n 3, 1) := by decide +kernel
theorem dX2_putWord_39 : decode cX2_putWord 39 = .ok (.iadd, 1) := by decide +kernel
theorem dX2_putWord_40 : decode cX2_putWord 40 = .ok (.iload_n 2, 1) := by decide +kernel
theorem dX2_putWord_41 : decode cX2_putWord 41 = .ok (.bipush 24, 2) := by decide +kernel
theorem dX2_putWord_43 : decode cX2_putWord 43 = .ok (.bipush 8, 2) := by decide +kernel
theorem dX2_putWord_45 : decode cX2_putWord 45 = .ok (.iload_n 3, 1) := by decide +kernel
theorem dX2_putWord_46 : decode cX2_putWord 46 = .ok (.imul, 1) := by decide +kernel
theorem dX2_putWord_47 : decode cX2_putWord 47 = .ok (.isub, 1) := by decide +kernel
theorem dX2_putWord_48 : decode cX2_putWord 48 = .ok (.ishr, 1) := by decide +kernel
theorem dX2_putWord_49 : decode cX2_putWord 49 = .ok (.i2b, 1) := by decide +kernel
theorem dX2_putWord_50 : decode cX2_putWord 50 = .ok (.bastore, 1) := by decide +kernel
theorem dX2_putWord_51 : decode cX2_putWord 51 = .ok (.iinc 3 1, 3) := by decide +kernel
theorem dX2_putWord_54 : decode cX2_putWord 54 = .ok (.goto (-26), 3) := by decide +kernel
theorem dX2_putWord_57 : decode cX2_putWord 57 = .ok (.return_, 1) := by decide +kernel
set_option maxRecDepth 100000 in
set_option maxHeartbeats 4000000 in
theorem wk_X2_putWord (E : g_E) (t : Nat) (a : Nat) (N : Nat) (t_1 : Int32) (a_f : Nat → Int32) (i : Int32) (w : Int32) (hN : N < 2147483648) (hi : i ≤ 2147483643) : Ev E MX2_putWord 0 0 0 0 [.ref t, .int i, .int w] [(t, .inr (2, [.ref a, .int t_1])), (a, .inl (E.2.2.1 1, N, .inl (nb a_f)))] (fun v_ w_ => ∃ zt_1 : Int32, ∃ za_f : Nat → Int32, v_ = none ∧ w_ = [(t, .inr (2, [.ref a, .int zt_1])), (a, .inl (E.2.2.1 1, N, .inl (nb za_f)))]) := by
  refine Ev.intro (by decide) (Nat.le_of_ble_eq_true rfl) ?_
  intro X B hr hI
  have B : Bd E X cX2_putWord RX2 4 0 0 0 0 := B
  have hr : Rt E X none 0 0 (fun v_ w_ => ∃ zt_1 : Int32, ∃ za_f : Nat → Int32, v_ = none ∧ w_ = [(t, .inr (2, [.ref a, .int zt_1])), (a, .inl (E.2.2.1 1, N, .inl (nb za_f)))]) := hr
  show G E X 4 [(t, .inr (2, [.ref a, .int t_1])), (a, .inl (E.2.2.1 1, N, .inl (nb a_f)))] 0 0 [(0, .ref t), (1, .int i), (2, .int w)] 0 []
  refine g_iload_n B dX2_putWord_0 rfl 1 rfl ?_
  refine g_if_lt (tgt := 25) B dX2_putWord_1 (by decide) (fun c1_136 => ?_) (fun c1_136 => ?_)
  · exact g_vret B hr dX2_putWord_25 (by decide) (by decide) ⟨t_1, a_f, rfl, rfl⟩
  · refine g_iload_n B dX2_putWord_4 rfl 1 rfl ?_
    refine g_iconst (v := 4) B dX2_putWord_5 (by decide) ?_
    refine g_iadd B dX2_putWord_6 ?_
    refine g_aload_n B dX2_putWord_7 rfl 0 rfl ?_
    refine g_get B 0 1 fl_X2_21 rfl rfl dX2_putWord_8 ?_
    refine g_icmp_gt (tgt := 25) B dX2_putWord_11 (by decide) (fun c11_137 => ?_) (fun c11_137 => ?_)
    · exact g_vret B hr dX2_putWord_25 (by decide) (by decide) ⟨t_1, a_f, rfl, rfl⟩
    · refine g_iload_n B dX2_putWord_14 rfl 1 rfl ?_
      refine g_iconst (v := 4) B dX2_putWord_15 (by decide) ?_
      refine g_iadd B dX2_putWord_16 ?_
      refine g_aload_n B dX2_putWord_17 rfl 0 rfl ?_
      refine g_get B 0 0 fl_X2_15 rfl rfl dX2_putWord_18 ?_
      refine g_alen (v := nI N) B 1 (by decide) rfl rfl dX2_putWord_21 ?_
      refine g_icmp_le (tgt := 26) B dX2_putWord_22 (by decide) (fun c22_138 => ?_) (fun c22_138 => ?_)
      · refine g_iconst (v := 0) B dX2_putWord_26 (by decide) ?_
        refine g_istore_n (lv' := [(3, .int 0), (0, .ref t), (1, .int i), (2, .int w)]) B dX2_putWord_27 rfl (by decide) rfl ?_
        refine g_iload_n B dX2_putWord_28 rfl 0 rfl ?_
        refine g_iconst (v := 4) B dX2_putWord_29 (by decide) ?_
        refine g_icmp_ge (tgt := 57) B dX2_putWord_30 (by decide) (fun h => absurd h (by decide)) (fun c30 => ?_)
        refine g_aload_n B dX2_putWord_33 rfl 1 rfl ?_
        refine g_get B 0 0 fl_X2_15 rfl rfl dX2_putWord_34 ?_
        refine g_iload_n B dX2_putWord_37 rfl 2 rfl ?_
        refine g_iload_n B dX2_putWord_38 rfl 0 rfl ?_
        refine g_iadd B dX2_putWord_39 ?_
        refine g_iload_n B dX2_putWord_40 rfl 3 rfl ?_
        refine g_bipush (v := 24) B dX2_putWord_41 (by decide) ?_
        refine g_bipush (v := 8) B dX2_putWord_43 (by decide) ?_
        refine g_iload_n B dX2_putWord_45 rfl 0 rfl ?_
        refine g_imul B dX2_putWord_46 ?_
        refine g_ri (x' := 0) (by decide) ?_
        refine g_isub B dX2_putWord_47 ?_
        refine g_ri (x' := 24) (by decide) ?_
        refine g_ishr B dX2_putWord_48 ?_
        refine g_i2b B dX2_putWord_49 ?_
        refine g_bast (ws' := [(t, .inr (2, [.ref a, .int t_1])), (a, .inl (E.2.2.1 1, N, .inl (nb (upd a_f (Int32.toNatClampNeg (i + 0)) (Int8.toInt32 (Int32.toInt8 (w >>> (24 &&& 31))))))))]) B 1 rfl (in_pw 0 (by decide) hN c1_136 hi (o_4 c22_138)) (by rw [nb_upd]; rfl) dX2_putWord_50 ?_
        refine g_iinc (v := 1) (lv' := [(3, .int 1), (0, .ref t), (1, .int i), (2, .int w)]) B dX2_putWord_51 0 rfl (by decide) (by decide) rfl ?_
        refine g_goto (tgt := 28) B dX2_putWord_54 (by decide) ?_
        refine g_iload_n B dX2_putWord_28 rfl 0 rfl ?_
        refine g_iconst (v := 4) B dX2_putWord_29 (by decide) ?_
        refine g_icmp_ge (tgt := 57) B dX2_putWord_30 (by decide) (fun h => absurd h (by decide)) (fun c30 => ?_)
        refine g_aload_n B dX2_putWord_33 rfl 1 rfl ?_
        refine g_get B 0 0 fl_X2_15 rfl rfl dX2_putWord_34 ?_
        refine g_iload_n B dX2_putWord_37 rfl 2 rfl ?_
        refine g_iload_n B dX2_putWord_38 rfl 0 rfl ?_
        refine g_iadd B dX2_putWord_39 ?_
        refine g_iload_n B dX2_putWord_40 rfl 3 rfl ?_
        refine g_bipush (v := 24) B dX2_putWord_41 (by decide) ?_
        refine g_bipush (v := 8) B dX2_putWord_43 (by decide) ?_
        refine g_iload_n B dX2_putWord_45 rfl 0 rfl ?_
        refine g_imul B dX2_putWord_46 ?_
        refine g_ri (x' := 8) (by decide) ?_
        refine g_isub B dX2_putWord_47 ?_
        refine g_ri (x' := 16) (by decide) ?_
        refine g_ishr B dX2_putWord_48 ?_
        refine g_i2b B dX2_putWord_49 ?_
        refine g_bast (ws' := [(t, .inr (2, [.ref a, .int t_1])), (a, .inl (E.2.2.1 1, N, .inl (nb (upd (upd a_f (Int32.toNatClampNeg (i + 0)) (Int8.toInt32 (Int32.toInt8 (w >>> (24 &&& 31))))) (Int32.toNatClampNeg (i + 1)) (Int8.toInt32 (Int32.toInt8 (w >>> (16 &&& 31))))))))]) B 1 rfl (in_pw 1 (by decide) hN c1_136 hi (o_4 c22_138)) (by rw [nb_upd]; rfl) dX2_putWord_50 ?_
        refine g_iinc (v := 2) (lv' := [(3, .int 2), (0, .ref t), (1, .int i), (2, .int w)]) B dX2_putWord_51 0 rfl (by decide) (by decide) rfl ?_
        refine g_goto (tgt := 28) B dX2_putWord_54 (by decide) ?_
        refine g_iload_n B dX2_putWord_28 rfl 0 rfl ?_
        refine g_iconst (v := 4) B dX2_putWord_29 (by decide) ?_
        refine g_icmp_ge (tgt := 57) B dX2_putWord_30 (by decide) (fun h => absurd h (by decide)) (fun c30 => ?_)
        refine g_aload_n B dX2_putWord_33 rfl 1 rfl ?_
        refine g_get B 0 0 fl_X2_15 rfl rfl dX2_putWord_34 ?_
        refine g_iload_n B dX2_putWord_37 rfl 2 rfl ?_
        refine g_iload_n B dX2_putWord_38 rfl 0 rfl ?_
        refine g_iadd B dX2_putWord_39 ?_
        refine g_iload_n B dX2_putWord_40 rfl 3 rfl ?_
        refine g_bipush (v := 24) B dX2_putWord_41 (by decide) ?_
        refine g_bipush (v := 8) B dX2_putWord_43 (by decide) ?_
        refine g_iload_n B dX2_putWord_45 rfl 0 rfl ?_
        refine g_imul B dX2_putWord_46 ?_
        refine g_ri (x' := 16) (by decide) ?_
        refine g_isub B dX2_putWord_47 ?_
        refine g_ri (x' := 8) (by decide) ?_
        refine g_ishr B dX2_putWord_48 ?_
        refine g_i2b B dX2_putWord_49 ?_
        refine g_bast (ws' := [(t, .inr (2, [.ref a, .int t_1])), (a, .inl (E.2.2.1 1, N, .inl (nb (upd (upd (upd a_f (Int32.toNatClampNeg (i + 0)) (Int8.toInt32 (Int32.toInt8 (w >>> (24 &&& 31))))) (Int32.toNatClampNeg (i + 1)) (Int8.toInt32 (Int32.toInt8 (w >>> (16 &&& 31))))) (Int32.toNatClampNeg (i + 2)) (Int8.toInt32 (Int32.toInt8 (w >>> (8 &&& 31))))))))]) B 1 rfl (in_pw 2 (by decide) hN c1_136 hi (o_4 c22_138)) (by rw [nb_upd]; rfl) dX2_putWord_50 ?_
        refine g_iinc (v := 3) (lv' := [(3, .int 3), (0, .ref t), (1, .int i), (2, .int w)]) B dX2_putWord_51 0 rfl (by decide) (by decide) rfl ?_
        refine g_goto (tgt := 28) B dX2_putWord_54 (by decide) ?_
        refine g_iload_n B dX2_putWord_28 rfl 0 rfl ?_
        refine g_iconst (v := 4) B dX2_putWord_29 (by decide) ?_
        refine g_icmp_ge (tgt := 57) B dX2_putWord_30 (by decide) (fun h => absurd h (by decide)) (fun c30 => ?_)
        refine g_aload_n B dX2_putWord_33 rfl 1 rfl ?_
        refine g_get B 0 0 fl_X2_15 rfl rfl dX2_putWord_34 ?_
        refine g_iload_n B dX2_putWord_37 rfl 2 rfl ?_
        refine g_iload_n B dX2_putWord_38 rfl 0 rfl ?_
        refine g_iadd B dX2_putWord_39 ?_
        refine g_iload_n B dX2_putWord_40 rfl 3 rfl ?_
        refine g_bipush (v := 24) B dX2_putWord_41 (by decide) ?_
        refine g_bipush (v := 8) B dX2_putWord_43 (by decide) ?_
        refine g_iload_n B dX2_putWord_45 rfl 0 rfl ?_
        refine g_imul B dX2_putWord_46 ?_
        refine g_ri (x' := 24) (by decide) ?_
        refine g_isub B dX2_putWord_47 ?_
        refine g_ri (x' := 0) (by decide) ?_
        refine g_ishr B dX2_putWord_48 ?_
        refine g_i2b B dX2_putWord_49 ?_
        refine g_bast (ws' := [(t, .inr (2, [.ref a, .int t_1])), (a, .inl (E.2.2.1 1, N, .inl (nb (upd (upd (upd (upd a_f (Int32.toNatClampNeg (i + 0)) (Int8.toInt32 (Int32.toInt8 (w >>> (24 &&& 31))))) (Int32.toNatClampNeg (i + 1)) (Int8.toInt32 (Int32.toInt8 (w >>> (16 &&& 31))))) (Int32.toNatClampNeg (i + 2)) (Int8.toInt32 (Int32.toInt8 (w >>> (8 &&& 31))))) (Int32.toNatClampNeg (i + 3)) (Int8.toInt32 (Int32.toInt8 (w >>> (0 &&& 31))))))))]) B 1 rfl (in_pw 3 (by decide) hN c1_136 hi (o_4 c22_138)) (by rw [nb_upd]; rfl) dX2_putWord_50 ?_
        refine g_iinc (v := 4) (lv' := [(3, .int 4), (0, .ref t), (1, .int i), (2, .int w)]) B dX2_putWord_51 0 rfl (by decide) (by decide) rfl ?_
        refine g_goto (tgt := 28) B dX2_putWord_54 (by decide) ?_
        refine g_iload_n B dX2_putWord_28 rfl 0 rfl ?_
        refine g_iconst (v := 4) B dX2_putWord_29 (by decide) ?_
        refine g_icmp_ge (tgt := 57) B dX2_putWord_30 (by decide) (fun c30 => ?_) (fun h => absurd (by decide) h)
        exact g_vret B hr dX2_putWord_57 (by decide) (by decide) ⟨t_1, (upd (upd (upd (upd a_f (Int32.toNatClampNeg (i + 0)) (Int8.toInt32 (Int32.toInt8 (w >>> (24 &&& 31))))) (Int32.toNatClampNeg (i + 1)) (Int8.toInt32 (Int32.toInt8 (w >>> (16 &&& 31))))) (Int32.toNatClampNeg (i + 2)) (Int8.toInt32 (Int32.toInt8 (w >>> (8 &&& 31))))) (Int32.toNatClampNeg (i + 3)) (Int8.toInt32 (Int32.toInt8 (w >>> (0 &&& 31))))), rfl, rfl⟩
      · exact g_vret B hr dX2_putWord_25 (by decide) (by decide) ⟨t_1, a_f, rfl, rfl⟩
abbrev MX2_copy : g_M := (yX2_copy, cX2_copy, 3, (some .boolean))
theorem dX2_copy_0 : decode cX2_copy 0 = .ok (.aload_n 1, 1) := by decide +kernel
theorem dX2_copy_1 : decode cX2_copy 1 = .ok (.getfield 21, 3) := by decide +kernel
theorem dX2_copy_4 : decode cX2_copy 4 = .ok (.istore_n 2, 1) := by decide +kernel
theorem dX2_copy_5 : decode cX2_copy 5 = .ok (.iload_n 2, 1) := by decide +kernel
theorem dX2_copy_6 : decode cX2_copy 6 = .ok (.ifCond .lt 21, 3) := by decide +kernel
theorem dX2_copy_27 : decode cX2_copy 27 = .ok (.iconst 0, 1) := by decide +kernel
theorem dX2_copy_28 : decode cX2_copy 28 = .ok (.ireturn, 1) := by decide +kernel
theorem dX2_copy_9 : decode cX2_copy 9 = .ok (.iload_n 2, 1) := by decide +kernel
theorem dX2_copy_10 : decode cX2_copy 10 = .ok (.aload_n 0, 1) := by decide +kernel
theorem dX2_copy_11 : decode cX2_copy 11 = .ok (.getfield 15, 3) := by decide +kernel
theorem dX2_copy_14 : decode cX2_copy 14 = .ok (.arraylength, 1) := by decide +kernel
theorem dX2_copy_15 : decode cX2_copy 15 = .ok (.if_icmp .gt 12, 3) := by decide +kernel
theorem dX2_copy_18 : decode cX2_copy 18 = .ok (.iload_n 2, 1) := by decide +kernel
theorem dX2_copy_19 : decode cX2_copy 19 = .ok (.aload_n 1, 1) := by decide +kernel
theorem dX2_copy_20 : decode cX2_copy 20 = .ok (.getfield 15, 3) := by decide +kernel
theorem dX2_copy_23 : decode cX2_copy 23 = .ok (.arraylength, 1) := by decide +kernel
theorem dX2_copy_24 : decode cX2_copy 24 = .ok (.if_icmp .le 5, 3) := by decide +kernel
theorem dX2_copy_29 : decode cX2_copy 29 = .ok (.aload_n 1, 1) := by decide +kernel
theorem dX2_copy_30 : decode cX2_copy 30 = .ok (.getfield 15, 3) := by decide +kernel
theorem dX2_copy_33 : decode cX2_copy 33 = .ok (.iconst 0, 1) := by decide +kernel
theorem dX2_copy_34 : decode cX2_copy 34 = .ok (.aload_n 0, 1) := by decide +kernel
theorem dX2_copy_35 : decode cX2_copy 35 = .ok (.getfield 15, 3) := by decide +kernel
theorem dX2_copy_38 : decode cX2_copy 38 = .ok (.iconst 0, 1) := by decide +kernel
theorem dX2_copy_39 : decode cX2_copy 39 = .ok (.iload_n 2, 1) := by decide +kernel
theorem dX2_copy_40 : decode cX2_copy 40 = .ok (.invokestatic 33, 3) := by decide +kernel
theorem w_mla_X2_33 : Cond.methodLink RX2 33 arraycopyName ∈ g_tbl := g_tbl_in 725 (by decide +kernel) (by decide +kernel)
theorem w_nat_ac : Cond.native arraycopyName ∈ g_tbl := g_tbl_in 727 (by decide +kernel) (by decide +kernel)
theorem w_sm_ac : Cond.static arraycopyName ∈ g_tbl := g_tbl_in 726 (by decide +kernel) (by decide +kernel)
theorem w_ini_Sys : Cond.initialized "java/lang/System" ∈ g_tbl := g_tbl_in 84 (by decide +kernel) (by decide +kernel)
theorem dX2_copy_43 : decode cX2_copy 43 = .ok (.aload_n 0, 1) := by decide +kernel
theorem dX2_copy_44 : decode cX2_copy 44 = .ok (.iload_n 2, 1) := by decide +kernel
theorem dX2_copy_45 : decode cX2_copy 45 = .ok (.putfield 21, 3) := by decide +kernel
theorem dX2_copy_48 : decode cX2_copy 48 = .ok (.iconst 1, 1) := by decide +kernel
theorem dX2_copy_49 : decode cX2_copy 49 = .ok (.ireturn, 1) := by decide +kernel
set_option maxRecDepth 100000 in
set_option maxHeartbeats 4000000 in
theorem wk_X2_copy (E : g_E) (t : Nat) (a : Nat) (u : Nat) (c : Nat) (N : Nat) (N2 : Nat) (t_1 : Int32) (a_f : Nat → Int32) (u_1 : Int32) (c_f : Nat → Int32) (hN : N < 2147483648) (hM : N2 < 2147483648) : Ev E MX2_copy 1 60 0 0 [.ref t, .ref u] [(t, .inr (2, [.ref a, .int t_1])), (a, .inl (E.2.2.1 1, N, .inl (nb a_f))), (u, .inr (2, [.ref c, .int u_1])), (c, .inl (E.2.2.1 1, N2, .inl (nb c_f)))] (fun v_ w_ => ∃ zt_1 : Int32, ∃ za_f : Nat → Int32, ∃ zu_1 : Int32, ∃ zc_f : Nat → Int32, ∃ zr : Int32, (zr = 0 ∨ zr = 1) ∧ v_ = some (.int zr) ∧ w_ = [(t, .inr (2, [.ref a, .int zt_1])), (a, .inl (E.2.2.1 1, N, .inl (nb za_f))), (u, .inr (2, [.ref c, .int zu_1])), (c, .inl (E.2.2.1 1, N2, .inl (nb zc_f)))]) := by
  refine Ev.intro (by decide) (Nat.le_of_ble_eq_true rfl) ?_
  intro X B hr hI
  have B : Bd E X cX2_copy RX2 3 1 60 0 0 := B
  have hr : Rt E X (some .boolean) 0 0 (fun v_ w_ => ∃ zt_1 : Int32, ∃ za_f : Nat → Int32, ∃ zu_1 : Int32, ∃ zc_f : Nat → Int32, ∃ zr : Int32, (zr = 0 ∨ zr = 1) ∧ v_ = some (.int zr) ∧ w_ = [(t, .inr (2, [.ref a, .int zt_1])), (a, .inl (E.2.2.1 1, N, .inl (nb za_f))), (u, .inr (2, [.ref c, .int zu_1])), (c, .inl (E.2.2.1 1, N2, .inl (nb zc_f)))]) := hr
  show G E X 3 [(t, .inr (2, [.ref a, .int t_1])), (a, .inl (E.2.2.1 1, N, .inl (nb a_f))), (u, .inr (2, [.ref c, .int u_1])), (c, .inl (E.2.2.1 1, N2, .inl (nb c_f)))] 0 0 [(0, .ref t), (1, .ref u)] 0 []
  refine g_aload_n B dX2_copy_0 rfl 1 rfl ?_
  refine g_get B 2 1 fl_X2_21 rfl rfl dX2_copy_1 ?_
  refine g_istore_n (lv' := [(2, .int u_1), (0, .ref t), (1, .ref u)]) B dX2_copy_4 rfl (by decide) rfl ?_
  refine g_iload_n B dX2_copy_5 rfl 0 rfl ?_
  refine g_if_lt (tgt := 27) B dX2_copy_6 (by decide) (fun c6_139 => ?_) (fun c6_139 => ?_)
  · refine g_iconst (v := 0) B dX2_copy_27 (by decide) ?_
    exact g_zret B hr (by decide) dX2_copy_28 (by decide) (by decide) ⟨t_1, a_f, u_1, c_f, 0, (Or.inl rfl), rfl, rfl⟩
  · refine g_iload_n B dX2_copy_9 rfl 0 rfl ?_
    refine g_aload_n B dX2_copy_10 rfl 1 rfl ?_
    refine g_get B 0 0 fl_X2_15 rfl rfl dX2_copy_11 ?_
    refine g_alen (v := nI N) B 1 (by decide) rfl rfl dX2_copy_14 ?_
    refine g_icmp_gt (tgt := 27) B dX2_copy_15 (by decide) (fun c15_140 => ?_) (fun c15_140 => ?_)
    · refine g_iconst (v := 0) B dX2_copy_27 (by decide) ?_
      exact g_zret B hr (by decide) dX2_copy_28 (by decide) (by decide) ⟨t_1, a_f, u_1, c_f, 0, (Or.inl rfl), rfl, rfl⟩
    · refine g_iload_n B dX2_copy_18 rfl 0 rfl ?_
      refine g_aload_n B dX2_copy_19 rfl 2 rfl ?_
      refine g_get B 2 0 fl_X2_15 rfl rfl dX2_copy_20 ?_
      refine g_alen (v := nI N2) B 3 (by decide) rfl rfl dX2_copy_23 ?_
      refine g_icmp_le (tgt := 29) B dX2_copy_24 (by decide) (fun c24_141 => ?_) (fun c24_141 => ?_)
      · refine g_aload_n B dX2_copy_29 rfl 2 rfl ?_
        refine g_get B 2 0 fl_X2_15 rfl rfl dX2_copy_30 ?_
        refine g_iconst (v := 0) B dX2_copy_33 (by decide) ?_
        refine g_aload_n B dX2_copy_34 rfl 1 rfl ?_
        refine g_get B 0 0 fl_X2_15 rfl rfl dX2_copy_35 ?_
        refine g_iconst (v := 0) B dX2_copy_38 (by decide) ?_
        refine g_iload_n B dX2_copy_39 rfl 0 rfl ?_
        refine g_copyb (ws' := [(t, .inr (2, [.ref a, .int t_1])), (a, .inl (E.2.2.1 1, N, .inl (nb (va_cpy c_f a_f (Int32.toNatClampNeg 0) (Int32.toNatClampNeg 0) (Int32.toNatClampNeg u_1))))), (u, .inr (2, [.ref c, .int u_1])), (c, .inl (E.2.2.1 1, N2, .inl (nb c_f)))]) B w_mla_X2_33 w_nat_ac w_sm_ac w_ini_Sys 3 1 rfl rfl (by decide) (by decide) c6_139 (cp_le hM c6_139 (o_4 c24_141)) (cp_le hN c6_139 c15_140) (fun i _ => pk_fb _) (by decide) (Nat.le_of_ble_eq_true rfl) (by rw [nb_cpy]; rfl) dX2_copy_40 ?_
        refine g_aload_n B dX2_copy_43 rfl 1 rfl ?_
        refine g_iload_n B dX2_copy_44 rfl 0 rfl ?_
        refine g_put (ws' := [(t, .inr (2, [.ref a, .int u_1])), (a, .inl (E.2.2.1 1, N, .inl (nb (va_cpy c_f a_f (Int32.toNatClampNeg 0) (Int32.toNatClampNeg 0) (Int32.toNatClampNeg u_1))))), (u, .inr (2, [.ref c, .int u_1])), (c, .inl (E.2.2.1 1, N2, .inl (nb c_f)))]) B 0 1 fl_X2_21 pf_X2_1 rfl (Nat.le_of_ble_eq_true rfl) rfl rfl rfl dX2_copy_45 ?_
        refine g_iconst (v := 1) B dX2_copy_48 (by decide) ?_
        exact g_zret B hr (by decide) dX2_copy_49 (by decide) (by decide) ⟨u_1, (va_cpy c_f a_f (Int32.toNatClampNeg 0) (Int32.toNatClampNeg 0) (Int32.toNatClampNeg u_1)), u_1, c_f, 1, (Or.inr rfl), rfl, rfl⟩
      · refine g_iconst (v := 0) B dX2_copy_27 (by decide) ?_
        exact g_zret B hr (by decide) dX2_copy_28 (by decide) (by decide) ⟨t_1, a_f, u_1, c_f, 0, (Or.inl rfl), rfl, rfl⟩
abbrev MX2_crc : g_M := (yX2_crc, cX2_crc, 4, (some .int))
theorem dX2_crc_0 : decode cX2_crc 0 = .ok (.iconst (-1), 1) := by decide +kernel
theorem dX2_crc_1 : decode cX2_crc 1 = .ok (.istore_n 2, 1) := by decide +kernel
theorem dX2_crc_2 : decode cX2_crc 2 = .ok (.iconst 0, 1) := by decide +kernel
theorem dX2_crc_3 : decode cX2_crc 3 = .ok (.istore_n 3, 1) := by decide +kernel
theorem dX2_crc_4 : decode cX2_crc 4 = .ok (.iload_n 3, 1) := by decide +kernel
theorem dX2_crc_5 : decode cX2_crc 5 = .ok (.iload_n 1, 1) := by decide +kernel
theorem dX2_crc_6 : decode cX2_crc 6 = .ok (.if_icmp .ge 65, 3) := by decide +kernel
theorem dX2_crc_9 : decode cX2_crc 9 = .ok (.iload_n 3, 1) := by decide +kernel
theorem dX2_crc_10 : decode cX2_crc 10 = .ok (.aload_n 0, 1) := by decide +kernel
theorem dX2_crc_11 : decode cX2_crc 11 = .ok (.getfield 21, 3) := by decide +kernel
theorem dX2_crc_14 : decode cX2_crc 14 = .ok (.if_icmp .ge 57, 3) := by decide +kernel
theorem dX2_crc_17 : decode cX2_crc 17 = .ok (.iload_n 3, 1) := by decide +kernel
theorem dX2_crc_18 : decode cX2_crc 18 = .ok (.aload_n 0, 1) := by decide +kernel
theorem dX2_crc_19 : decode cX2_crc 19 = .ok (.getfield 15, 3) := by decide +kernel
theorem dX2_crc_22 : decode cX2_crc 22 = .ok (.arraylength, 1) := by decide +kernel
theorem dX2_crc_23 : decode cX2_crc 23 = .ok (.if_icmp .ge 48, 3) := by decide +kernel
theorem dX2_crc_26 : decode cX2_crc 26 = .ok (.iload_n 2, 1) := by decide +kernel
theorem dX2_crc_27 : decode cX2_crc 27 = .ok (.aload_n 0, 1) := by decide +kernel
theorem dX2_crc_28 : decode cX2_crc 28 = .ok (.getfield 15, 3) := by decide +kernel
theorem dX2_crc_31 : decode cX2_crc 31 = .ok (.iload_n 3, 1) := by decide +kernel
theorem dX2_crc_32 : decode cX2_crc 32 = .ok (.baload, 1) := by decide +kernel
theorem dX2_crc_33 : decode cX2_crc 33 = .ok (.sipush 255, 3) := by decide +kernel
theorem dX2_crc_36 : decode cX2_crc 36 = .ok (.iand, 1) := by decide +kernel
theorem dX2_crc_37 : decode cX2_crc 37 = .ok (.ixor, 1) := by decide +kernel
theorem dX2_crc_38 : decode cX2_crc 38 = .ok (.istore_n 2, 1) := by decide +kernel
theorem dX2_crc_39 : decode cX2_crc 39 = .ok (.iload_n 2, 1) := by decide +kernel
theorem dX2_crc_40 : decode cX2_crc 40 = .ok (.iconst 4, 1) := by decide +kernel
theorem dX2_crc_41 : decode cX2_crc 41 = .ok (.iushr, 1) := by decide +kernel
theorem dX2_crc_42 : decode cX2_crc 42 = .ok (.getstatic 39, 3) := by decide +kernel
theorem dX2_crc_45 : decode cX2_crc 45 = .ok (.iload_n 2, 1) := by decide +kernel
theorem dX2_crc_46 : decode cX2_crc 46 = .ok (.bipush 15, 2) := by decide +kernel
theorem dX2_crc_48 : decode cX2_crc 48 = .ok (.iand, 1) := by decide +kernel
theorem dX2_crc_49 : decode cX2_crc 49 = .ok (.iaload, 1) := by decide +kernel
theorem dX2_crc_50 : decode cX2_crc 50 = .ok (.ixor, 1) := by decide +kernel
theorem dX2_crc_51 : decode cX2_crc 51 = .ok (.istore_n 2, 1) := by decide +kernel
theorem dX2_crc_52 : decode cX2_crc 52 = .ok (.iload_n 2, 1) := by decide +kernel
theorem dX2_crc_53 : decode cX2_crc 53 = .ok (.iconst 4, 1) := by decide +kernel
theorem dX2_crc_54 : decode cX2_crc 54 = .ok (.iushr, 1) := by decide +kernel
theorem dX2_crc_55 : decode cX2_crc 55 = .ok (.getstatic 39, 3) := by decide +kernel
theorem dX2_crc_58 : decode cX2_crc 58 = .ok (.iload_n 2, 1) := by decide +kernel
theorem dX2_crc_59 : decode cX2_crc 59 = .ok (.bipush 15, 2) := by decide +kernel
theorem dX2_crc_61 : decode cX2_crc 61 = .ok (.iand, 1) := by decide +kernel
theorem dX2_crc_62 : decode cX2_crc 62 = .ok (.iaload, 1) := by decide +kernel
theorem dX2_crc_63 : decode cX2_crc 63 = .ok (.ixor, 1) := by decide +kernel
theorem dX2_crc_64 : decode cX2_crc 64 = .ok (.istore_n 2, 1) := by decide +kernel
theorem dX2_crc_65 : decode cX2_crc 65 = .ok (.iinc 3 1, 3) := by decide +kernel
theorem dX2_crc_68 : decode cX2_crc 68 = .ok (.goto (-64), 3) := by decide +kernel
set_option maxRecDepth 100000 in
set_option maxHeartbeats 4000000 in
theorem lp_wk_X2_crc_4 (E : g_E) (t : Nat) (a : Nat) (N : Nat) (hN : N < 2147483648) {X : g_X} (B : Bd E X cX2_crc RX2 4 0 0 0 0) (hr : Rt E X (some .int) 0 0 (fun v_ w_ => ∃ zt_1 : Int32, ∃ za_f : Nat → Int32, ∃ zr : Int32, v_ = some (.int zr) ∧ w_ = [(t, .inr (2, [.ref a, .int zt_1])), (a, .inl (E.2.2.1 1, N, .inl (nb za_f)))])) (K : ∀ (t_1 : Int32) (a_f : Nat → Int32) (l1 : Int32) (l2 : Int32) (l3 : Int32), G E X 4 [(t, .inr (2, [.ref a, .int t_1])), (a, .inl (E.2.2.1 1, N, .inl (nb a_f)))] 0 0 [(0, .ref t), (1, .int l1), (2, .int l2), (3, .int l3)] 71 []) : ∀ (n : Nat) (t_1 : Int32) (a_f : Nat → Int32) (l1 : Int32) (l2 : Int32) (l3 : Int32), ¬ l3 < 0 → (Int32.toInt l1 - Int32.toInt l3).toNat < n → G E X 4 [(t, .inr (2, [.ref a, .int t_1])), (a, .inl (E.2.2.1 1, N, .inl (nb a_f)))] 0 0 [(0, .ref t), (1, .int l1), (2, .int l2), (3, .int l3)] 4 [] := by
  intro n
  induction n with
  | zero => intro t_1 a_f l1 l2 l3 _ h; exact absurd h (Nat.not_lt_zero _)
  | succ n ih =>
    intro t_1 a_f l1 l2 l3 hv0 hm
    refine g_iload_n B dX2_crc_4 rfl 3 rfl ?_
    refine g_iload_n B dX2_crc_5 rfl 1 rfl ?_
    refine g_icmp_ge (tgt := 71) B dX2_crc_6 (by decide) (fun c6_142 => ?_) (fun c6_142 => ?_)
    · exact K t_1 a_f l1 l2 l3
    · refine g_iload_n B dX2_crc_9 rfl 3 rfl ?_
      refine g_aload_n B dX2_crc_10 rfl 0 rfl ?_
      refine g_get B 0 1 fl_X2_21 rfl rfl dX2_crc_11 ?_
      refine g_icmp_ge (tgt := 71) B dX2_crc_14 (by decide) (fun c14_143 => ?_) (fun c14_143 => ?_)
      · exact K t_1 a_f l1 l2 l3
      · refine g_iload_n B dX2_crc_17 rfl 3 rfl ?_
        refine g_aload_n B dX2_crc_18 rfl 0 rfl ?_
        refine g_get B 0 0 fl_X2_15 rfl rfl dX2_crc_19 ?_
        refine g_alen (v := nI N) B 1 (by decide) rfl rfl dX2_crc_22 ?_
        refine g_icmp_ge (tgt := 71) B dX2_crc_23 (by decide) (fun c23_144 => ?_) (fun c23_144 => ?_)
        · exact K t_1 a_f l1 l2 l3
        · refine g_iload_n B dX2_crc_26 rfl 2 rfl ?_
          refine g_aload_n B dX2_crc_27 rfl 0 rfl ?_
          refine g_get B 0 0 fl_X2_15 rfl rfl dX2_crc_28 ?_
          refine g_iload_n B dX2_crc_31 rfl 3 rfl ?_
          refine g_bald B 1 rfl (in_lt hN hv0 (o_2 c23_144)) dX2_crc_32 ?_
          refine g_sipush (v := 255) B dX2_crc_33 (by decide) ?_
          refine g_iand B dX2_crc_36 ?_
          refine g_ixor B dX2_crc_37 ?_
          refine g_istore_n (lv' := [(2, .int (l2 ^^^ (((nb a_f) (Int32.toNatClampNeg l3)) &&& 255))), (0, .ref t), (1, .int l1), (3, .int l3)]) B dX2_crc_38 rfl (by decide) rfl ?_
          refine g_iload_n B dX2_crc_39 rfl 0 rfl ?_
          refine g_iconst (v := 4) B dX2_crc_40 (by decide) ?_
          refine g_iushr B dX2_crc_41 ?_
          refine g_getsN B dX2_crc_42 ?_
          refine g_iload_n B dX2_crc_45 rfl 0 rfl ?_
          refine g_bipush (v := 15) B dX2_crc_46 (by decide) ?_
          refine g_iand B dX2_crc_48 ?_
          refine g_tald B (in_and15 _) dX2_crc_49 ?_
          refine g_ixor B dX2_crc_50 ?_
          refine g_istore_n (lv' := [(2, .int (((Int32.toUInt32 (l2 ^^^ (((nb a_f) (Int32.toNatClampNeg l3)) &&& 255)) >>> (Int32.toUInt32 4 &&& Int32.toUInt32 31)).toInt32) ^^^ (g_crc.getD (Int32.toNatClampNeg ((l2 ^^^ (((nb a_f) (Int32.toNatClampNeg l3)) &&& 255)) &&& 15)) 0))), (0, .ref t), (1, .int l1), (3, .int l3)]) B dX2_crc_51 rfl (by decide) rfl ?_
          refine g_iload_n B dX2_crc_52 rfl 0 rfl ?_
          refine g_iconst (v := 4) B dX2_crc_53 (by decide) ?_
          refine g_iushr B dX2_crc_54 ?_
          refine g_getsN B dX2_crc_55 ?_
          refine g_iload_n B dX2_crc_58 rfl 0 rfl ?_
          refine g_bipush (v := 15) B dX2_crc_59 (by decide) ?_
          refine g_iand B dX2_crc_61 ?_
          refine g_tald B (in_and15 _) dX2_crc_62 ?_
          refine g_ixor B dX2_crc_63 ?_
          refine g_topi (fun x_145 ex_145 => ?_)
          refine g_istore_n (lv' := [(2, .int x_145), (0, .ref t), (1, .int l1), (3, .int l3)]) B dX2_crc_64 rfl (by decide) rfl ?_
          refine g_iinc (v := (l3 + 1)) (lv' := [(3, .int (l3 + 1)), (2, .int x_145), (0, .ref t), (1, .int l1)]) B dX2_crc_65 3 rfl rfl (by decide) rfl ?_
          refine g_goto (tgt := 4) B dX2_crc_68 (by decide) ?_
          refine g_lvsub (lv' := [(0, .ref t), (1, .int l1), (2, .int x_145), (3, .int (l3 + 1))]) [2, 3, 1, 0] rfl ?_
          exact ih t_1 a_f l1 x_145 (l3 + 1) (inv_up hv0 (o_2 c6_142)) (Nat.lt_of_lt_of_le (st_up (o_2 c6_142)) (Nat.le_of_lt_succ hm))
theorem dX2_crc_71 : decode cX2_crc 71 = .ok (.iload_n 2, 1) := by decide +kernel
theorem dX2_crc_72 : decode cX2_crc 72 = .ok (.iconst (-1), 1) := by decide +kernel
theorem dX2_crc_73 : decode cX2_crc 73 = .ok (.ixor, 1) := by decide +kernel
theorem dX2_crc_74 : decode cX2_crc 74 = .ok (.ireturn, 1) := by decide +kernel
set_option maxRecDepth 100000 in
set_option maxHeartbeats 4000000 in
theorem wk_X2_crc (E : g_E) (t : Nat) (a : Nat) (N : Nat) (t_1 : Int32) (a_f : Nat → Int32) (n : Int32) (hN : N < 2147483648) : Ev E MX2_crc 0 0 0 0 [.ref t, .int n] [(t, .inr (2, [.ref a, .int t_1])), (a, .inl (E.2.2.1 1, N, .inl (nb a_f)))] (fun v_ w_ => ∃ zt_1 : Int32, ∃ za_f : Nat → Int32, ∃ zr : Int32, v_ = some (.int zr) ∧ w_ = [(t, .inr (2, [.ref a, .int zt_1])), (a, .inl (E.2.2.1 1, N, .inl (nb za_f)))]) := by
  refine Ev.intro (by decide) (Nat.le_of_ble_eq_true rfl) ?_
  intro X B hr hI
  have B : Bd E X cX2_crc RX2 4 0 0 0 0 := B
  have hr : Rt E X (some .int) 0 0 (fun v_ w_ => ∃ zt_1 : Int32, ∃ za_f : Nat → Int32, ∃ zr : Int32, v_ = some (.int zr) ∧ w_ = [(t, .inr (2, [.ref a, .int zt_1])), (a, .inl (E.2.2.1 1, N, .inl (nb za_f)))]) := hr
  show G E X 4 [(t, .inr (2, [.ref a, .int t_1])), (a, .inl (E.2.2.1 1, N, .inl (nb a_f)))] 0 0 [(0, .ref t), (1, .int n)] 0 []
  refine g_iconst (v := (-1)) B dX2_crc_0 (by decide) ?_
  refine g_istore_n (lv' := [(2, .int (-1)), (0, .ref t), (1, .int n)]) B dX2_crc_1 rfl (by decide) rfl ?_
  refine g_iconst (v := 0) B dX2_crc_2 (by decide) ?_
  refine g_istore_n (lv' := [(3, .int 0), (2, .int (-1)), (0, .ref t), (1, .int n)]) B dX2_crc_3 rfl (by decide) rfl ?_
  refine g_lvsub (lv' := [(0, .ref t), (1, .int n), (2, .int (-1)), (3, .int 0)]) [2, 3, 1, 0] rfl ?_
  refine lp_wk_X2_crc_4 E t a N hN B hr (fun y_146t_1 y_146a_f y_146l1 y_146l2 y_146l3 => ?_) _ t_1 a_f n (-1) 0 (by decide) (Nat.lt_succ_self _)
  refine g_iload_n B dX2_crc_71 rfl 2 rfl ?_
  refine g_iconst (v := (-1)) B dX2_crc_72 (by decide) ?_
  refine g_ixor B dX2_crc_73 ?_
  exact g_iret B hr dX2_crc_74 (by decide) (by decide) ⟨y_146t_1, y_146a_f, (y_146l2 ^^^ (-1)), rfl, rfl⟩
end
section
abbrev MX10_highestBit : g_M := (yX10_highestBit, cX10_highestBit, 3, (some .int))
theorem dX10_highestBit_0 : decode cX10_highestBit 0 = .ok (.iconst 0, 1) := by decide +kernel
theorem dX10_highestBit_1 : decode cX10_highestBit 1 = .ok (.istore_n 2, 1) := by decide +kernel
theorem dX10_highestBit_2 : decode cX10_highestBit 2 = .ok (.iload_n 2, 1) := by decide +kernel
theorem dX10_highestBit_3 : decode cX10_highestBit 3 = .ok (.bipush 62, 2) := by decide +kernel
theorem dX10_highestBit_5 : decode cX10_highestBit 5 = .ok (.if_icmp .ge 19, 3) := by decide +kernel
theorem dX10_highestBit_8 : decode cX10_highestBit 8 = .ok (.lload_n 0, 1) := by decide +kernel
theorem dX10_highestBit_9 : decode cX10_highestBit 9 = .ok (.iload_n 2, 1) := by decide +kernel
theorem dX10_highestBit_10 : decode cX10_highestBit 10 = .ok (.iconst 1, 1) := by decide +kernel
theorem dX10_highestBit_11 : decode cX10_highestBit 11 = .ok (.iadd, 1) := by decide +kernel
theorem dX10_highestBit_12 : decode cX10_highestBit 12 = .ok (.lshr, 1) := by decide +kernel
theorem dX10_highestBit_13 : decode cX10_highestBit 13 = .ok (.lconst 0, 1) := by decide +kernel
theorem dX10_highestBit_14 : decode cX10_highestBit 14 = .ok (.lcmp, 1) := by decide +kernel
theorem dX10_highestBit_15 : decode cX10_highestBit 15 = .ok (.ifCond .le 9, 3) := by decide +kernel
theorem dX10_highestBit_18 : decode cX10_highestBit 18 = .ok (.iinc 2 1, 3) := by decide +kernel
theorem dX10_highestBit_21 : decode cX10_highestBit 21 = .ok (.goto (-19), 3) := by decide +kernel
set_option maxRecDepth 100000 in
set_option maxHeartbeats 4000000 in
theorem lp_wk_X10_highestBit_2 (E : g_E)   {X : g_X} (B : Bd E X cX10_highestBit RX10 3 0 0 0 0) (hr : Rt E X (some .int) 0 0 (fun v_ w_ => ∃ zr : Int32, v_ = some (.int zr) ∧ w_ = [])) (K : ∀ (l0 : Int64) (l2 : Int32), G E X 3 [] 0 0 [(0, .long l0), (2, .int l2)] 24 []) : ∀ (n : Nat) (l0 : Int64) (l2 : Int32), (Int32.toInt 62 - Int32.toInt l2).toNat < n → G E X 3 [] 0 0 [(0, .long l0), (2, .int l2)] 2 [] := by
  intro n
  induction n with
  | zero => intro l0 l2 h; exact absurd h (Nat.not_lt_zero _)
  | succ n ih =>
    intro l0 l2 hm
    refine g_iload_n B dX10_highestBit_2 rfl 1 rfl ?_
    refine g_bipush (v := 62) B dX10_highestBit_3 (by decide) ?_
    refine g_icmp_ge (tgt := 24) B dX10_highestBit_5 (by decide) (fun c5_147 => ?_) (fun c5_147 => ?_)
    · exact K l0 l2
    · refine g_lload_n B dX10_highestBit_8 rfl 0 rfl ?_
      refine g_iload_n B dX10_highestBit_9 rfl 1 rfl ?_
      refine g_iconst (v := 1) B dX10_highestBit_10 (by decide) ?_
      refine g_iadd B dX10_highestBit_11 ?_
      refine g_lshr B dX10_highestBit_12 ?_
      refine g_lconst (v := 0) B dX10_highestBit_13 (by decide) ?_
      refine g_lcmp B dX10_highestBit_14 ?_
      refine g_if_le (tgt := 24) B dX10_highestBit_15 (by decide) (fun c15_148 => ?_) (fun c15_148 => ?_)
      · exact K l0 l2
      · refine g_iinc (v := (l2 + 1)) (lv' := [(2, .int (l2 + 1)), (0, .long l0)]) B dX10_highestBit_18 1 rfl rfl (by decide) rfl ?_
        refine g_goto (tgt := 2) B dX10_highestBit_21 (by decide) ?_
        refine g_lvsub (lv' := [(0, .long l0), (2, .int (l2 + 1))]) [1, 0] rfl ?_
        exact ih l0 (l2 + 1)  (Nat.lt_of_lt_of_le (st_up (o_2 c5_147)) (Nat.le_of_lt_succ hm))
theorem dX10_highestBit_24 : decode cX10_highestBit 24 = .ok (.iload_n 2, 1) := by decide +kernel
theorem dX10_highestBit_25 : decode cX10_highestBit 25 = .ok (.ireturn, 1) := by decide +kernel
set_option maxRecDepth 100000 in
set_option maxHeartbeats 4000000 in
theorem wk_X10_highestBit (E : g_E) (n : Int64)  : Ev E MX10_highestBit 0 0 0 0 [.long n] [] (fun v_ w_ => ∃ zr : Int32, v_ = some (.int zr) ∧ w_ = []) := by
  refine Ev.intro (by decide) (Nat.le_of_ble_eq_true rfl) ?_
  intro X B hr hI
  have B : Bd E X cX10_highestBit RX10 3 0 0 0 0 := B
  have hr : Rt E X (some .int) 0 0 (fun v_ w_ => ∃ zr : Int32, v_ = some (.int zr) ∧ w_ = []) := hr
  show G E X 3 [] 0 0 [(0, .long n)] 0 []
  refine g_iconst (v := 0) B dX10_highestBit_0 (by decide) ?_
  refine g_istore_n (lv' := [(2, .int 0), (0, .long n)]) B dX10_highestBit_1 rfl (by decide) rfl ?_
  refine g_lvsub (lv' := [(0, .long n), (2, .int 0)]) [1, 0] rfl ?_
  refine lp_wk_X10_highestBit_2 E   B hr (fun y_149l0 y_149l2 => ?_) _ n 0  (Nat.lt_succ_self _)
  refine g_iload_n B dX10_highestBit_24 rfl 1 rfl ?_
  exact g_iret B hr dX10_highestBit_25 (by decide) (by decide) ⟨y_149l2, rfl, rfl⟩
abbrev MX1_writeBits : g_M := (yX1_writeBits, cX1_writeBits, 5, none)
theorem dX1_writeBits_0 : decode cX1_writeBits 0 = .ok (.iload_n 3, 1) := by decide +kernel
theorem dX1_writeBits_1 : decode cX1_writeBits 1 = .ok (.iconst 1, 1) := by decide +kernel
theorem dX1_writeBits_2 : decode cX1_writeBits 2 = .ok (.isub, 1) := by decide +kernel
theorem dX1_writeBits_3 : decode cX1_writeBits 3 = .ok (.istore 4, 2) := by decide +kernel
theorem dX1_writeBits_5 : decode cX1_writeBits 5 = .ok (.iload 4, 2) := by decide +kernel
theorem dX1_writeBits_7 : decode cX1_writeBits 7 = .ok (.ifCond .lt 67, 3) := by decide +kernel
theorem dX1_writeBits_10 : decode cX1_writeBits 10 = .ok (.aload_n 0, 1) := by decide +kernel
theorem dX1_writeBits_11 : decode cX1_writeBits 11 = .ok (.aload_n 0, 1) := by decide +kernel
theorem dX1_writeBits_12 : decode cX1_writeBits 12 = .ok (.getfield 13, 3) := by decide +kernel
theorem dX1_writeBits_15 : decode cX1_writeBits 15 = .ok (.iconst 1, 1) := by decide +kernel
theorem dX1_writeBits_16 : decode cX1_writeBits 16 = .ok (.ishl, 1) := by decide +kernel
theorem dX1_writeBits_17 : decode cX1_writeBits 17 = .ok (.lload_n 1, 1) := by decide +kernel
theorem dX1_writeBits_18 : decode cX1_writeBits 18 = .ok (.iload 4, 2) := by decide +kernel
theorem dX1_writeBits_20 : decode cX1_writeBits 20 = .ok (.lshr, 1) := by decide +kernel
theorem dX1_writeBits_21 : decode cX1_writeBits 21 = .ok (.lconst 1, 1) := by decide +kernel
theorem dX1_writeBits_22 : decode cX1_writeBits 22 = .ok (.land, 1) := by decide +kernel
theorem dX1_writeBits_23 : decode cX1_writeBits 23 = .ok (.l2i, 1) := by decide +kernel
theorem dX1_writeBits_24 : decode cX1_writeBits 24 = .ok (.ior, 1) := by decide +kernel
theorem dX1_writeBits_25 : decode cX1_writeBits 25 = .ok (.putfield 13, 3) := by decide +kernel
theorem dX1_writeBits_28 : decode cX1_writeBits 28 = .ok (.aload_n 0, 1) := by decide +kernel
theorem dX1_writeBits_29 : decode cX1_writeBits 29 = .ok (.dup, 1) := by decide +kernel
theorem dX1_writeBits_30 : decode cX1_writeBits 30 = .ok (.getfield 17, 3) := by decide +kernel
theorem dX1_writeBits_33 : decode cX1_writeBits 33 = .ok (.iconst 1, 1) := by decide +kernel
theorem dX1_writeBits_34 : decode cX1_writeBits 34 = .ok (.iadd, 1) := by decide +kernel
theorem dX1_writeBits_35 : decode cX1_writeBits 35 = .ok (.putfield 17, 3) := by decide +kernel
theorem dX1_writeBits_38 : decode cX1_writeBits 38 = .ok (.aload_n 0, 1) := by decide +kernel
theorem dX1_writeBits_39 : decode cX1_writeBits 39 = .ok (.getfield 17, 3) := by decide +kernel
theorem dX1_writeBits_42 : decode cX1_writeBits 42 = .ok (.bipush 8, 2) := by decide +kernel
theorem dX1_writeBits_44 : decode cX1_writeBits 44 = .ok (.if_icmp .ne 24, 3) := by decide +kernel
theorem dX1_writeBits_68 : decode cX1_writeBits 68 = .ok (.iinc 4 (-1), 3) := by decide +kernel
theorem dX1_writeBits_71 : decode cX1_writeBits 71 = .ok (.goto (-66), 3) := by decide +kernel
theorem dX1_writeBits_47 : decode cX1_writeBits 47 = .ok (.aload_n 0, 1) := by decide +kernel
theorem dX1_writeBits_48 : decode cX1_writeBits 48 = .ok (.getfield 7, 3) := by decide +kernel
theorem dX1_writeBits_51 : decode cX1_writeBits 51 = .ok (.aload_n 0, 1) := by decide +kernel
theorem dX1_writeBits_52 : decode cX1_writeBits 52 = .ok (.getfield 13, 3) := by decide +kernel
theorem dX1_writeBits_55 : decode cX1_writeBits 55 = .ok (.invokevirtual 20, 3) := by decide +kernel
theorem w_ml_X1_20 : Cond.methodLink RX1 20 yX2_add ∈ g_tbl := g_tbl_in 585 (by decide +kernel) (by decide +kernel)
theorem cl_X1_20 : CL RX1 20 1 MX2_add := ⟨w_ml_X1_20, w_cd_X2_add, w_ini_X2, by decide +kernel, by decide +kernel, by decide +kernel⟩
theorem dX1_writeBits_58 : decode cX1_writeBits 58 = .ok (.aload_n 0, 1) := by decide +kernel
theorem dX1_writeBits_59 : decode cX1_writeBits 59 = .ok (.iconst 0, 1) := by decide +kernel
theorem dX1_writeBits_60 : decode cX1_writeBits 60 = .ok (.putfield 13, 3) := by decide +kernel
theorem dX1_writeBits_63 : decode cX1_writeBits 63 = .ok (.aload_n 0, 1) := by decide +kernel
theorem dX1_writeBits_64 : decode cX1_writeBits 64 = .ok (.iconst 0, 1) := by decide +kernel
theorem dX1_writeBits_65 : decode cX1_writeBits 65 = .ok (.putfield 17, 3) := by decide +kernel
set_option maxRecDepth 100000 in
set_option maxHeartbeats 4000000 in
theorem lp_wk_X1_writeBits_5 (E : g_E) (b : Nat) (t : Nat) (a : Nat) (N : Nat) (hN : N < 2147483648) {X : g_X} (B : Bd E X cX1_writeBits RX1 5 1 21 0 0) (hr : Rt E X none 0 0 (fun v_ w_ => ∃ zb_1 : Int32, ∃ zb_2 : Int32, ∃ zt_1 : Int32, ∃ za_f : Nat → Int32, v_ = none ∧ w_ = [(b, .inr (1, [.ref t, .int zb_1, .int zb_2])), (t, .inr (2, [.ref a, .int zt_1])), (a, .inl (E.2.2.1 1, N, .inl (nb za_f)))])) (K : ∀ (b_1 : Int32) (b_2 : Int32) (t_1 : Int32) (a_f : Nat → Int32) (l1 : Int64) (l3 : Int32) (l4 : Int32), G E X 5 [(b, .inr (1, [.ref t, .int b_1, .int b_2])), (t, .inr (2, [.ref a, .int t_1])), (a, .inl (E.2.2.1 1, N, .inl (nb a_f)))] 0 0 [(0, .ref b), (1, .long l1), (3, .int l3), (4, .int l4)] 74 []) : ∀ (n : Nat) (b_1 : Int32) (b_2 : Int32) (t_1 : Int32) (a_f : Nat → Int32) (l1 : Int64) (l3 : Int32) (l4 : Int32), (Int32.toInt l4 + 1).toNat < n → G E X 5 [(b, .inr (1, [.ref t, .int b_1, .int b_2])), (t, .inr (2, [.ref a, .int t_1])), (a, .inl (E.2.2.1 1, N, .inl (nb a_f)))] 0 0 [(0, .ref b), (1, .long l1), (3, .int l3), (4, .int l4)] 5 [] := by
  intro n
  induction n with
  | zero => intro b_1 b_2 t_1 a_f l1 l3 l4 h; exact absurd h (Nat.not_lt_zero _)
  | succ n ih =>
    intro b_1 b_2 t_1 a_f l1 l3 l4 hm
    refine g_iload B dX1_writeBits_5 3 rfl ?_
    refine g_if_lt (tgt := 74) B dX1_writeBits_7 (by decide) (fun c7_150 => ?_) (fun c7_150 => ?_)
    · exact K b_1 b_2 t_1 a_f l1 l3 l4
    · refine g_aload_n B dX1_writeBits_10 rfl 0 rfl ?_
      refine g_aload_n B dX1_writeBits_11 rfl 0 rfl ?_
      refine g_get B 0 1 fl_X1_13 rfl rfl dX1_writeBits_12 ?_
      refine g_iconst (v := 1) B dX1_writeBits_15 (by decide) ?_
      refine g_ishl B dX1_writeBits_16 ?_
      refine g_lload_n B dX1_writeBits_17 rfl 1 rfl ?_
      refine g_iload B dX1_writeBits_18 3 rfl ?_
      refine g_lshr B dX1_writeBits_20 ?_
      refine g_lconst (v := 1) B dX1_writeBits_21 (by decide) ?_
      refine g_land B dX1_writeBits_22 ?_
      refine g_l2i B dX1_writeBits_23 ?_
      refine g_ior B dX1_writeBits_24 ?_
      refine g_put (ws' := [(b, .inr (1, [.ref t, .int ((b_1 <<< (1 &&& 31)) ||| (Int64.toInt32 ((l1 >>> (Int32.toInt64 l4 &&& 63)) &&& 1))), .int b_2])), (t, .inr (2, [.ref a, .int t_1])), (a, .inl (E.2.2.1 1, N, .inl (nb a_f)))]) B 0 1 fl_X1_13 pf_X1_1 rfl (Nat.le_of_ble_eq_true rfl) rfl rfl rfl dX1_writeBits_25 ?_
      refine g_aload_n B dX1_writeBits_28 rfl 0 rfl ?_
      refine g_dup B dX1_writeBits_29 rfl ?_
      refine g_get B 0 2 fl_X1_17 rfl rfl dX1_writeBits_30 ?_
      refine g_iconst (v := 1) B dX1_writeBits_33 (by decide) ?_
      refine g_iadd B dX1_writeBits_34 ?_
      refine g_put (ws' := [(b, .inr (1, [.ref t, .int ((b_1 <<< (1 &&& 31)) ||| (Int64.toInt32 ((l1 >>> (Int32.toInt64 l4 &&& 63)) &&& 1))), .int (b_2 + 1)])), (t, .inr (2, [.ref a, .int t_1])), (a, .inl (E.2.2.1 1, N, .inl (nb a_f)))]) B 0 2 fl_X1_17 pf_X1_2 rfl (Nat.le_of_ble_eq_true rfl) rfl rfl rfl dX1_writeBits_35 ?_
      refine g_aload_n B dX1_writeBits_38 rfl 0 rfl ?_
      refine g_get B 0 2 fl_X1_17 rfl rfl dX1_writeBits_39 ?_
      refine g_bipush (v := 8) B dX1_writeBits_42 (by decide) ?_
      refine g_icmp_ne (tgt := 68) B dX1_writeBits_44 (by decide) (fun c44_151 => ?_) (fun c44_151 => ?_)
      · refine g_iinc (v := (l4 + (-1))) (lv' := [(4, .int (l4 + (-1))), (0, .ref b), (1, .long l1), (3, .int l3)]) B dX1_writeBits_68 3 rfl rfl (by decide) rfl ?_
        refine g_goto (tgt := 5) B dX1_writeBits_71 (by decide) ?_
        refine g_lvsub (lv' := [(0, .ref b), (1, .long l1), (3, .int l3), (4, .int (l4 + (-1)))]) [1, 2, 3, 0] rfl ?_
        exact ih ((b_1 <<< (1 &&& 31)) ||| (Int64.toInt32 ((l1 >>> (Int32.toInt64 l4 &&& 63)) &&& 1))) (b_2 + 1) t_1 a_f l1 l3 (l4 + (-1))  (Nat.lt_of_lt_of_le (st_dn c7_150) (Nat.le_of_lt_succ hm))
      · refine g_aload_n B dX1_writeBits_47 rfl 0 rfl ?_
        refine g_get B 0 0 fl_X1_7 rfl rfl dX1_writeBits_48 ?_
        refine g_aload_n B dX1_writeBits_51 rfl 0 rfl ?_
        refine g_get B 0 1 fl_X1_13 rfl rfl dX1_writeBits_52 ?_
        refine g_callV (st := []) (As := [.int ((b_1 <<< (1 &&& 31)) ||| (Int64.toInt32 ((l1 >>> (Int32.toInt64 l4 &&& 63)) &&& 1)))]) (wr := [(b, .inr (1, [.ref t, .int ((b_1 <<< (1 &&& 31)) ||| (Int64.toInt32 ((l1 >>> (Int32.toInt64 l4 &&& 63)) &&& 1))), .int (b_2 + 1)]))]) (nc' := 0) (ns' := 0) B cl_X1_20 w_im_X2_add w_se_X2_add (wk_X2_add E t a N t_1 a_f ((b_1 <<< (1 &&& 31)) ||| (Int64.toInt32 ((l1 >>> (Int32.toInt64 l4 &&& 63)) &&& 1))) (by first | assumption | omega | decide)) rfl [1, 2] [0] rfl rfl (by decide) (by decide) (by decide) 0 rfl (fun q h => by cases h; rfl) rfl ⟨by decide, by decide⟩ rfl rfl (by decide) (by decide) rfl (Nat.le_of_ble_eq_true rfl) dX1_writeBits_55 (fun v w hq => ?_)
        obtain ⟨zt_1_152, za_f_153, rfl, rfl⟩ := hq
        show G E X 5 [(b, .inr (1, [.ref t, .int ((b_1 <<< (1 &&& 31)) ||| (Int64.toInt32 ((l1 >>> (Int32.toInt64 l4 &&& 63)) &&& 1))), .int (b_2 + 1)])), (t, .inr (2, [.ref a, .int zt_1_152])), (a, .inl (E.2.2.1 1, N, .inl (nb za_f_153)))] 0 0 [(0, .ref b), (1, .long l1), (3, .int l3), (4, .int l4)] 58 []
        refine g_aload_n B dX1_writeBits_58 rfl 0 rfl ?_
        refine g_iconst (v := 0) B dX1_writeBits_59 (by decide) ?_
        refine g_put (ws' := [(b, .inr (1, [.ref t, .int 0, .int (b_2 + 1)])), (t, .inr (2, [.ref a, .int zt_1_152])), (a, .inl (E.2.2.1 1, N, .inl (nb za_f_153)))]) B 0 1 fl_X1_13 pf_X1_1 rfl (Nat.le_of_ble_eq_true rfl) rfl rfl rfl dX1_writeBits_60 ?_
        refine g_aload_n B dX1_writeBits_63 rfl 0 rfl ?_
        refine g_iconst (v := 0) B dX1_writeBits_64 (by decide) ?_
        refine g_put (ws' := [(b, .inr (1, [.ref t, .int 0, .int 0])), (t, .inr (2, [.ref a, .int zt_1_152])), (a, .inl (E.2.2.1 1, N, .inl (nb za_f_153)))]) B 0 2 fl_X1_17 pf_X1_2 rfl (Nat.le_of_ble_eq_true rfl) rfl rfl rfl dX1_writeBits_65 ?_
        refine g_iinc (v := (l4 + (-1))) (lv' := [(4, .int (l4 + (-1))), (0, .ref b), (1, .long l1), (3, .int l3)]) B dX1_writeBits_68 3 rfl rfl (by decide) rfl ?_
        refine g_goto (tgt := 5) B dX1_writeBits_71 (by decide) ?_
        refine g_lvsub (lv' := [(0, .ref b), (1, .long l1), (3, .int l3), (4, .int (l4 + (-1)))]) [1, 2, 3, 0] rfl ?_
        exact ih 0 0 zt_1_152 za_f_153 l1 l3 (l4 + (-1))  (Nat.lt_of_lt_of_le (st_dn c7_150) (Nat.le_of_lt_succ hm))
theorem dX1_writeBits_74 : decode cX1_writeBits 74 = .ok (.return_, 1) := by decide +kernel
set_option maxRecDepth 100000 in
set_option maxHeartbeats 4000000 in
theorem wk_X1_writeBits (E : g_E) (b : Nat) (t : Nat) (a : Nat) (N : Nat) (b_1 : Int32) (b_2 : Int32) (t_1 : Int32) (a_f : Nat → Int32) (nu : Int64) (n : Int32) (hN : N < 2147483648) : Ev E MX1_writeBits 1 21 0 0 [.ref b, .long nu, .int n] [(b, .inr (1, [.ref t, .int b_1, .int b_2])), (t, .inr (2, [.ref a, .int t_1])), (a, .inl (E.2.2.1 1, N, .inl (nb a_f)))] (fun v_ w_ => ∃ zb_1 : Int32, ∃ zb_2 : Int32, ∃ zt_1 : Int32, ∃ za_f : Nat → Int32, v_ = none ∧ w_ = [(b, .inr (1, [.ref t, .int zb_1, .int zb_2])), (t, .inr (2, [.ref a, .int zt_1])), (a, .inl (E.2.2.1 1, N, .inl (nb za_f)))]) := by
  refine Ev.intro (by decide) (Nat.le_of_ble_eq_true rfl) ?_
  intro X B hr hI
  have B : Bd E X cX1_writeBits RX1 5 1 21 0 0 := B
  have hr : Rt E X none 0 0 (fun v_ w_ => ∃ zb_1 : Int32, ∃ zb_2 : Int32, ∃ zt_1 : Int32, ∃ za_f : Nat → Int32, v_ = none ∧ w_ = [(b, .inr (1, [.ref t, .int zb_1, .int zb_2])), (t, .inr (2, [.ref a, .int zt_1])), (a, .inl (E.2.2.1 1, N, .inl (nb za_f)))]) := hr
  show G E X 5 [(b, .inr (1, [.ref t, .int b_1, .int b_2])), (t, .inr (2, [.ref a, .int t_1])), (a, .inl (E.2.2.1 1, N, .inl (nb a_f)))] 0 0 [(0, .ref b), (1, .long nu), (3, .int n)] 0 []
  refine g_iload_n B dX1_writeBits_0 rfl 2 rfl ?_
  refine g_iconst (v := 1) B dX1_writeBits_1 (by decide) ?_
  refine g_isub B dX1_writeBits_2 ?_
  refine g_istore (lv' := [(4, .int (n - 1)), (0, .ref b), (1, .long nu), (3, .int n)]) B dX1_writeBits_3 (by decide) rfl ?_
  refine g_lvsub (lv' := [(0, .ref b), (1, .long nu), (3, .int n), (4, .int (n - 1))]) [1, 2, 3, 0] rfl ?_
  refine lp_wk_X1_writeBits_5 E b t a N hN B hr (fun y_154b_1 y_154b_2 y_154t_1 y_154a_f y_154l1 y_154l3 y_154l4 => ?_) _ b_1 b_2 t_1 a_f nu n (n - 1)  (Nat.lt_succ_self _)
  exact g_vret B hr dX1_writeBits_74 (by decide) (by decide) ⟨y_154b_1, y_154b_2, y_154t_1, y_154a_f, rfl, rfl⟩
abbrev MX1_writeOnes : g_M := (yX1_writeOnes, cX1_writeOnes, 3, none)
theorem dX1_writeOnes_0 : decode cX1_writeOnes 0 = .ok (.lload_n 1, 1) := by decide +kernel
theorem dX1_writeOnes_1 : decode cX1_writeOnes 1 = .ok (.ldc2_w 26, 3) := by decide +kernel
theorem w_k_X1_26 : Cond.constantLong RX1 26 16 ∈ g_tbl := g_tbl_in 623 (by decide +kernel) (by decide +kernel)
theorem dX1_writeOnes_4 : decode cX1_writeOnes 4 = .ok (.lcmp, 1) := by decide +kernel
theorem dX1_writeOnes_5 : decode cX1_writeOnes 5 = .ok (.ifCond .ge 24, 3) := by decide +kernel
theorem dX1_writeOnes_29 : decode cX1_writeOnes 29 = .ok (.aload_n 0, 1) := by decide +kernel
theorem dX1_writeOnes_30 : decode cX1_writeOnes 30 = .ok (.ldc2_w 34, 3) := by decide +kernel
theorem w_k_X1_34 : Cond.constantLong RX1 34 65535 ∈ g_tbl := g_tbl_in 625 (by decide +kernel) (by decide +kernel)
theorem dX1_writeOnes_33 : decode cX1_writeOnes 33 = .ok (.bipush 16, 2) := by decide +kernel
theorem dX1_writeOnes_35 : decode cX1_writeOnes 35 = .ok (.invokevirtual 30, 3) := by decide +kernel
theorem w_ml_X1_30 : Cond.methodLink RX1 30 yX1_writeBits ∈ g_tbl := g_tbl_in 581 (by decide +kernel) (by decide +kernel)
theorem w_cd_X1_writeBits : g_cw MX1_writeBits ∈ g_tbl := g_tbl_in 584 (by decide +kernel) (by decide +kernel)
theorem cl_X1_30 : CL RX1 30 2 MX1_writeBits := ⟨w_ml_X1_30, w_cd_X1_writeBits, w_ini_X1, by decide +kernel, by decide +kernel, by decide +kernel⟩
theorem w_im_X1_writeBits : Cond.instanceMethod yX1_writeBits ∈ g_tbl := g_tbl_in 582 (by decide +kernel) (by decide +kernel)
theorem w_se_X1_writeBits : Cond.selects RX1 yX1_writeBits yX1_writeBits ∈ g_tbl := g_tbl_in 583 (by decide +kernel) (by decide +kernel)
theorem dX1_writeOnes_38 : decode cX1_writeOnes 38 = .ok (.return_, 1) := by decide +kernel
theorem dX1_writeOnes_8 : decode cX1_writeOnes 8 = .ok (.aload_n 0, 1) := by decide +kernel
theorem dX1_writeOnes_9 : decode cX1_writeOnes 9 = .ok (.ldc2_w 28, 3) := by decide +kernel
theorem w_k_X1_28 : Cond.constantLong RX1 28 2 ∈ g_tbl := g_tbl_in 624 (by decide +kernel) (by decide +kernel)
theorem dX1_writeOnes_12 : decode cX1_writeOnes 12 = .ok (.lload_n 1, 1) := by decide +kernel
theorem dX1_writeOnes_13 : decode cX1_writeOnes 13 = .ok (.l2i, 1) := by decide +kernel
theorem dX1_writeOnes_14 : decode cX1_writeOnes 14 = .ok (.lshl, 1) := by decide +kernel
theorem dX1_writeOnes_15 : decode cX1_writeOnes 15 = .ok (.ldc2_w 28, 3) := by decide +kernel
theorem dX1_writeOnes_18 : decode cX1_writeOnes 18 = .ok (.lsub, 1) := by decide +kernel
theorem dX1_writeOnes_19 : decode cX1_writeOnes 19 = .ok (.lload_n 1, 1) := by decide +kernel
theorem dX1_writeOnes_20 : decode cX1_writeOnes 20 = .ok (.l2i, 1) := by decide +kernel
theorem dX1_writeOnes_21 : decode cX1_writeOnes 21 = .ok (.iconst 1, 1) := by decide +kernel
theorem dX1_writeOnes_22 : decode cX1_writeOnes 22 = .ok (.iadd, 1) := by decide +kernel
theorem dX1_writeOnes_23 : decode cX1_writeOnes 23 = .ok (.invokevirtual 30, 3) := by decide +kernel
theorem dX1_writeOnes_26 : decode cX1_writeOnes 26 = .ok (.goto 12, 3) := by decide +kernel
set_option maxRecDepth 100000 in
set_option maxHeartbeats 4000000 in
theorem wk_X1_writeOnes (E : g_E) (b : Nat) (t : Nat) (a : Nat) (N : Nat) (b_1 : Int32) (b_2 : Int32) (t_1 : Int32) (a_f : Nat → Int32) (v : Int64) (hN : N < 2147483648) : Ev E MX1_writeOnes 2 45 0 0 [.ref b, .long v] [(b, .inr (1, [.ref t, .int b_1, .int b_2])), (t, .inr (2, [.ref a, .int t_1])), (a, .inl (E.2.2.1 1, N, .inl (nb a_f)))] (fun v_ w_ => ∃ zb_1 : Int32, ∃ zb_2 : Int32, ∃ zt_1 : Int32, ∃ za_f : Nat → Int32, v_ = none ∧ w_ = [(b, .inr (1, [.ref t, .int zb_1, .int zb_2])), (t, .inr (2, [.ref a, .int zt_1])), (a, .inl (E.2.2.1 1, N, .inl (nb za_f)))]) := by
  refine Ev.intro (by decide) (Nat.le_of_ble_eq_true rfl) ?_
  intro X B hr hI
  have B : Bd E X cX1_writeOnes RX1 3 2 45 0 0 := B
  have hr : Rt E X none 0 0 (fun v_ w_ => ∃ zb_1 : Int32, ∃ zb_2 : Int32, ∃ zt_1 : Int32, ∃ za_f : Nat → Int32, v_ = none ∧ w_ = [(b, .inr (1, [.ref t, .int zb_1, .int zb_2])), (t, .inr (2, [.ref a, .int zt_1])), (a, .inl (E.2.2.1 1, N, .inl (nb za_f)))]) := hr
  show G E X 3 [(b, .inr (1, [.ref t, .int b_1, .int b_2])), (t, .inr (2, [.ref a, .int t_1])), (a, .inl (E.2.2.1 1, N, .inl (nb a_f)))] 0 0 [(0, .ref b), (1, .long v)] 0 []
  refine g_lload_n B dX1_writeOnes_0 rfl 1 rfl ?_
  refine g_ldc2 (v := 16) B w_k_X1_26 dX1_writeOnes_1 ?_
  refine g_lcmp B dX1_writeOnes_4 ?_
  refine g_if_ge (tgt := 29) B dX1_writeOnes_5 (by decide) (fun c5_155 => ?_) (fun c5_155 => ?_)
  · refine g_aload_n B dX1_writeOnes_29 rfl 0 rfl ?_
    refine g_ldc2 (v := 65535) B w_k_X1_34 dX1_writeOnes_30 ?_
    refine g_bipush (v := 16) B dX1_writeOnes_33 (by decide) ?_
    refine g_callV (st := []) (As := [.long 65535, .int 16]) (wr := []) (nc' := 0) (ns' := 0) B cl_X1_30 w_im_X1_writeBits w_se_X1_writeBits (wk_X1_writeBits E b t a N b_1 b_2 t_1 a_f 65535 16 (by first | assumption | omega | decide)) rfl [0, 1, 2] [] rfl rfl (by decide) (by decide) (by decide) 0 rfl (fun q h => by cases h; rfl) rfl ⟨by decide, by decide⟩ rfl rfl (by decide) (by decide) rfl (Nat.le_of_ble_eq_true rfl) dX1_writeOnes_35 (fun v w hq => ?_)
    obtain ⟨zb_1_156, zb_2_157, zt_1_158, za_f_159, rfl, rfl⟩ := hq
    show G E X 3 [(b, .inr (1, [.ref t, .int zb_1_156, .int zb_2_157])), (t, .inr (2, [.ref a, .int zt_1_158])), (a, .inl (E.2.2.1 1, N, .inl (nb za_f_159)))] 0 0 [(0, .ref b), (1, .long v)] 38 []
    exact g_vret B hr dX1_writeOnes_38 (by decide) (by decide) ⟨zb_1_156, zb_2_157, zt_1_158, za_f_159, rfl, rfl⟩
  · refine g_aload_n B dX1_writeOnes_8 rfl 0 rfl ?_
    refine g_ldc2 (v := 2) B w_k_X1_28 dX1_writeOnes_9 ?_
    refine g_lload_n B dX1_writeOnes_12 rfl 1 rfl ?_
    refine g_l2i B dX1_writeOnes_13 ?_
    refine g_lshl B dX1_writeOnes_14 ?_
    refine g_ldc2 (v := 2) B w_k_X1_28 dX1_writeOnes_15 ?_
    refine g_lsub B dX1_writeOnes_18 ?_
    refine g_lload_n B dX1_writeOnes_19 rfl 1 rfl ?_
    refine g_l2i B dX1_writeOnes_20 ?_
    refine g_iconst (v := 1) B dX1_writeOnes_21 (by decide) ?_
    refine g_iadd B dX1_writeOnes_22 ?_
    refine g_callV (st := []) (As := [.long ((2 <<< (Int32.toInt64 (Int64.toInt32 v) &&& 63)) - 2), .int ((Int64.toInt32 v) + 1)]) (wr := []) (nc' := 0) (ns' := 0) B cl_X1_30 w_im_X1_writeBits w_se_X1_writeBits (wk_X1_writeBits E b t a N b_1 b_2 t_1 a_f ((2 <<< (Int32.toInt64 (Int64.toInt32 v) &&& 63)) - 2) ((Int64.toInt32 v) + 1) (by first | assumption | omega | decide)) rfl [0, 1, 2] [] rfl rfl (by decide) (by decide) (by decide) 0 rfl (fun q h => by cases h; rfl) rfl ⟨by decide, by decide⟩ rfl rfl (by decide) (by decide) rfl (Nat.le_of_ble_eq_true rfl) dX1_writeOnes_23 (fun v w hq => ?_)
    obtain ⟨zb_1_160, zb_2_161, zt_1_162, za_f_163, rfl, rfl⟩ := hq
    show G E X 3 [(b, .inr (1, [.ref t, .int zb_1_160, .int zb_2_161])), (t, .inr (2, [.ref a, .int zt_1_162])), (a, .inl (E.2.2.1 1, N, .inl (nb za_f_163)))] 0 0 [(0, .ref b), (1, .long v)] 26 []
    refine g_goto (tgt := 38) B dX1_writeOnes_26 (by decide) ?_
    exact g_vret B hr dX1_writeOnes_38 (by decide) (by decide) ⟨zb_1_160, zb_2_161, zt_1_162, za_f_163, rfl, rfl⟩
abbrev MX1_writeG : g_M := (yX1_writeG, cX1_writeG, 4, none)
theorem dX1_writeG_0 : decode cX1_writeG 0 = .ok (.lload_n 1, 1) := by decide +kernel
theorem dX1_writeG_1 : decode cX1_writeG 1 = .ok (.invokestatic 36, 3) := by decide +kernel
theorem w_cd_X10_highestBit : g_cw MX10_highestBit ∈ g_tbl := g_tbl_in 580 (by decide +kernel) (by decide +kernel)
theorem w_ini_X10 : Cond.initialized RX10 ∈ g_tbl := g_tbl_in 68 (by decide +kernel) (by decide +kernel)
theorem w_sm_X10_highestBit : Cond.static yX10_highestBit ∈ g_tbl := g_tbl_in 579 (by decide +kernel) (by decide +kernel)
theorem dX1_writeG_4 : decode cX1_writeG 4 = .ok (.istore_n 3, 1) := by decide +kernel
theorem dX1_writeG_5 : decode cX1_writeG 5 = .ok (.aload_n 0, 1) := by decide +kernel
theorem dX1_writeG_6 : decode cX1_writeG 6 = .ok (.iload_n 3, 1) := by decide +kernel
theorem dX1_writeG_7 : decode cX1_writeG 7 = .ok (.i2l, 1) := by decide +kernel
theorem dX1_writeG_8 : decode cX1_writeG 8 = .ok (.iconst 5, 1) := by decide +kernel
theorem dX1_writeG_9 : decode cX1_writeG 9 = .ok (.invokevirtual 30, 3) := by decide +kernel
theorem dX1_writeG_12 : decode cX1_writeG 12 = .ok (.aload_n 0, 1) := by decide +kernel
theorem dX1_writeG_13 : decode cX1_writeG 13 = .ok (.lload_n 1, 1) := by decide +kernel
theorem dX1_writeG_14 : decode cX1_writeG 14 = .ok (.iload_n 3, 1) := by decide +kernel
theorem dX1_writeG_15 : decode cX1_writeG 15 = .ok (.invokevirtual 30, 3) := by decide +kernel
theorem dX1_writeG_18 : decode cX1_writeG 18 = .ok (.return_, 1) := by decide +kernel
set_option maxRecDepth 100000 in
set_option maxHeartbeats 4000000 in
theorem wk_X1_writeG (E : g_E) (b : Nat) (t : Nat) (a : Nat) (N : Nat) (b_1 : Int32) (b_2 : Int32) (t_1 : Int32) (a_f : Nat → Int32) (v : Int64) (hN : N < 2147483648) : Ev E MX1_writeG 2 45 0 0 [.ref b, .long v] [(b, .inr (1, [.ref t, .int b_1, .int b_2])), (t, .inr (2, [.ref a, .int t_1])), (a, .inl (E.2.2.1 1, N, .inl (nb a_f)))] (fun v_ w_ => ∃ zb_1 : Int32, ∃ zb_2 : Int32, ∃ zt_1 : Int32, ∃ za_f : Nat → Int32, v_ = none ∧ w_ = [(b, .inr (1, [.ref t, .int zb_1, .int zb_2])), (t, .inr (2, [.ref a, .int zt_1])), (a, .inl (E.2.2.1 1, N, .inl (nb za_f)))]) := by
  refine Ev.intro (by decide) (Nat.le_of_ble_eq_true rfl) ?_
  intro X B hr hI
  have B : Bd E X cX1_writeG RX1 4 2 45 0 0 := B
  have hr : Rt E X none 0 0 (fun v_ w_ => ∃ zb_1 : Int32, ∃ zb_2 : Int32, ∃ zt_1 : Int32, ∃ za_f : Nat → Int32, v_ = none ∧ w_ = [(b, .inr (1, [.ref t, .int zb_1, .int zb_2])), (t, .inr (2, [.ref a, .int zt_1])), (a, .inl (E.2.2.1 1, N, .inl (nb za_f)))]) := hr
  show G E X 4 [(b, .inr (1, [.ref t, .int b_1, .int b_2])), (t, .inr (2, [.ref a, .int t_1])), (a, .inl (E.2.2.1 1, N, .inl (nb a_f)))] 0 0 [(0, .ref b), (1, .long v)] 0 []
  refine g_lload_n B dX1_writeG_0 rfl 1 rfl ?_
  refine g_callSW (st := []) (As := [.long v]) (wr := [(b, .inr (1, [.ref t, .int b_1, .int b_2])), (t, .inr (2, [.ref a, .int t_1])), (a, .inl (E.2.2.1 1, N, .inl (nb a_f)))]) (nc' := 0) (ns' := 0) B w_cd_X10_highestBit w_ini_X10 w_sm_X10_highestBit (wk_X10_highestBit E v ) rfl [] [0, 1, 2] rfl rfl (by decide) (by decide) (by decide) ⟨by decide, by decide⟩ rfl rfl (by decide) (by decide) rfl (Nat.le_of_ble_eq_true rfl) dX1_writeG_1 (fun v w hq => ?_)
  obtain ⟨zr_164, rfl, rfl⟩ := hq
  show G E X 4 [(b, .inr (1, [.ref t, .int b_1, .int b_2])), (t, .inr (2, [.ref a, .int t_1])), (a, .inl (E.2.2.1 1, N, .inl (nb a_f)))] 0 0 [(0, .ref b), (1, .long v)] 4 [.int zr_164]
  refine g_istore_n (lv' := [(3, .int zr_164), (0, .ref b), (1, .long v)]) B dX1_writeG_4 rfl (by decide) rfl ?_
  refine g_aload_n B dX1_writeG_5 rfl 1 rfl ?_
  refine g_iload_n B dX1_writeG_6 rfl 0 rfl ?_
  refine g_i2l B dX1_writeG_7 ?_
  refine g_iconst (v := 5) B dX1_writeG_8 (by decide) ?_
  refine g_callV (st := []) (As := [.long (Int32.toInt64 zr_164), .int 5]) (wr := []) (nc' := 0) (ns' := 0) B cl_X1_30 w_im_X1_writeBits w_se_X1_writeBits (wk_X1_writeBits E b t a N b_1 b_2 t_1 a_f (Int32.toInt64 zr_164) 5 (by first | assumption | omega | decide)) rfl [0, 1, 2] [] rfl rfl (by decide) (by decide) (by decide) 0 rfl (fun q h => by cases h; rfl) rfl ⟨by decide, by decide⟩ rfl rfl (by decide) (by decide) rfl (Nat.le_of_ble_eq_true rfl) dX1_writeG_9 (fun v w hq => ?_)
  obtain ⟨zb_1_165, zb_2_166, zt_1_167, za_f_168, rfl, rfl⟩ := hq
  show G E X 4 [(b, .inr (1, [.ref t, .int zb_1_165, .int zb_2_166])), (t, .inr (2, [.ref a, .int zt_1_167])), (a, .inl (E.2.2.1 1, N, .inl (nb za_f_168)))] 0 0 [(3, .int zr_164), (0, .ref b), (1, .long v)] 12 []
  refine g_aload_n B dX1_writeG_12 rfl 1 rfl ?_
  refine g_lload_n B dX1_writeG_13 rfl 2 rfl ?_
  refine g_iload_n B dX1_writeG_14 rfl 0 rfl ?_
  refine g_callV (st := []) (As := [.long v, .int zr_164]) (wr := []) (nc' := 0) (ns' := 0) B cl_X1_30 w_im_X1_writeBits w_se_X1_writeBits (wk_X1_writeBits E b t a N zb_1_165 zb_2_166 zt_1_167 za_f_168 v zr_164 (by first | assumption | omega | decide)) rfl [0, 1, 2] [] rfl rfl (by decide) (by decide) (by decide) 0 rfl (fun q h => by cases h; rfl) rfl ⟨by decide, by decide⟩ rfl rfl (by decide) (by decide) rfl (Nat.le_of_ble_eq_true rfl) dX1_writeG_15 (fun v w hq => ?_)
  obtain ⟨zb_1_169, zb_2_170, zt_1_171, za_f_172, rfl, rfl⟩ := hq
  show G E X 4 [(b, .inr (1, [.ref t, .int zb_1_169, .int zb_2_170])), (t, .inr (2, [.ref a, .int zt_1_171])), (a, .inl (E.2.2.1 1, N, .inl (nb za_f_172)))] 0 0 [(3, .int zr_164), (0, .ref b), (1, .long v)] 18 []
  exact g_vret B hr dX1_writeG_18 (by decide) (by decide) ⟨zb_1_169, zb_2_170, zt_1_171, za_f_172, rfl, rfl⟩
abbrev MX1_writeT : g_M := (yX1_writeT, cX1_writeT, 8, none)
theorem dX1_writeT_0 : decode cX1_writeT 0 = .ok (.lload_n 3, 1) := by decide +kernel
theorem dX1_writeT_1 : decode cX1_writeT 1 = .ok (.invokestatic 36, 3) := by decide +kernel
theorem dX1_writeT_4 : decode cX1_writeT 4 = .ok (.istore 5, 2) := by decide +kernel
theorem dX1_writeT_6 : decode cX1_writeT 6 = .ok (.ldc2_w 28, 3) := by decide +kernel
theorem dX1_writeT_9 : decode cX1_writeT 9 = .ok (.iload 5, 2) := by decide +kernel
theorem dX1_writeT_11 : decode cX1_writeT 11 = .ok (.lshl, 1) := by decide +kernel
theorem dX1_writeT_12 : decode cX1_writeT 12 = .ok (.lload_n 3, 1) := by decide +kernel
theorem dX1_writeT_13 : decode cX1_writeT 13 = .ok (.lsub, 1) := by decide +kernel
theorem dX1_writeT_14 : decode cX1_writeT 14 = .ok (.lstore 6, 2) := by decide +kernel
theorem dX1_writeT_16 : decode cX1_writeT 16 = .ok (.lload_n 1, 1) := by decide +kernel
theorem dX1_writeT_17 : decode cX1_writeT 17 = .ok (.lload 6, 2) := by decide +kernel
theorem dX1_writeT_19 : decode cX1_writeT 19 = .ok (.lcmp, 1) := by decide +kernel
theorem dX1_writeT_20 : decode cX1_writeT 20 = .ok (.ifCond .ge 13, 3) := by decide +kernel
theorem dX1_writeT_33 : decode cX1_writeT 33 = .ok (.aload_n 0, 1) := by decide +kernel
theorem dX1_writeT_34 : decode cX1_writeT 34 = .ok (.lload_n 1, 1) := by decide +kernel
theorem dX1_writeT_35 : decode cX1_writeT 35 = .ok (.lload 6, 2) := by decide +kernel
theorem dX1_writeT_37 : decode cX1_writeT 37 = .ok (.ladd, 1) := by decide +kernel
theorem dX1_writeT_38 : decode cX1_writeT 38 = .ok (.iload 5, 2) := by decide +kernel
theorem dX1_writeT_40 : decode cX1_writeT 40 = .ok (.iconst 1, 1) := by decide +kernel
theorem dX1_writeT_41 : decode cX1_writeT 41 = .ok (.iadd, 1) := by decide +kernel
theorem dX1_writeT_42 : decode cX1_writeT 42 = .ok (.invokevirtual 30, 3) := by decide +kernel
theorem dX1_writeT_45 : decode cX1_writeT 45 = .ok (.return_, 1) := by decide +kernel
theorem dX1_writeT_23 : decode cX1_writeT 23 = .ok (.aload_n 0, 1) := by decide +kernel
theorem dX1_writeT_24 : decode cX1_writeT 24 = .ok (.lload_n 1, 1) := by decide +kernel
theorem dX1_writeT_25 : decode cX1_writeT 25 = .ok (.iload 5, 2) := by decide +kernel
theorem dX1_writeT_27 : decode cX1_writeT 27 = .ok (.invokevirtual 30, 3) := by decide +kernel
theorem dX1_writeT_30 : decode cX1_writeT 30 = .ok (.goto 15, 3) := by decide +kernel
set_option maxRecDepth 100000 in
set_option maxHeartbeats 4000000 in
theorem wk_X1_writeT (E : g_E) (b : Nat) (t : Nat) (a : Nat) (N : Nat) (b_1 : Int32) (b_2 : Int32) (t_1 : Int32) (a_f : Nat → Int32) (o : Int64) (n : Int64) (hN : N < 2147483648) : Ev E MX1_writeT 2 45 0 0 [.ref b, .long o, .long n] [(b, .inr (1, [.ref t, .int b_1, .int b_2])), (t, .inr (2, [.ref a, .int t_1])), (a, .inl (E.2.2.1 1, N, .inl (nb a_f)))] (fun v_ w_ => ∃ zb_1 : Int32, ∃ zb_2 : Int32, ∃ zt_1 : Int32, ∃ za_f : Nat → Int32, v_ = none ∧ w_ = [(b, .inr (1, [.ref t, .int zb_1, .int zb_2])), (t, .inr (2, [.ref a, .int zt_1])), (a, .inl (E.2.2.1 1, N, .inl (nb za_f)))]) := by
  refine Ev.intro (by decide) (Nat.le_of_ble_eq_true rfl) ?_
  intro X B hr hI
  have B : Bd E X cX1_writeT RX1 8 2 45 0 0 := B
  have hr : Rt E X none 0 0 (fun v_ w_ => ∃ zb_1 : Int32, ∃ zb_2 : Int32, ∃ zt_1 : Int32, ∃ za_f : Nat → Int32, v_ = none ∧ w_ = [(b, .inr (1, [.ref t, .int zb_1, .int zb_2])), (t, .inr (2, [.ref a, .int zt_1])), (a, .inl (E.2.2.1 1, N, .inl (nb za_f)))]) := hr
  show G E X 8 [(b, .inr (1, [.ref t, .int b_1, .int b_2])), (t, .inr (2, [.ref a, .int t_1])), (a, .inl (E.2.2.1 1, N, .inl (nb a_f)))] 0 0 [(0, .ref b), (1, .long o), (3, .long n)] 0 []
  refine g_lload_n B dX1_writeT_0 rfl 2 rfl ?_
  refine g_callSW (st := []) (As := [.long n]) (wr := [(b, .inr (1, [.ref t, .int b_1, .int b_2])), (t, .inr (2, [.ref a, .int t_1])), (a, .inl (E.2.2.1 1, N, .inl (nb a_f)))]) (nc' := 0) (ns' := 0) B w_cd_X10_highestBit w_ini_X10 w_sm_X10_highestBit (wk_X10_highestBit E n ) rfl [] [0, 1, 2] rfl rfl (by decide) (by decide) (by decide) ⟨by decide, by decide⟩ rfl rfl (by decide) (by decide) rfl (Nat.le_of_ble_eq_true rfl) dX1_writeT_1 (fun v w hq => ?_)
  obtain ⟨zr_173, rfl, rfl⟩ := hq
  show G E X 8 [(b, .inr (1, [.ref t, .int b_1, .int b_2])), (t, .inr (2, [.ref a, .int t_1])), (a, .inl (E.2.2.1 1, N, .inl (nb a_f)))] 0 0 [(0, .ref b), (1, .long o), (3, .long n)] 4 [.int zr_173]
  refine g_istore (lv' := [(5, .int zr_173), (0, .ref b), (1, .long o), (3, .long n)]) B dX1_writeT_4 (by decide) rfl ?_
  refine g_ldc2 (v := 2) B w_k_X1_28 dX1_writeT_6 ?_
  refine g_iload B dX1_writeT_9 0 rfl ?_
  refine g_lshl B dX1_writeT_11 ?_
  refine g_lload_n B dX1_writeT_12 rfl 3 rfl ?_
  refine g_lsub B dX1_writeT_13 ?_
  refine g_lstore (lv' := [(6, .long ((2 <<< (Int32.toInt64 zr_173 &&& 63)) - n)), (5, .int zr_173), (0, .ref b), (1, .long o), (3, .long n)]) B dX1_writeT_14 (by decide) rfl ?_
  refine g_lload_n B dX1_writeT_16 rfl 3 rfl ?_
  refine g_lload B dX1_writeT_17 0 rfl ?_
  refine g_lcmp B dX1_writeT_19 ?_
  refine g_if_ge (tgt := 33) B dX1_writeT_20 (by decide) (fun c20_174 => ?_) (fun c20_174 => ?_)
  · refine g_aload_n B dX1_writeT_33 rfl 2 rfl ?_
    refine g_lload_n B dX1_writeT_34 rfl 3 rfl ?_
    refine g_lload B dX1_writeT_35 0 rfl ?_
    refine g_ladd B dX1_writeT_37 ?_
    refine g_iload B dX1_writeT_38 1 rfl ?_
    refine g_iconst (v := 1) B dX1_writeT_40 (by decide) ?_
    refine g_iadd B dX1_writeT_41 ?_
    refine g_callV (st := []) (As := [.long (o + ((2 <<< (Int32.toInt64 zr_173 &&& 63)) - n)), .int (zr_173 + 1)]) (wr := []) (nc' := 0) (ns' := 0) B cl_X1_30 w_im_X1_writeBits w_se_X1_writeBits (wk_X1_writeBits E b t a N b_1 b_2 t_1 a_f (o + ((2 <<< (Int32.toInt64 zr_173 &&& 63)) - n)) (zr_173 + 1) (by first | assumption | omega | decide)) rfl [0, 1, 2] [] rfl rfl (by decide) (by decide) (by decide) 0 rfl (fun q h => by cases h; rfl) rfl ⟨by decide, by decide⟩ rfl rfl (by decide) (by decide) rfl (Nat.le_of_ble_eq_true rfl) dX1_writeT_42 (fun v w hq => ?_)
    obtain ⟨zb_1_175, zb_2_176, zt_1_177, za_f_178, rfl, rfl⟩ := hq
    show G E X 8 [(b, .inr (1, [.ref t, .int zb_1_175, .int zb_2_176])), (t, .inr (2, [.ref a, .int zt_1_177])), (a, .inl (E.2.2.1 1, N, .inl (nb za_f_178)))] 0 0 [(6, .long ((2 <<< (Int32.toInt64 zr_173 &&& 63)) - n)), (5, .int zr_173), (0, .ref b), (1, .long o), (3, .long n)] 45 []
    exact g_vret B hr dX1_writeT_45 (by decide) (by decide) ⟨zb_1_175, zb_2_176, zt_1_177, za_f_178, rfl, rfl⟩
  · refine g_aload_n B dX1_writeT_23 rfl 2 rfl ?_
    refine g_lload_n B dX1_writeT_24 rfl 3 rfl ?_
    refine g_iload B dX1_writeT_25 1 rfl ?_
    refine g_callV (st := []) (As := [.long o, .int zr_173]) (wr := []) (nc' := 0) (ns' := 0) B cl_X1_30 w_im_X1_writeBits w_se_X1_writeBits (wk_X1_writeBits E b t a N b_1 b_2 t_1 a_f o zr_173 (by first | assumption | omega | decide)) rfl [0, 1, 2] [] rfl rfl (by decide) (by decide) (by decide) 0 rfl (fun q h => by cases h; rfl) rfl ⟨by decide, by decide⟩ rfl rfl (by decide) (by decide) rfl (Nat.le_of_ble_eq_true rfl) dX1_writeT_27 (fun v w hq => ?_)
    obtain ⟨zb_1_179, zb_2_180, zt_1_181, za_f_182, rfl, rfl⟩ := hq
    show G E X 8 [(b, .inr (1, [.ref t, .int zb_1_179, .int zb_2_180])), (t, .inr (2, [.ref a, .int zt_1_181])), (a, .inl (E.2.2.1 1, N, .inl (nb za_f_182)))] 0 0 [(6, .long ((2 <<< (Int32.toInt64 zr_173 &&& 63)) - n)), (5, .int zr_173), (0, .ref b), (1, .long o), (3, .long n)] 30 []
    refine g_goto (tgt := 45) B dX1_writeT_30 (by decide) ?_
    exact g_vret B hr dX1_writeT_45 (by decide) (by decide) ⟨zb_1_179, zb_2_180, zt_1_181, za_f_182, rfl, rfl⟩
abbrev MX1_finish : g_M := (yX1_finish, cX1_finish, 1, none)
theorem dX1_finish_0 : decode cX1_finish 0 = .ok (.aload_n 0, 1) := by decide +kernel
theorem dX1_finish_1 : decode cX1_finish 1 = .ok (.getfield 17, 3) := by decide +kernel
theorem dX1_finish_4 : decode cX1_finish 4 = .ok (.ifCond .le 22, 3) := by decide +kernel
theorem dX1_finish_26 : decode cX1_finish 26 = .ok (.aload_n 0, 1) := by decide +kernel
theorem dX1_finish_27 : decode cX1_finish 27 = .ok (.iconst 0, 1) := by decide +kernel
theorem dX1_finish_28 : decode cX1_finish 28 = .ok (.putfield 13, 3) := by decide +kernel
theorem dX1_finish_31 : decode cX1_finish 31 = .ok (.aload_n 0, 1) := by decide +kernel
theorem dX1_finish_32 : decode cX1_finish 32 = .ok (.iconst 0, 1) := by decide +kernel
theorem dX1_finish_33 : decode cX1_finish 33 = .ok (.putfield 17, 3) := by decide +kernel
theorem dX1_finish_36 : decode cX1_finish 36 = .ok (.return_, 1) := by decide +kernel
theorem dX1_finish_7 : decode cX1_finish 7 = .ok (.aload_n 0, 1) := by decide +kernel
theorem dX1_finish_8 : decode cX1_finish 8 = .ok (.getfield 7, 3) := by decide +kernel
theorem dX1_finish_11 : decode cX1_finish 11 = .ok (.aload_n 0, 1) := by decide +kernel
theorem dX1_finish_12 : decode cX1_finish 12 = .ok (.getfield 13, 3) := by decide +kernel
theorem dX1_finish_15 : decode cX1_finish 15 = .ok (.bipush 8, 2) := by decide +kernel
theorem dX1_finish_17 : decode cX1_finish 17 = .ok (.aload_n 0, 1) := by decide +kernel
theorem dX1_finish_18 : decode cX1_finish 18 = .ok (.getfield 17, 3) := by decide +kernel
theorem dX1_finish_21 : decode cX1_finish 21 = .ok (.isub, 1) := by decide +kernel
theorem dX1_finish_22 : decode cX1_finish 22 = .ok (.ishl, 1) := by decide +kernel
theorem dX1_finish_23 : decode cX1_finish 23 = .ok (.invokevirtual 20, 3) := by decide +kernel
set_option maxRecDepth 100000 in
set_option maxHeartbeats 4000000 in
theorem wk_X1_finish (E : g_E) (b : Nat) (t : Nat) (a : Nat) (N : Nat) (b_1 : Int32) (b_2 : Int32) (t_1 : Int32) (a_f : Nat → Int32) (hN : N < 2147483648) : Ev E MX1_finish 1 21 0 0 [.ref b] [(b, .inr (1, [.ref t, .int b_1, .int b_2])), (t, .inr (2, [.ref a, .int t_1])), (a, .inl (E.2.2.1 1, N, .inl (nb a_f)))] (fun v_ w_ => ∃ zb_1 : Int32, ∃ zb_2 : Int32, ∃ zt_1 : Int32, ∃ za_f : Nat → Int32, v_ = none ∧ w_ = [(b, .inr (1, [.ref t, .int zb_1, .int zb_2])), (t, .inr (2, [.ref a, .int zt_1])), (a, .inl (E.2.2.1 1, N, .inl (nb za_f)))]) := by
  refine Ev.intro (by decide) (Nat.le_of_ble_eq_true rfl) ?_
  intro X B hr hI
  have B : Bd E X cX1_finish RX1 1 1 21 0 0 := B
  have hr : Rt E X none 0 0 (fun v_ w_ => ∃ zb_1 : Int32, ∃ zb_2 : Int32, ∃ zt_1 : Int32, ∃ za_f : Nat → Int32, v_ = none ∧ w_ = [(b, .inr (1, [.ref t, .int zb_1, .int zb_2])), (t, .inr (2, [.ref a, .int zt_1])), (a, .inl (E.2.2.1 1, N, .inl (nb za_f)))]) := hr
  show G E X 1 [(b, .inr (1, [.ref t, .int b_1, .int b_2])), (t, .inr (2, [.ref a, .int t_1])), (a, .inl (E.2.2.1 1, N, .inl (nb a_f)))] 0 0 [(0, .ref b)] 0 []
  refine g_aload_n B dX1_finish_0 rfl 0 rfl ?_
  refine g_get B 0 2 fl_X1_17 rfl rfl dX1_finish_1 ?_
  refine g_if_le (tgt := 26) B dX1_finish_4 (by decide) (fun c4_183 => ?_) (fun c4_183 => ?_)
  · refine g_aload_n B dX1_finish_26 rfl 0 rfl ?_
    refine g_iconst (v := 0) B dX1_finish_27 (by decide) ?_
    refine g_put (ws' := [(b, .inr (1, [.ref t, .int 0, .int b_2])), (t, .inr (2, [.ref a, .int t_1])), (a, .inl (E.2.2.1 1, N, .inl (nb a_f)))]) B 0 1 fl_X1_13 pf_X1_1 rfl (Nat.le_of_ble_eq_true rfl) rfl rfl rfl dX1_finish_28 ?_
    refine g_aload_n B dX1_finish_31 rfl 0 rfl ?_
    refine g_iconst (v := 0) B dX1_finish_32 (by decide) ?_
    refine g_put (ws' := [(b, .inr (1, [.ref t, .int 0, .int 0])), (t, .inr (2, [.ref a, .int t_1])), (a, .inl (E.2.2.1 1, N, .inl (nb a_f)))]) B 0 2 fl_X1_17 pf_X1_2 rfl (Nat.le_of_ble_eq_true rfl) rfl rfl rfl dX1_finish_33 ?_
    exact g_vret B hr dX1_finish_36 (by decide) (by decide) ⟨0, 0, t_1, a_f, rfl, rfl⟩
  · refine g_aload_n B dX1_finish_7 rfl 0 rfl ?_
    refine g_get B 0 0 fl_X1_7 rfl rfl dX1_finish_8 ?_
    refine g_aload_n B dX1_finish_11 rfl 0 rfl ?_
    refine g_get B 0 1 fl_X1_13 rfl rfl dX1_finish_12 ?_
    refine g_bipush (v := 8) B dX1_finish_15 (by decide) ?_
    refine g_aload_n B dX1_finish_17 rfl 0 rfl ?_
    refine g_get B 0 2 fl_X1_17 rfl rfl dX1_finish_18 ?_
    refine g_isub B dX1_finish_21 ?_
    refine g_ishl B dX1_finish_22 ?_
    refine g_callV (st := []) (As := [.int (b_1 <<< ((8 - b_2) &&& 31))]) (wr := [(b, .inr (1, [.ref t, .int b_1, .int b_2]))]) (nc' := 0) (ns' := 0) B cl_X1_20 w_im_X2_add w_se_X2_add (wk_X2_add E t a N t_1 a_f (b_1 <<< ((8 - b_2) &&& 31)) (by first | assumption | omega | decide)) rfl [1, 2] [0] rfl rfl (by decide) (by decide) (by decide) 0 rfl (fun q h => by cases h; rfl) rfl ⟨by decide, by decide⟩ rfl rfl (by decide) (by decide) rfl (Nat.le_of_ble_eq_true rfl) dX1_finish_23 (fun v w hq => ?_)
    obtain ⟨zt_1_184, za_f_185, rfl, rfl⟩ := hq
    show G E X 1 [(b, .inr (1, [.ref t, .int b_1, .int b_2])), (t, .inr (2, [.ref a, .int zt_1_184])), (a, .inl (E.2.2.1 1, N, .inl (nb za_f_185)))] 0 0 [(0, .ref b)] 26 []
    refine g_aload_n B dX1_finish_26 rfl 0 rfl ?_
    refine g_iconst (v := 0) B dX1_finish_27 (by decide) ?_
    refine g_put (ws' := [(b, .inr (1, [.ref t, .int 0, .int b_2])), (t, .inr (2, [.ref a, .int zt_1_184])), (a, .inl (E.2.2.1 1, N, .inl (nb za_f_185)))]) B 0 1 fl_X1_13 pf_X1_1 rfl (Nat.le_of_ble_eq_true rfl) rfl rfl rfl dX1_finish_28 ?_
    refine g_aload_n B dX1_finish_31 rfl 0 rfl ?_
    refine g_iconst (v := 0) B dX1_finish_32 (by decide) ?_
    refine g_put (ws' := [(b, .inr (1, [.ref t, .int 0, .int 0])), (t, .inr (2, [.ref a, .int zt_1_184])), (a, .inl (E.2.2.1 1, N, .inl (nb za_f_185)))]) B 0 2 fl_X1_17 pf_X1_2 rfl (Nat.le_of_ble_eq_true rfl) rfl rfl rfl dX1_finish_33 ?_
    exact g_vret B hr dX1_finish_36 (by decide) (by decide) ⟨0, 0, zt_1_184, za_f_185, rfl, rfl⟩
abbrev MX0_start : g_M := (yX0_start, cX0_start, 3, none)
theorem dX0_start_0 : decode cX0_start 0 = .ok (.aload_n 0, 1) := by decide +kernel
theorem dX0_start_1 : decode cX0_start 1 = .ok (.iload_n 1, 1) := by decide +kernel
theorem dX0_start_2 : decode cX0_start 2 = .ok (.bipush 8, 2) := by decide +kernel
theorem dX0_start_4 : decode cX0_start 4 = .ok (.imul, 1) := by decide +kernel
theorem dX0_start_5 : decode cX0_start 5 = .ok (.putfield 13, 3) := by decide +kernel
theorem dX0_start_8 : decode cX0_start 8 = .ok (.aload_n 0, 1) := by decide +kernel
theorem dX0_start_9 : decode cX0_start 9 = .ok (.iload_n 2, 1) := by decide +kernel
theorem dX0_start_10 : decode cX0_start 10 = .ok (.bipush 8, 2) := by decide +kernel
theorem dX0_start_12 : decode cX0_start 12 = .ok (.imul, 1) := by decide +kernel
theorem dX0_start_13 : decode cX0_start 13 = .ok (.putfield 17, 3) := by decide +kernel
theorem dX0_start_16 : decode cX0_start 16 = .ok (.aload_n 0, 1) := by decide +kernel
theorem dX0_start_17 : decode cX0_start 17 = .ok (.iconst 0, 1) := by decide +kernel
theorem dX0_start_18 : decode cX0_start 18 = .ok (.putfield 20, 3) := by decide +kernel
theorem dX0_start_21 : decode cX0_start 21 = .ok (.return_, 1) := by decide +kernel
set_option maxRecDepth 100000 in
set_option maxHeartbeats 4000000 in
theorem wk_X0_start (E : g_E) (b : Nat) (t : Nat) (b_1 : Int32) (b_2 : Int32) (b_3 : Int32) (f : Int32) (t2 : Int32)  : Ev E MX0_start 0 0 0 0 [.ref b, .int f, .int t2] [(b, .inr (0, [.ref t, .int b_1, .int b_2, .int b_3]))] (fun v_ w_ => ∃ zb_1 : Int32, ∃ zb_2 : Int32, ∃ zb_3 : Int32, v_ = none ∧ w_ = [(b, .inr (0, [.ref t, .int zb_1, .int zb_2, .int zb_3]))]) := by
  refine Ev.intro (by decide) (Nat.le_of_ble_eq_true rfl) ?_
  intro X B hr hI
  have B : Bd E X cX0_start RX0 3 0 0 0 0 := B
  have hr : Rt E X none 0 0 (fun v_ w_ => ∃ zb_1 : Int32, ∃ zb_2 : Int32, ∃ zb_3 : Int32, v_ = none ∧ w_ = [(b, .inr (0, [.ref t, .int zb_1, .int zb_2, .int zb_3]))]) := hr
  show G E X 3 [(b, .inr (0, [.ref t, .int b_1, .int b_2, .int b_3]))] 0 0 [(0, .ref b), (1, .int f), (2, .int t2)] 0 []
  refine g_aload_n B dX0_start_0 rfl 0 rfl ?_
  refine g_iload_n B dX0_start_1 rfl 1 rfl ?_
  refine g_bipush (v := 8) B dX0_start_2 (by decide) ?_
  refine g_imul B dX0_start_4 ?_
  refine g_put (ws' := [(b, .inr (0, [.ref t, .int (f * 8), .int b_2, .int b_3]))]) B 0 1 fl_X0_13 pf_X0_1 rfl (Nat.le_of_ble_eq_true rfl) rfl rfl rfl dX0_start_5 ?_
  refine g_aload_n B dX0_start_8 rfl 0 rfl ?_
  refine g_iload_n B dX0_start_9 rfl 2 rfl ?_
  refine g_bipush (v := 8) B dX0_start_10 (by decide) ?_
  refine g_imul B dX0_start_12 ?_
  refine g_put (ws' := [(b, .inr (0, [.ref t, .int (f * 8), .int (t2 * 8), .int b_3]))]) B 0 2 fl_X0_17 pf_X0_2 rfl (Nat.le_of_ble_eq_true rfl) rfl rfl rfl dX0_start_13 ?_
  refine g_aload_n B dX0_start_16 rfl 0 rfl ?_
  refine g_iconst (v := 0) B dX0_start_17 (by decide) ?_
  refine g_put (ws' := [(b, .inr (0, [.ref t, .int (f * 8), .int (t2 * 8), .int 0]))]) B 0 3 fl_X0_20 pf_X0_3 rfl (Nat.le_of_ble_eq_true rfl) (by decide) rfl rfl dX0_start_18 ?_
  exact g_vret B hr dX0_start_21 (by decide) (by decide) ⟨(f * 8), (t2 * 8), 0, rfl, rfl⟩
abbrev MX0_readBits : g_M := (yX0_readBits, cX0_readBits, 7, (some .long))
theorem dX0_readBits_0 : decode cX0_readBits 0 = .ok (.lconst 0, 1) := by decide +kernel
theorem dX0_readBits_1 : decode cX0_readBits 1 = .ok (.lstore_n 2, 1) := by decide +kernel
theorem dX0_readBits_2 : decode cX0_readBits 2 = .ok (.iconst 0, 1) := by decide +kernel
theorem dX0_readBits_3 : decode cX0_readBits 3 = .ok (.istore 4, 2) := by decide +kernel
theorem dX0_readBits_5 : decode cX0_readBits 5 = .ok (.iload 4, 2) := by decide +kernel
theorem dX0_readBits_7 : decode cX0_readBits 7 = .ok (.iload_n 1, 1) := by decide +kernel
theorem dX0_readBits_8 : decode cX0_readBits 8 = .ok (.if_icmp .ge 100, 3) := by decide +kernel
theorem dX0_readBits_11 : decode cX0_readBits 11 = .ok (.iconst 0, 1) := by decide +kernel
theorem dX0_readBits_12 : decode cX0_readBits 12 = .ok (.istore 5, 2) := by decide +kernel
theorem dX0_readBits_14 : decode cX0_readBits 14 = .ok (.aload_n 0, 1) := by decide +kernel
theorem dX0_readBits_15 : decode cX0_readBits 15 = .ok (.getfield 13, 3) := by decide +kernel
theorem dX0_readBits_18 : decode cX0_readBits 18 = .ok (.iconst 3, 1) := by decide +kernel
theorem dX0_readBits_19 : decode cX0_readBits 19 = .ok (.ishr, 1) := by decide +kernel
theorem dX0_readBits_20 : decode cX0_readBits 20 = .ok (.istore 6, 2) := by decide +kernel
theorem dX0_readBits_22 : decode cX0_readBits 22 = .ok (.aload_n 0, 1) := by decide +kernel
theorem dX0_readBits_23 : decode cX0_readBits 23 = .ok (.getfield 13, 3) := by decide +kernel
theorem dX0_readBits_26 : decode cX0_readBits 26 = .ok (.aload_n 0, 1) := by decide +kernel
theorem dX0_readBits_27 : decode cX0_readBits 27 = .ok (.getfield 17, 3) := by decide +kernel
theorem dX0_readBits_30 : decode cX0_readBits 30 = .ok (.if_icmp .ge 59, 3) := by decide +kernel
theorem dX0_readBits_89 : decode cX0_readBits 89 = .ok (.aload_n 0, 1) := by decide +kernel
theorem dX0_readBits_90 : decode cX0_readBits 90 = .ok (.iconst 1, 1) := by decide +kernel
theorem dX0_readBits_91 : decode cX0_readBits 91 = .ok (.putfield 20, 3) := by decide +kernel
theorem dX0_readBits_94 : decode cX0_readBits 94 = .ok (.lload_n 2, 1) := by decide +kernel
theorem dX0_readBits_95 : decode cX0_readBits 95 = .ok (.iconst 1, 1) := by decide +kernel
theorem dX0_readBits_96 : decode cX0_readBits 96 = .ok (.lshl, 1) := by decide +kernel
theorem dX0_readBits_97 : decode cX0_readBits 97 = .ok (.iload 5, 2) := by decide +kernel
theorem dX0_readBits_99 : decode cX0_readBits 99 = .ok (.i2l, 1) := by decide +kernel
theorem dX0_readBits_100 : decode cX0_readBits 100 = .ok (.lor, 1) := by decide +kernel
theorem dX0_readBits_101 : decode cX0_readBits 101 = .ok (.lstore_n 2, 1) := by decide +kernel
theorem dX0_readBits_102 : decode cX0_readBits 102 = .ok (.iinc 4 1, 3) := by decide +kernel
theorem dX0_readBits_105 : decode cX0_readBits 105 = .ok (.goto (-100), 3) := by decide +kernel
theorem dX0_readBits_33 : decode cX0_readBits 33 = .ok (.iload 6, 2) := by decide +kernel
theorem dX0_readBits_35 : decode cX0_readBits 35 = .ok (.ifCond .lt 54, 3) := by decide +kernel
theorem dX0_readBits_38 : decode cX0_readBits 38 = .ok (.iload 6, 2) := by decide +kernel
theorem dX0_readBits_40 : decode cX0_readBits 40 = .ok (.aload_n 0, 1) := by decide +kernel
theorem dX0_readBits_41 : decode cX0_readBits 41 = .ok (.getfield 7, 3) := by decide +kernel
theorem dX0_readBits_44 : decode cX0_readBits 44 = .ok (.getfield 24, 3) := by decide +kernel
theorem w_fl_X0_24 : Cond.fieldLink RX0 24 (TX2 0).1 (TX2 0).2.1 (TX2 0).2.2.1 ∈ g_tbl := g_tbl_in 128 (by decide +kernel) (by decide +kernel)
theorem fl_X0_24 : FL RX0 24 2 0 := ⟨RX2, TX2, 2, rfl, by decide, inX_X2, w_fl_X0_24⟩
theorem dX0_readBits_47 : decode cX0_readBits 47 = .ok (.arraylength, 1) := by decide +kernel
theorem dX0_readBits_48 : decode cX0_readBits 48 = .ok (.if_icmp .ge 41, 3) := by decide +kernel
theorem dX0_readBits_51 : decode cX0_readBits 51 = .ok (.aload_n 0, 1) := by decide +kernel
theorem dX0_readBits_52 : decode cX0_readBits 52 = .ok (.getfield 7, 3) := by decide +kernel
theorem dX0_readBits_55 : decode cX0_readBits 55 = .ok (.getfield 24, 3) := by decide +kernel
theorem dX0_readBits_58 : decode cX0_readBits 58 = .ok (.iload 6, 2) := by decide +kernel
theorem dX0_readBits_60 : decode cX0_readBits 60 = .ok (.baload, 1) := by decide +kernel
theorem dX0_readBits_61 : decode cX0_readBits 61 = .ok (.bipush 7, 2) := by decide +kernel
theorem dX0_readBits_63 : decode cX0_readBits 63 = .ok (.aload_n 0, 1) := by decide +kernel
theorem dX0_readBits_64 : decode cX0_readBits 64 = .ok (.getfield 13, 3) := by decide +kernel
theorem dX0_readBits_67 : decode cX0_readBits 67 = .ok (.bipush 7, 2) := by decide +kernel
theorem dX0_readBits_69 : decode cX0_readBits 69 = .ok (.iand, 1) := by decide +kernel
theorem dX0_readBits_70 : decode cX0_readBits 70 = .ok (.isub, 1) := by decide +kernel
theorem dX0_readBits_71 : decode cX0_readBits 71 = .ok (.ishr, 1) := by decide +kernel
theorem dX0_readBits_72 : decode cX0_readBits 72 = .ok (.iconst 1, 1) := by decide +kernel
theorem dX0_readBits_73 : decode cX0_readBits 73 = .ok (.iand, 1) := by decide +kernel
theorem dX0_readBits_74 : decode cX0_readBits 74 = .ok (.istore 5, 2) := by decide +kernel
theorem dX0_readBits_76 : decode cX0_readBits 76 = .ok (.aload_n 0, 1) := by decide +kernel
theorem dX0_readBits_77 : decode cX0_readBits 77 = .ok (.dup, 1) := by decide +kernel
theorem dX0_readBits_78 : decode cX0_readBits 78 = .ok (.getfield 13, 3) := by decide +kernel
theorem dX0_readBits_81 : decode cX0_readBits 81 = .ok (.iconst 1, 1) := by decide +kernel
theorem dX0_readBits_82 : decode cX0_readBits 82 = .ok (.iadd, 1) := by decide +kernel
theorem dX0_readBits_83 : decode cX0_readBits 83 = .ok (.putfield 13, 3) := by decide +kernel
theorem dX0_readBits_86 : decode cX0_readBits 86 = .ok (.goto 8, 3) := by decide +kernel
set_option maxRecDepth 100000 in
set_option maxHeartbeats 4000000 in
theorem lp_wk_X0_readBits_5 (E : g_E) (b : Nat) (t : Nat) (a : Nat) (N : Nat) (hN : N < 2147483648) {X : g_X} (B : Bd E X cX0_readBits RX0 7 0 0 0 0) (hr : Rt E X (some .long) 0 0 (fun v_ w_ => ∃ zb_1 : Int32, ∃ zb_2 : Int32, ∃ zb_3 : Int32, ∃ zt_1 : Int32, ∃ za_f : Nat → Int32, ∃ zr : Int64, v_ = some (.long zr) ∧ w_ = [(b, .inr (0, [.ref t, .int zb_1, .int zb_2, .int zb_3])), (t, .inr (2, [.ref a, .int zt_1])), (a, .inl (E.2.2.1 1, N, .inl (nb za_f)))])) (K : ∀ (b_1 : Int32) (b_2 : Int32) (b_3 : Int32) (t_1 : Int32) (a_f : Nat → Int32) (l1 : Int32) (l2 : Int64) (l4 : Int32), G E X 7 [(b, .inr (0, [.ref t, .int b_1, .int b_2, .int b_3])), (t, .inr (2, [.ref a, .int t_1])), (a, .inl (E.2.2.1 1, N, .inl (nb a_f)))] 0 0 [(0, .ref b), (1, .int l1), (2, .long l2), (4, .int l4)] 108 []) : ∀ (n : Nat) (b_1 : Int32) (b_2 : Int32) (b_3 : Int32) (t_1 : Int32) (a_f : Nat → Int32) (l1 : Int32) (l2 : Int64) (l4 : Int32), (Int32.toInt l1 - Int32.toInt l4).toNat < n → G E X 7 [(b, .inr (0, [.ref t, .int b_1, .int b_2, .int b_3])), (t, .inr (2, [.ref a, .int t_1])), (a, .inl (E.2.2.1 1, N, .inl (nb a_f)))] 0 0 [(0, .ref b), (1, .int l1), (2, .long l2), (4, .int l4)] 5 [] := by
  intro n
  induction n with
  | zero => intro b_1 b_2 b_3 t_1 a_f l1 l2 l4 h; exact absurd h (Nat.not_lt_zero _)
  | succ n ih =>
    intro b_1 b_2 b_3 t_1 a_f l1 l2 l4 hm
    refine g_iload B dX0_readBits_5 3 rfl ?_
    refine g_iload_n B dX0_readBits_7 rfl 1 rfl ?_
    refine g_icmp_ge (tgt := 108) B dX0_readBits_8 (by decide) (fun c8_186 => ?_) (fun c8_186 => ?_)
    · exact K b_1 b_2 b_3 t_1 a_f l1 l2 l4
    · refine g_iconst (v := 0) B dX0_readBits_11 (by decide) ?_
      refine g_istore (lv' := [(5, .int 0), (0, .ref b), (1, .int l1), (2, .long l2), (4, .int l4)]) B dX0_readBits_12 (by decide) rfl ?_
      refine g_aload_n B dX0_readBits_14 rfl 1 rfl ?_
      refine g_get B 0 1 fl_X0_13 rfl rfl dX0_readBits_15 ?_
      refine g_iconst (v := 3) B dX0_readBits_18 (by decide) ?_
      refine g_ishr B dX0_readBits_19 ?_
      refine g_istore (lv' := [(6, .int (b_1 >>> (3 &&& 31))), (5, .int 0), (0, .ref b), (1, .int l1), (2, .long l2), (4, .int l4)]) B dX0_readBits_20 (by decide) rfl ?_
      refine g_aload_n B dX0_readBits_22 rfl 2 rfl ?_
      refine g_get B 0 1 fl_X0_13 rfl rfl dX0_readBits_23 ?_
      refine g_aload_n B dX0_readBits_26 rfl 2 rfl ?_
      refine g_get B 0 2 fl_X0_17 rfl rfl dX0_readBits_27 ?_
      refine g_icmp_ge (tgt := 89) B dX0_readBits_30 (by decide) (fun c30_187 => ?_) (fun c30_187 => ?_)
      · refine g_aload_n B dX0_readBits_89 rfl 2 rfl ?_
        refine g_iconst (v := 1) B dX0_readBits_90 (by decide) ?_
        refine g_put (ws' := [(b, .inr (0, [.ref t, .int b_1, .int b_2, .int 1])), (t, .inr (2, [.ref a, .int t_1])), (a, .inl (E.2.2.1 1, N, .inl (nb a_f)))]) B 0 3 fl_X0_20 pf_X0_3 rfl (Nat.le_of_ble_eq_true rfl) (by decide) rfl rfl dX0_readBits_91 ?_
        refine g_lload_n B dX0_readBits_94 rfl 4 rfl ?_
        refine g_iconst (v := 1) B dX0_readBits_95 (by decide) ?_
        refine g_lshl B dX0_readBits_96 ?_
        refine g_iload B dX0_readBits_97 1 rfl ?_
        refine g_i2l B dX0_readBits_99 ?_
        refine g_rl (x' := 0) (by decide) ?_
        refine g_lor B dX0_readBits_100 ?_
        refine g_lstore_n (lv' := [(2, .long ((l2 <<< (Int32.toInt64 1 &&& 63)) ||| 0)), (6, .int (b_1 >>> (3 &&& 31))), (5, .int 0), (0, .ref b), (1, .int l1), (4, .int l4)]) B dX0_readBits_101 rfl (by decide) rfl ?_
        refine g_iinc (v := (l4 + 1)) (lv' := [(4, .int (l4 + 1)), (2, .long ((l2 <<< (Int32.toInt64 1 &&& 63)) ||| 0)), (6, .int (b_1 >>> (3 &&& 31))), (5, .int 0), (0, .ref b), (1, .int l1)]) B dX0_readBits_102 5 rfl rfl (by decide) rfl ?_
        refine g_goto (tgt := 5) B dX0_readBits_105 (by decide) ?_
        refine g_lvsub (lv' := [(0, .ref b), (1, .int l1), (2, .long ((l2 <<< (Int32.toInt64 1 &&& 63)) ||| 0)), (4, .int (l4 + 1))]) [4, 5, 1, 0] rfl ?_
        exact ih b_1 b_2 1 t_1 a_f l1 ((l2 <<< (Int32.toInt64 1 &&& 63)) ||| 0) (l4 + 1)  (Nat.lt_of_lt_of_le (st_up (o_2 c8_186)) (Nat.le_of_lt_succ hm))
      · refine g_iload B dX0_readBits_33 0 rfl ?_
        refine g_if_lt (tgt := 89) B dX0_readBits_35 (by decide) (fun c35_188 => ?_) (fun c35_188 => ?_)
        · refine g_aload_n B dX0_readBits_89 rfl 2 rfl ?_
          refine g_iconst (v := 1) B dX0_readBits_90 (by decide) ?_
          refine g_put (ws' := [(b, .inr (0, [.ref t, .int b_1, .int b_2, .int 1])), (t, .inr (2, [.ref a, .int t_1])), (a, .inl (E.2.2.1 1, N, .inl (nb a_f)))]) B 0 3 fl_X0_20 pf_X0_3 rfl (Nat.le_of_ble_eq_true rfl) (by decide) rfl rfl dX0_readBits_91 ?_
          refine g_lload_n B dX0_readBits_94 rfl 4 rfl ?_
          refine g_iconst (v := 1) B dX0_readBits_95 (by decide) ?_
          refine g_lshl B dX0_readBits_96 ?_
          refine g_iload B dX0_readBits_97 1 rfl ?_
          refine g_i2l B dX0_readBits_99 ?_
          refine g_rl (x' := 0) (by decide) ?_
          refine g_lor B dX0_readBits_100 ?_
          refine g_lstore_n (lv' := [(2, .long ((l2 <<< (Int32.toInt64 1 &&& 63)) ||| 0)), (6, .int (b_1 >>> (3 &&& 31))), (5, .int 0), (0, .ref b), (1, .int l1), (4, .int l4)]) B dX0_readBits_101 rfl (by decide) rfl ?_
          refine g_iinc (v := (l4 + 1)) (lv' := [(4, .int (l4 + 1)), (2, .long ((l2 <<< (Int32.toInt64 1 &&& 63)) ||| 0)), (6, .int (b_1 >>> (3 &&& 31))), (5, .int 0), (0, .ref b), (1, .int l1)]) B dX0_readBits_102 5 rfl rfl (by decide) rfl ?_
          refine g_goto (tgt := 5) B dX0_readBits_105 (by decide) ?_
          refine g_lvsub (lv' := [(0, .ref b), (1, .int l1), (2, .long ((l2 <<< (Int32.toInt64 1 &&& 63)) ||| 0)), (4, .int (l4 + 1))]) [4, 5, 1, 0] rfl ?_
          exact ih b_1 b_2 1 t_1 a_f l1 ((l2 <<< (Int32.toInt64 1 &&& 63)) ||| 0) (l4 + 1)  (Nat.lt_of_lt_of_le (st_up (o_2 c8_186)) (Nat.le_of_lt_succ hm))
        · refine g_iload B dX0_readBits_38 0 rfl ?_
          refine g_aload_n B dX0_readBits_40 rfl 2 rfl ?_
          refine g_get B 0 0 fl_X0_7 rfl rfl dX0_readBits_41 ?_
          refine g_get B 1 0 fl_X0_24 rfl rfl dX0_readBits_44 ?_
          refine g_alen (v := nI N) B 2 (by decide) rfl rfl dX0_readBits_47 ?_
          refine g_icmp_ge (tgt := 89) B dX0_readBits_48 (by decide) (fun c48_189 => ?_) (fun c48_189 => ?_)
          · refine g_aload_n B dX0_readBits_89 rfl 2 rfl ?_
            refine g_iconst (v := 1) B dX0_readBits_90 (by decide) ?_
            refine g_put (ws' := [(b, .inr (0, [.ref t, .int b_1, .int b_2, .int 1])), (t, .inr (2, [.ref a, .int t_1])), (a, .inl (E.2.2.1 1, N, .inl (nb a_f)))]) B 0 3 fl_X0_20 pf_X0_3 rfl (Nat.le_of_ble_eq_true rfl) (by decide) rfl rfl dX0_readBits_91 ?_
            refine g_lload_n B dX0_readBits_94 rfl 4 rfl ?_
            refine g_iconst (v := 1) B dX0_readBits_95 (by decide) ?_
            refine g_lshl B dX0_readBits_96 ?_
            refine g_iload B dX0_readBits_97 1 rfl ?_
            refine g_i2l B dX0_readBits_99 ?_
            refine g_rl (x' := 0) (by decide) ?_
            refine g_lor B dX0_readBits_100 ?_
            refine g_lstore_n (lv' := [(2, .long ((l2 <<< (Int32.toInt64 1 &&& 63)) ||| 0)), (6, .int (b_1 >>> (3 &&& 31))), (5, .int 0), (0, .ref b), (1, .int l1), (4, .int l4)]) B dX0_readBits_101 rfl (by decide) rfl ?_
            refine g_iinc (v := (l4 + 1)) (lv' := [(4, .int (l4 + 1)), (2, .long ((l2 <<< (Int32.toInt64 1 &&& 63)) ||| 0)), (6, .int (b_1 >>> (3 &&& 31))), (5, .int 0), (0, .ref b), (1, .int l1)]) B dX0_readBits_102 5 rfl rfl (by decide) rfl ?_
            refine g_goto (tgt := 5) B dX0_readBits_105 (by decide) ?_
            refine g_lvsub (lv' := [(0, .ref b), (1, .int l1), (2, .long ((l2 <<< (Int32.toInt64 1 &&& 63)) ||| 0)), (4, .int (l4 + 1))]) [4, 5, 1, 0] rfl ?_
            exact ih b_1 b_2 1 t_1 a_f l1 ((l2 <<< (Int32.toInt64 1 &&& 63)) ||| 0) (l4 + 1)  (Nat.lt_of_lt_of_le (st_up (o_2 c8_186)) (Nat.le_of_lt_succ hm))
          · refine g_aload_n B dX0_readBits_51 rfl 2 rfl ?_
            refine g_get B 0 0 fl_X0_7 rfl rfl dX0_readBits_52 ?_
            refine g_get B 1 0 fl_X0_24 rfl rfl dX0_readBits_55 ?_
            refine g_iload B dX0_readBits_58 0 rfl ?_
            refine g_bald B 2 rfl (in_lt hN c35_188 (o_2 c48_189)) dX0_readBits_60 ?_
            refine g_bipush (v := 7) B dX0_readBits_61 (by decide) ?_
            refine g_aload_n B dX0_readBits_63 rfl 2 rfl ?_
            refine g_get B 0 1 fl_X0_13 rfl rfl dX0_readBits_64 ?_
            refine g_bipush (v := 7) B dX0_readBits_67 (by decide) ?_
            refine g_iand B dX0_readBits_69 ?_
            refine g_isub B dX0_readBits_70 ?_
            refine g_ishr B dX0_readBits_71 ?_
            refine g_iconst (v := 1) B dX0_readBits_72 (by decide) ?_
            refine g_iand B dX0_readBits_73 ?_
            refine g_istore (lv' := [(5, .int ((((nb a_f) (Int32.toNatClampNeg (b_1 >>> (3 &&& 31)))) >>> ((7 - (b_1 &&& 7)) &&& 31)) &&& 1)), (6, .int (b_1 >>> (3 &&& 31))), (0, .ref b), (1, .int l1), (2, .long l2), (4, .int l4)]) B dX0_readBits_74 (by decide) rfl ?_
            refine g_aload_n B dX0_readBits_76 rfl 2 rfl ?_
            refine g_dup B dX0_readBits_77 rfl ?_
            refine g_get B 0 1 fl_X0_13 rfl rfl dX0_readBits_78 ?_
            refine g_iconst (v := 1) B dX0_readBits_81 (by decide) ?_
            refine g_iadd B dX0_readBits_82 ?_
            refine g_put (ws' := [(b, .inr (0, [.ref t, .int (b_1 + 1), .int b_2, .int b_3])), (t, .inr (2, [.ref a, .int t_1])), (a, .inl (E.2.2.1 1, N, .inl (nb a_f)))]) B 0 1 fl_X0_13 pf_X0_1 rfl (Nat.le_of_ble_eq_true rfl) rfl rfl rfl dX0_readBits_83 ?_
            refine g_goto (tgt := 94) B dX0_readBits_86 (by decide) ?_
            refine g_lload_n B dX0_readBits_94 rfl 4 rfl ?_
            refine g_iconst (v := 1) B dX0_readBits_95 (by decide) ?_
            refine g_lshl B dX0_readBits_96 ?_
            refine g_iload B dX0_readBits_97 0 rfl ?_
            refine g_i2l B dX0_readBits_99 ?_
            refine g_lor B dX0_readBits_100 ?_
            refine g_lstore_n (lv' := [(2, .long ((l2 <<< (Int32.toInt64 1 &&& 63)) ||| (Int32.toInt64 ((((nb a_f) (Int32.toNatClampNeg (b_1 >>> (3 &&& 31)))) >>> ((7 - (b_1 &&& 7)) &&& 31)) &&& 1)))), (5, .int ((((nb a_f) (Int32.toNatClampNeg (b_1 >>> (3 &&& 31)))) >>> ((7 - (b_1 &&& 7)) &&& 31)) &&& 1)), (6, .int (b_1 >>> (3 &&& 31))), (0, .ref b), (1, .int l1), (4, .int l4)]) B dX0_readBits_101 rfl (by decide) rfl ?_
            refine g_iinc (v := (l4 + 1)) (lv' := [(4, .int (l4 + 1)), (2, .long ((l2 <<< (Int32.toInt64 1 &&& 63)) ||| (Int32.toInt64 ((((nb a_f) (Int32.toNatClampNeg (b_1 >>> (3 &&& 31)))) >>> ((7 - (b_1 &&& 7)) &&& 31)) &&& 1)))), (5, .int ((((nb a_f) (Int32.toNatClampNeg (b_1 >>> (3 &&& 31)))) >>> ((7 - (b_1 &&& 7)) &&& 31)) &&& 1)), (6, .int (b_1 >>> (3 &&& 31))), (0, .ref b), (1, .int l1)]) B dX0_readBits_102 5 rfl rfl (by decide) rfl ?_
            refine g_goto (tgt := 5) B dX0_readBits_105 (by decide) ?_
            refine g_lvsub (lv' := [(0, .ref b), (1, .int l1), (2, .long ((l2 <<< (Int32.toInt64 1 &&& 63)) ||| (Int32.toInt64 ((((nb a_f) (Int32.toNatClampNeg (b_1 >>> (3 &&& 31)))) >>> ((7 - (b_1 &&& 7)) &&& 31)) &&& 1)))), (4, .int (l4 + 1))]) [4, 5, 1, 0] rfl ?_
            exact ih (b_1 + 1) b_2 b_3 t_1 a_f l1 ((l2 <<< (Int32.toInt64 1 &&& 63)) ||| (Int32.toInt64 ((((nb a_f) (Int32.toNatClampNeg (b_1 >>> (3 &&& 31)))) >>> ((7 - (b_1 &&& 7)) &&& 31)) &&& 1))) (l4 + 1)  (Nat.lt_of_lt_of_le (st_up (o_2 c8_186)) (Nat.le_of_lt_succ hm))
theorem dX0_readBits_108 : decode cX0_readBits 108 = .ok (.lload_n 2, 1) := by decide +kernel
theorem dX0_readBits_109 : decode cX0_readBits 109 = .ok (.lreturn, 1) := by decide +kernel
set_option maxRecDepth 100000 in
set_option maxHeartbeats 4000000 in
theorem wk_X0_readBits (E : g_E) (b : Nat) (t : Nat) (a : Nat) (N : Nat) (b_1 : Int32) (b_2 : Int32) (b_3 : Int32) (t_1 : Int32) (a_f : Nat → Int32) (n : Int32) (hN : N < 2147483648) : Ev E MX0_readBits 0 0 0 0 [.ref b, .int n] [(b, .inr (0, [.ref t, .int b_1, .int b_2, .int b_3])), (t, .inr (2, [.ref a, .int t_1])), (a, .inl (E.2.2.1 1, N, .inl (nb a_f)))] (fun v_ w_ => ∃ zb_1 : Int32, ∃ zb_2 : Int32, ∃ zb_3 : Int32, ∃ zt_1 : Int32, ∃ za_f : Nat → Int32, ∃ zr : Int64, v_ = some (.long zr) ∧ w_ = [(b, .inr (0, [.ref t, .int zb_1, .int zb_2, .int zb_3])), (t, .inr (2, [.ref a, .int zt_1])), (a, .inl (E.2.2.1 1, N, .inl (nb za_f)))]) := by
  refine Ev.intro (by decide) (Nat.le_of_ble_eq_true rfl) ?_
  intro X B hr hI
  have B : Bd E X cX0_readBits RX0 7 0 0 0 0 := B
  have hr : Rt E X (some .long) 0 0 (fun v_ w_ => ∃ zb_1 : Int32, ∃ zb_2 : Int32, ∃ zb_3 : Int32, ∃ zt_1 : Int32, ∃ za_f : Nat → Int32, ∃ zr : Int64, v_ = some (.long zr) ∧ w_ = [(b, .inr (0, [.ref t, .int zb_1, .int zb_2, .int zb_3])), (t, .inr (2, [.ref a, .int zt_1])), (a, .inl (E.2.2.1 1, N, .inl (nb za_f)))]) := hr
  show G E X 7 [(b, .inr (0, [.ref t, .int b_1, .int b_2, .int b_3])), (t, .inr (2, [.ref a, .int t_1])), (a, .inl (E.2.2.1 1, N, .inl (nb a_f)))] 0 0 [(0, .ref b), (1, .int n)] 0 []
  refine g_lconst (v := 0) B dX0_readBits_0 (by decide) ?_
  refine g_lstore_n (lv' := [(2, .long 0), (0, .ref b), (1, .int n)]) B dX0_readBits_1 rfl (by decide) rfl ?_
  refine g_iconst (v := 0) B dX0_readBits_2 (by decide) ?_
  refine g_istore (lv' := [(4, .int 0), (2, .long 0), (0, .ref b), (1, .int n)]) B dX0_readBits_3 (by decide) rfl ?_
  refine g_lvsub (lv' := [(0, .ref b), (1, .int n), (2, .long 0), (4, .int 0)]) [2, 3, 1, 0] rfl ?_
  refine lp_wk_X0_readBits_5 E b t a N hN B hr (fun y_190b_1 y_190b_2 y_190b_3 y_190t_1 y_190a_f y_190l1 y_190l2 y_190l4 => ?_) _ b_1 b_2 b_3 t_1 a_f n 0 0  (Nat.lt_succ_self _)
  refine g_lload_n B dX0_readBits_108 rfl 2 rfl ?_
  exact g_lret B hr dX0_readBits_109 (by decide) (by decide) ⟨y_190b_1, y_190b_2, y_190b_3, y_190t_1, y_190a_f, y_190l2, rfl, rfl⟩
abbrev MX0_readOnes : g_M := (yX0_readOnes, cX0_readOnes, 2, (some .int))
theorem dX0_readOnes_0 : decode cX0_readOnes 0 = .ok (.iconst 0, 1) := by decide +kernel
theorem dX0_readOnes_1 : decode cX0_readOnes 1 = .ok (.istore_n 1, 1) := by decide +kernel
theorem dX0_readOnes_2 : decode cX0_readOnes 2 = .ok (.iload_n 1, 1) := by decide +kernel
theorem dX0_readOnes_3 : decode cX0_readOnes 3 = .ok (.bipush 16, 2) := by decide +kernel
theorem dX0_readOnes_5 : decode cX0_readOnes 5 = .ok (.if_icmp .ge 19, 3) := by decide +kernel
theorem dX0_readOnes_8 : decode cX0_readOnes 8 = .ok (.aload_n 0, 1) := by decide +kernel
theorem dX0_readOnes_9 : decode cX0_readOnes 9 = .ok (.iconst 1, 1) := by decide +kernel
theorem dX0_readOnes_10 : decode cX0_readOnes 10 = .ok (.invokevirtual 30, 3) := by decide +kernel
theorem w_ml_X0_30 : Cond.methodLink RX0 30 yX0_readBits ∈ g_tbl := g_tbl_in 784 (by decide +kernel) (by decide +kernel)
theorem w_cd_X0_readBits : g_cw MX0_readBits ∈ g_tbl := g_tbl_in 787 (by decide +kernel) (by decide +kernel)
theorem cl_X0_30 : CL RX0 30 1 MX0_readBits := ⟨w_ml_X0_30, w_cd_X0_readBits, w_ini_X0, by decide +kernel, by decide +kernel, by decide +kernel⟩
theorem w_im_X0_readBits : Cond.instanceMethod yX0_readBits ∈ g_tbl := g_tbl_in 785 (by decide +kernel) (by decide +kernel)
theorem w_se_X0_readBits : Cond.selects RX0 yX0_readBits yX0_readBits ∈ g_tbl := g_tbl_in 786 (by decide +kernel) (by decide +kernel)
theorem dX0_readOnes_13 : decode cX0_readOnes 13 = .ok (.lconst 1, 1) := by decide +kernel
theorem dX0_readOnes_14 : decode cX0_readOnes 14 = .ok (.lcmp, 1) := by decide +kernel
theorem dX0_readOnes_15 : decode cX0_readOnes 15 = .ok (.ifCond .ne 9, 3) := by decide +kernel
theorem dX0_readOnes_18 : decode cX0_readOnes 18 = .ok (.iinc 1 1, 3) := by decide +kernel
theorem dX0_readOnes_21 : decode cX0_readOnes 21 = .ok (.goto (-19), 3) := by decide +kernel
set_option maxRecDepth 100000 in
set_option maxHeartbeats 4000000 in
theorem lp_wk_X0_readOnes_2 (E : g_E) (b : Nat) (t : Nat) (a : Nat) (N : Nat) (hN : N < 2147483648) {X : g_X} (B : Bd E X cX0_readOnes RX0 2 1 26 0 0) (hr : Rt E X (some .int) 0 0 (fun v_ w_ => ∃ zb_1 : Int32, ∃ zb_2 : Int32, ∃ zb_3 : Int32, ∃ zt_1 : Int32, ∃ za_f : Nat → Int32, ∃ zr : Int32, v_ = some (.int zr) ∧ w_ = [(b, .inr (0, [.ref t, .int zb_1, .int zb_2, .int zb_3])), (t, .inr (2, [.ref a, .int zt_1])), (a, .inl (E.2.2.1 1, N, .inl (nb za_f)))])) (K : ∀ (b_1 : Int32) (b_2 : Int32) (b_3 : Int32) (t_1 : Int32) (a_f : Nat → Int32) (l1 : Int32), G E X 2 [(b, .inr (0, [.ref t, .int b_1, .int b_2, .int b_3])), (t, .inr (2, [.ref a, .int t_1])), (a, .inl (E.2.2.1 1, N, .inl (nb a_f)))] 0 0 [(0, .ref b), (1, .int l1)] 24 []) : ∀ (n : Nat) (b_1 : Int32) (b_2 : Int32) (b_3 : Int32) (t_1 : Int32) (a_f : Nat → Int32) (l1 : Int32), (Int32.toInt 16 - Int32.toInt l1).toNat < n → G E X 2 [(b, .inr (0, [.ref t, .int b_1, .int b_2, .int b_3])), (t, .inr (2, [.ref a, .int t_1])), (a, .inl (E.2.2.1 1, N, .inl (nb a_f)))] 0 0 [(0, .ref b), (1, .int l1)] 2 [] := by
  intro n
  induction n with
  | zero => intro b_1 b_2 b_3 t_1 a_f l1 h; exact absurd h (Nat.not_lt_zero _)
  | succ n ih =>
    intro b_1 b_2 b_3 t_1 a_f l1 hm
    refine g_iload_n B dX0_readOnes_2 rfl 1 rfl ?_
    refine g_bipush (v := 16) B dX0_readOnes_3 (by decide) ?_
    refine g_icmp_ge (tgt := 24) B dX0_readOnes_5 (by decide) (fun c5_191 => ?_) (fun c5_191 => ?_)
    · exact K b_1 b_2 b_3 t_1 a_f l1
    · refine g_aload_n B dX0_readOnes_8 rfl 0 rfl ?_
      refine g_iconst (v := 1) B dX0_readOnes_9 (by decide) ?_
      refine g_callV (st := []) (As := [.int 1]) (wr := []) (nc' := 0) (ns' := 0) B cl_X0_30 w_im_X0_readBits w_se_X0_readBits (wk_X0_readBits E b t a N b_1 b_2 b_3 t_1 a_f 1 (by first | assumption | omega | decide)) rfl [0, 1, 2] [] rfl rfl (by decide) (by decide) (by decide) 0 rfl (fun q h => by cases h; rfl) rfl ⟨by decide, by decide⟩ rfl rfl (by decide) (by decide) rfl (Nat.le_of_ble_eq_true rfl) dX0_readOnes_10 (fun v w hq => ?_)
      obtain ⟨zb_1_192, zb_2_193, zb_3_194, zt_1_195, za_f_196, zr_197, rfl, rfl⟩ := hq
      show G E X 2 [(b, .inr (0, [.ref t, .int zb_1_192, .int zb_2_193, .int zb_3_194])), (t, .inr (2, [.ref a, .int zt_1_195])), (a, .inl (E.2.2.1 1, N, .inl (nb za_f_196)))] 0 0 [(0, .ref b), (1, .int l1)] 13 [.long zr_197]
      refine g_lconst (v := 1) B dX0_readOnes_13 (by decide) ?_
      refine g_lcmp B dX0_readOnes_14 ?_
      refine g_if_ne (tgt := 24) B dX0_readOnes_15 (by decide) (fun c15_198 => ?_) (fun c15_198 => ?_)
      · exact K zb_1_192 zb_2_193 zb_3_194 zt_1_195 za_f_196 l1
      · refine g_iinc (v := (l1 + 1)) (lv' := [(1, .int (l1 + 1)), (0, .ref b)]) B dX0_readOnes_18 1 rfl rfl (by decide) rfl ?_
        refine g_goto (tgt := 2) B dX0_readOnes_21 (by decide) ?_
        refine g_lvsub (lv' := [(0, .ref b), (1, .int (l1 + 1))]) [1, 0] rfl ?_
        exact ih zb_1_192 zb_2_193 zb_3_194 zt_1_195 za_f_196 (l1 + 1)  (Nat.lt_of_lt_of_le (st_up (o_2 c5_191)) (Nat.le_of_lt_succ hm))
theorem dX0_readOnes_24 : decode cX0_readOnes 24 = .ok (.iload_n 1, 1) := by decide +kernel
theorem dX0_readOnes_25 : decode cX0_readOnes 25 = .ok (.ireturn, 1) := by decide +kernel
set_option maxRecDepth 100000 in
set_option maxHeartbeats 4000000 in
theorem wk_X0_readOnes (E : g_E) (b : Nat) (t : Nat) (a : Nat) (N : Nat) (b_1 : Int32) (b_2 : Int32) (b_3 : Int32) (t_1 : Int32) (a_f : Nat → Int32) (hN : N < 2147483648) : Ev E MX0_readOnes 1 26 0 0 [.ref b] [(b, .inr (0, [.ref t, .int b_1, .int b_2, .int b_3])), (t, .inr (2, [.ref a, .int t_1])), (a, .inl (E.2.2.1 1, N, .inl (nb a_f)))] (fun v_ w_ => ∃ zb_1 : Int32, ∃ zb_2 : Int32, ∃ zb_3 : Int32, ∃ zt_1 : Int32, ∃ za_f : Nat → Int32, ∃ zr : Int32, v_ = some (.int zr) ∧ w_ = [(b, .inr (0, [.ref t, .int zb_1, .int zb_2, .int zb_3])), (t, .inr (2, [.ref a, .int zt_1])), (a, .inl (E.2.2.1 1, N, .inl (nb za_f)))]) := by
  refine Ev.intro (by decide) (Nat.le_of_ble_eq_true rfl) ?_
  intro X B hr hI
  have B : Bd E X cX0_readOnes RX0 2 1 26 0 0 := B
  have hr : Rt E X (some .int) 0 0 (fun v_ w_ => ∃ zb_1 : Int32, ∃ zb_2 : Int32, ∃ zb_3 : Int32, ∃ zt_1 : Int32, ∃ za_f : Nat → Int32, ∃ zr : Int32, v_ = some (.int zr) ∧ w_ = [(b, .inr (0, [.ref t, .int zb_1, .int zb_2, .int zb_3])), (t, .inr (2, [.ref a, .int zt_1])), (a, .inl (E.2.2.1 1, N, .inl (nb za_f)))]) := hr
  show G E X 2 [(b, .inr (0, [.ref t, .int b_1, .int b_2, .int b_3])), (t, .inr (2, [.ref a, .int t_1])), (a, .inl (E.2.2.1 1, N, .inl (nb a_f)))] 0 0 [(0, .ref b)] 0 []
  refine g_iconst (v := 0) B dX0_readOnes_0 (by decide) ?_
  refine g_istore_n (lv' := [(1, .int 0), (0, .ref b)]) B dX0_readOnes_1 rfl (by decide) rfl ?_
  refine g_lvsub (lv' := [(0, .ref b), (1, .int 0)]) [1, 0] rfl ?_
  refine lp_wk_X0_readOnes_2 E b t a N hN B hr (fun y_199b_1 y_199b_2 y_199b_3 y_199t_1 y_199a_f y_199l1 => ?_) _ b_1 b_2 b_3 t_1 a_f 0  (Nat.lt_succ_self _)
  refine g_iload_n B dX0_readOnes_24 rfl 1 rfl ?_
  exact g_iret B hr dX0_readOnes_25 (by decide) (by decide) ⟨y_199b_1, y_199b_2, y_199b_3, y_199t_1, y_199a_f, y_199l1, rfl, rfl⟩
abbrev MX0_readG : g_M := (yX0_readG, cX0_readG, 2, (some .long))
theorem dX0_readG_0 : decode cX0_readG 0 = .ok (.aload_n 0, 1) := by decide +kernel
theorem dX0_readG_1 : decode cX0_readG 1 = .ok (.iconst 5, 1) := by decide +kernel
theorem dX0_readG_2 : decode cX0_readG 2 = .ok (.invokevirtual 30, 3) := by decide +kernel
theorem dX0_readG_5 : decode cX0_readG 5 = .ok (.l2i, 1) := by decide +kernel
theorem dX0_readG_6 : decode cX0_readG 6 = .ok (.istore_n 1, 1) := by decide +kernel
theorem dX0_readG_7 : decode cX0_readG 7 = .ok (.lconst 1, 1) := by decide +kernel
theorem dX0_readG_8 : decode cX0_readG 8 = .ok (.iload_n 1, 1) := by decide +kernel
theorem dX0_readG_9 : decode cX0_readG 9 = .ok (.lshl, 1) := by decide +kernel
theorem dX0_readG_10 : decode cX0_readG 10 = .ok (.aload_n 0, 1) := by decide +kernel
theorem dX0_readG_11 : decode cX0_readG 11 = .ok (.iload_n 1, 1) := by decide +kernel
theorem dX0_readG_12 : decode cX0_readG 12 = .ok (.invokevirtual 30, 3) := by decide +kernel
theorem dX0_readG_15 : decode cX0_readG 15 = .ok (.lor, 1) := by decide +kernel
theorem dX0_readG_16 : decode cX0_readG 16 = .ok (.lreturn, 1) := by decide +kernel
set_option maxRecDepth 100000 in
set_option maxHeartbeats 4000000 in
theorem wk_X0_readG (E : g_E) (b : Nat) (t : Nat) (a : Nat) (N : Nat) (b_1 : Int32) (b_2 : Int32) (b_3 : Int32) (t_1 : Int32) (a_f : Nat → Int32) (hN : N < 2147483648) : Ev E MX0_readG 1 26 0 0 [.ref b] [(b, .inr (0, [.ref t, .int b_1, .int b_2, .int b_3])), (t, .inr (2, [.ref a, .int t_1])), (a, .inl (E.2.2.1 1, N, .inl (nb a_f)))] (fun v_ w_ => ∃ zb_1 : Int32, ∃ zb_2 : Int32, ∃ zb_3 : Int32, ∃ zt_1 : Int32, ∃ za_f : Nat → Int32, ∃ zr : Int64, v_ = some (.long zr) ∧ w_ = [(b, .inr (0, [.ref t, .int zb_1, .int zb_2, .int zb_3])), (t, .inr (2, [.ref a, .int zt_1])), (a, .inl (E.2.2.1 1, N, .inl (nb za_f)))]) := by
  refine Ev.intro (by decide) (Nat.le_of_ble_eq_true rfl) ?_
  intro X B hr hI
  have B : Bd E X cX0_readG RX0 2 1 26 0 0 := B
  have hr : Rt E X (some .long) 0 0 (fun v_ w_ => ∃ zb_1 : Int32, ∃ zb_2 : Int32, ∃ zb_3 : Int32, ∃ zt_1 : Int32, ∃ za_f : Nat → Int32, ∃ zr : Int64, v_ = some (.long zr) ∧ w_ = [(b, .inr (0, [.ref t, .int zb_1, .int zb_2, .int zb_3])), (t, .inr (2, [.ref a, .int zt_1])), (a, .inl (E.2.2.1 1, N, .inl (nb za_f)))]) := hr
  show G E X 2 [(b, .inr (0, [.ref t, .int b_1, .int b_2, .int b_3])), (t, .inr (2, [.ref a, .int t_1])), (a, .inl (E.2.2.1 1, N, .inl (nb a_f)))] 0 0 [(0, .ref b)] 0 []
  refine g_aload_n B dX0_readG_0 rfl 0 rfl ?_
  refine g_iconst (v := 5) B dX0_readG_1 (by decide) ?_
  refine g_callV (st := []) (As := [.int 5]) (wr := []) (nc' := 0) (ns' := 0) B cl_X0_30 w_im_X0_readBits w_se_X0_readBits (wk_X0_readBits E b t a N b_1 b_2 b_3 t_1 a_f 5 (by first | assumption | omega | decide)) rfl [0, 1, 2] [] rfl rfl (by decide) (by decide) (by decide) 0 rfl (fun q h => by cases h; rfl) rfl ⟨by decide, by decide⟩ rfl rfl (by decide) (by decide) rfl (Nat.le_of_ble_eq_true rfl) dX0_readG_2 (fun v w hq => ?_)
  obtain ⟨zb_1_200, zb_2_201, zb_3_202, zt_1_203, za_f_204, zr_205, rfl, rfl⟩ := hq
  show G E X 2 [(b, .inr (0, [.ref t, .int zb_1_200, .int zb_2_201, .int zb_3_202])), (t, .inr (2, [.ref a, .int zt_1_203])), (a, .inl (E.2.2.1 1, N, .inl (nb za_f_204)))] 0 0 [(0, .ref b)] 5 [.long zr_205]
  refine g_l2i B dX0_readG_5 ?_
  refine g_istore_n (lv' := [(1, .int (Int64.toInt32 zr_205)), (0, .ref b)]) B dX0_readG_6 rfl (by decide) rfl ?_
  refine g_lconst (v := 1) B dX0_readG_7 (by decide) ?_
  refine g_iload_n B dX0_readG_8 rfl 0 rfl ?_
  refine g_lshl B dX0_readG_9 ?_
  refine g_aload_n B dX0_readG_10 rfl 1 rfl ?_
  refine g_iload_n B dX0_readG_11 rfl 0 rfl ?_
  refine g_callV (st := [.long (1 <<< (Int32.toInt64 (Int64.toInt32 zr_205) &&& 63))]) (As := [.int (Int64.toInt32 zr_205)]) (wr := []) (nc' := 0) (ns' := 0) B cl_X0_30 w_im_X0_readBits w_se_X0_readBits (wk_X0_readBits E b t a N zb_1_200 zb_2_201 zb_3_202 zt_1_203 za_f_204 (Int64.toInt32 zr_205) (by first | assumption | omega | decide)) rfl [0, 1, 2] [] rfl rfl (by decide) (by decide) (by decide) 0 rfl (fun q h => by cases h; rfl) rfl ⟨by decide, by decide⟩ rfl rfl (by decide) (by decide) rfl (Nat.le_of_ble_eq_true rfl) dX0_readG_12 (fun v w hq => ?_)
  obtain ⟨zb_1_206, zb_2_207, zb_3_208, zt_1_209, za_f_210, zr_211, rfl, rfl⟩ := hq
  show G E X 2 [(b, .inr (0, [.ref t, .int zb_1_206, .int zb_2_207, .int zb_3_208])), (t, .inr (2, [.ref a, .int zt_1_209])), (a, .inl (E.2.2.1 1, N, .inl (nb za_f_210)))] 0 0 [(1, .int (Int64.toInt32 zr_205)), (0, .ref b)] 15 [.long zr_211, .long (1 <<< (Int32.toInt64 (Int64.toInt32 zr_205) &&& 63))]
  refine g_lor B dX0_readG_15 ?_
  exact g_lret B hr dX0_readG_16 (by decide) (by decide) ⟨zb_1_206, zb_2_207, zb_3_208, zt_1_209, za_f_210, ((1 <<< (Int32.toInt64 (Int64.toInt32 zr_205) &&& 63)) ||| zr_211), rfl, rfl⟩
abbrev MX0_readT : g_M := (yX0_readT, cX0_readT, 8, (some .long))
theorem dX0_readT_0 : decode cX0_readT 0 = .ok (.lload_n 1, 1) := by decide +kernel
theorem dX0_readT_1 : decode cX0_readT 1 = .ok (.invokestatic 34, 3) := by decide +kernel
theorem dX0_readT_4 : decode cX0_readT 4 = .ok (.istore_n 3, 1) := by decide +kernel
theorem dX0_readT_5 : decode cX0_readT 5 = .ok (.ldc2_w 40, 3) := by decide +kernel
theorem w_k_X0_40 : Cond.constantLong RX0 40 2 ∈ g_tbl := g_tbl_in 848 (by decide +kernel) (by decide +kernel)
theorem dX0_readT_8 : decode cX0_readT 8 = .ok (.iload_n 3, 1) := by decide +kernel
theorem dX0_readT_9 : decode cX0_readT 9 = .ok (.lshl, 1) := by decide +kernel
theorem dX0_readT_10 : decode cX0_readT 10 = .ok (.lload_n 1, 1) := by decide +kernel
theorem dX0_readT_11 : decode cX0_readT 11 = .ok (.lsub, 1) := by decide +kernel
theorem dX0_readT_12 : decode cX0_readT 12 = .ok (.lstore 4, 2) := by decide +kernel
theorem dX0_readT_14 : decode cX0_readT 14 = .ok (.aload_n 0, 1) := by decide +kernel
theorem dX0_readT_15 : decode cX0_readT 15 = .ok (.iload_n 3, 1) := by decide +kernel
theorem dX0_readT_16 : decode cX0_readT 16 = .ok (.invokevirtual 30, 3) := by decide +kernel
theorem dX0_readT_19 : decode cX0_readT 19 = .ok (.lstore 6, 2) := by decide +kernel
theorem dX0_readT_21 : decode cX0_readT 21 = .ok (.lload 6, 2) := by decide +kernel
theorem dX0_readT_23 : decode cX0_readT 23 = .ok (.lload 4, 2) := by decide +kernel
theorem dX0_readT_25 : decode cX0_readT 25 = .ok (.lcmp, 1) := by decide +kernel
theorem dX0_readT_26 : decode cX0_readT 26 = .ok (.ifCond .ge 8, 3) := by decide +kernel
theorem dX0_readT_34 : decode cX0_readT 34 = .ok (.lload 6, 2) := by decide +kernel
theorem dX0_readT_36 : decode cX0_readT 36 = .ok (.iconst 1, 1) := by decide +kernel
theorem dX0_readT_37 : decode cX0_readT 37 = .ok (.lshl, 1) := by decide +kernel
theorem dX0_readT_38 : decode cX0_readT 38 = .ok (.aload_n 0, 1) := by decide +kernel
theorem dX0_readT_39 : decode cX0_readT 39 = .ok (.iconst 1, 1) := by decide +kernel
theorem dX0_readT_40 : decode cX0_readT 40 = .ok (.invokevirtual 30, 3) := by decide +kernel
theorem dX0_readT_43 : decode cX0_readT 43 = .ok (.lor, 1) := by decide +kernel
theorem dX0_readT_44 : decode cX0_readT 44 = .ok (.lload 4, 2) := by decide +kernel
theorem dX0_readT_46 : decode cX0_readT 46 = .ok (.lsub, 1) := by decide +kernel
theorem dX0_readT_47 : decode cX0_readT 47 = .ok (.lreturn, 1) := by decide +kernel
theorem dX0_readT_29 : decode cX0_readT 29 = .ok (.lload 6, 2) := by decide +kernel
theorem dX0_readT_31 : decode cX0_readT 31 = .ok (.goto 16, 3) := by decide +kernel
set_option maxRecDepth 100000 in
set_option maxHeartbeats 4000000 in
theorem wk_X0_readT (E : g_E) (b : Nat) (t : Nat) (a : Nat) (N : Nat) (b_1 : Int32) (b_2 : Int32) (b_3 : Int32) (t_1 : Int32) (a_f : Nat → Int32) (n : Int64) (hN : N < 2147483648) : Ev E MX0_readT 1 26 0 0 [.ref b, .long n] [(b, .inr (0, [.ref t, .int b_1, .int b_2, .int b_3])), (t, .inr (2, [.ref a, .int t_1])), (a, .inl (E.2.2.1 1, N, .inl (nb a_f)))] (fun v_ w_ => ∃ zb_1 : Int32, ∃ zb_2 : Int32, ∃ zb_3 : Int32, ∃ zt_1 : Int32, ∃ za_f : Nat → Int32, ∃ zr : Int64, v_ = some (.long zr) ∧ w_ = [(b, .inr (0, [.ref t, .int zb_1, .int zb_2, .int zb_3])), (t, .inr (2, [.ref a, .int zt_1])), (a, .inl (E.2.2.1 1, N, .inl (nb za_f)))]) := by
  refine Ev.intro (by decide) (Nat.le_of_ble_eq_true rfl) ?_
  intro X B hr hI
  have B : Bd E X cX0_readT RX0 8 1 26 0 0 := B
  have hr : Rt E X (some .long) 0 0 (fun v_ w_ => ∃ zb_1 : Int32, ∃ zb_2 : Int32, ∃ zb_3 : Int32, ∃ zt_1 : Int32, ∃ za_f : Nat → Int32, ∃ zr : Int64, v_ = some (.long zr) ∧ w_ = [(b, .inr (0, [.ref t, .int zb_1, .int zb_2, .int zb_3])), (t, .inr (2, [.ref a, .int zt_1])), (a, .inl (E.2.2.1 1, N, .inl (nb za_f)))]) := hr
  show G E X 8 [(b, .inr (0, [.ref t, .int b_1, .int b_2, .int b_3])), (t, .inr (2, [.ref a, .int t_1])), (a, .inl (E.2.2.1 1, N, .inl (nb a_f)))] 0 0 [(0, .ref b), (1, .long n)] 0 []
  refine g_lload_n B dX0_readT_0 rfl 1 rfl ?_
  refine g_callSR (st := []) (As := [.long n]) (wr := [(b, .inr (0, [.ref t, .int b_1, .int b_2, .int b_3])), (t, .inr (2, [.ref a, .int t_1])), (a, .inl (E.2.2.1 1, N, .inl (nb a_f)))]) (nc' := 0) (ns' := 0) B w_cd_X10_highestBit w_ini_X10 w_sm_X10_highestBit (wk_X10_highestBit E n ) rfl [] [0, 1, 2] rfl rfl (by decide) (by decide) (by decide) ⟨by decide, by decide⟩ rfl rfl (by decide) (by decide) rfl (Nat.le_of_ble_eq_true rfl) dX0_readT_1 (fun v w hq => ?_)
  obtain ⟨zr_212, rfl, rfl⟩ := hq
  show G E X 8 [(b, .inr (0, [.ref t, .int b_1, .int b_2, .int b_3])), (t, .inr (2, [.ref a, .int t_1])), (a, .inl (E.2.2.1 1, N, .inl (nb a_f)))] 0 0 [(0, .ref b), (1, .long n)] 4 [.int zr_212]
  refine g_istore_n (lv' := [(3, .int zr_212), (0, .ref b), (1, .long n)]) B dX0_readT_4 rfl (by decide) rfl ?_
  refine g_ldc2 (v := 2) B w_k_X0_40 dX0_readT_5 ?_
  refine g_iload_n B dX0_readT_8 rfl 0 rfl ?_
  refine g_lshl B dX0_readT_9 ?_
  refine g_lload_n B dX0_readT_10 rfl 2 rfl ?_
  refine g_lsub B dX0_readT_11 ?_
  refine g_lstore (lv' := [(4, .long ((2 <<< (Int32.toInt64 zr_212 &&& 63)) - n)), (3, .int zr_212), (0, .ref b), (1, .long n)]) B dX0_readT_12 (by decide) rfl ?_
  refine g_aload_n B dX0_readT_14 rfl 2 rfl ?_
  refine g_iload_n B dX0_readT_15 rfl 1 rfl ?_
  refine g_callV (st := []) (As := [.int zr_212]) (wr := []) (nc' := 0) (ns' := 0) B cl_X0_30 w_im_X0_readBits w_se_X0_readBits (wk_X0_readBits E b t a N b_1 b_2 b_3 t_1 a_f zr_212 (by first | assumption | omega | decide)) rfl [0, 1, 2] [] rfl rfl (by decide) (by decide) (by decide) 0 rfl (fun q h => by cases h; rfl) rfl ⟨by decide, by decide⟩ rfl rfl (by decide) (by decide) rfl (Nat.le_of_ble_eq_true rfl) dX0_readT_16 (fun v w hq => ?_)
  obtain ⟨zb_1_213, zb_2_214, zb_3_215, zt_1_216, za_f_217, zr_218, rfl, rfl⟩ := hq
  show G E X 8 [(b, .inr (0, [.ref t, .int zb_1_213, .int zb_2_214, .int zb_3_215])), (t, .inr (2, [.ref a, .int zt_1_216])), (a, .inl (E.2.2.1 1, N, .inl (nb za_f_217)))] 0 0 [(4, .long ((2 <<< (Int32.toInt64 zr_212 &&& 63)) - n)), (3, .int zr_212), (0, .ref b), (1, .long n)] 19 [.long zr_218]
  refine g_lstore (lv' := [(6, .long zr_218), (4, .long ((2 <<< (Int32.toInt64 zr_212 &&& 63)) - n)), (3, .int zr_212), (0, .ref b), (1, .long n)]) B dX0_readT_19 (by decide) rfl ?_
  refine g_lload B dX0_readT_21 0 rfl ?_
  refine g_lload B dX0_readT_23 1 rfl ?_
  refine g_lcmp B dX0_readT_25 ?_
  refine g_if_ge (tgt := 34) B dX0_readT_26 (by decide) (fun c26_219 => ?_) (fun c26_219 => ?_)
  · refine g_lload B dX0_readT_34 0 rfl ?_
    refine g_iconst (v := 1) B dX0_readT_36 (by decide) ?_
    refine g_lshl B dX0_readT_37 ?_
    refine g_aload_n B dX0_readT_38 rfl 3 rfl ?_
    refine g_iconst (v := 1) B dX0_readT_39 (by decide) ?_
    refine g_callV (st := [.long (zr_218 <<< (Int32.toInt64 1 &&& 63))]) (As := [.int 1]) (wr := []) (nc' := 0) (ns' := 0) B cl_X0_30 w_im_X0_readBits w_se_X0_readBits (wk_X0_readBits E b t a N zb_1_213 zb_2_214 zb_3_215 zt_1_216 za_f_217 1 (by first | assumption | omega | decide)) rfl [0, 1, 2] [] rfl rfl (by decide) (by decide) (by decide) 0 rfl (fun q h => by cases h; rfl) rfl ⟨by decide, by decide⟩ rfl rfl (by decide) (by decide) rfl (Nat.le_of_ble_eq_true rfl) dX0_readT_40 (fun v w hq => ?_)
    obtain ⟨zb_1_220, zb_2_221, zb_3_222, zt_1_223, za_f_224, zr_225, rfl, rfl⟩ := hq
    show G E X 8 [(b, .inr (0, [.ref t, .int zb_1_220, .int zb_2_221, .int zb_3_222])), (t, .inr (2, [.ref a, .int zt_1_223])), (a, .inl (E.2.2.1 1, N, .inl (nb za_f_224)))] 0 0 [(6, .long zr_218), (4, .long ((2 <<< (Int32.toInt64 zr_212 &&& 63)) - n)), (3, .int zr_212), (0, .ref b), (1, .long n)] 43 [.long zr_225, .long (zr_218 <<< (Int32.toInt64 1 &&& 63))]
    refine g_lor B dX0_readT_43 ?_
    refine g_lload B dX0_readT_44 1 rfl ?_
    refine g_lsub B dX0_readT_46 ?_
    exact g_lret B hr dX0_readT_47 (by decide) (by decide) ⟨zb_1_220, zb_2_221, zb_3_222, zt_1_223, za_f_224, (((zr_218 <<< (Int32.toInt64 1 &&& 63)) ||| zr_225) - ((2 <<< (Int32.toInt64 zr_212 &&& 63)) - n)), rfl, rfl⟩
  · refine g_lload B dX0_readT_29 0 rfl ?_
    refine g_goto (tgt := 47) B dX0_readT_31 (by decide) ?_
    exact g_lret B hr dX0_readT_47 (by decide) (by decide) ⟨zb_1_213, zb_2_214, zb_3_215, zt_1_216, za_f_217, zr_218, rfl, rfl⟩
abbrev MX0_isRestWrong : g_M := (yX0_isRestWrong, cX0_isRestWrong, 2, (some .boolean))
theorem dX0_isRestWrong_0 : decode cX0_isRestWrong 0 = .ok (.aload_n 0, 1) := by decide +kernel
theorem dX0_isRestWrong_1 : decode cX0_isRestWrong 1 = .ok (.getfield 17, 3) := by decide +kernel
theorem dX0_isRestWrong_4 : decode cX0_isRestWrong 4 = .ok (.aload_n 0, 1) := by decide +kernel
theorem dX0_isRestWrong_5 : decode cX0_isRestWrong 5 = .ok (.getfield 13, 3) := by decide +kernel
theorem dX0_isRestWrong_8 : decode cX0_isRestWrong 8 = .ok (.isub, 1) := by decide +kernel
theorem dX0_isRestWrong_9 : decode cX0_isRestWrong 9 = .ok (.istore_n 1, 1) := by decide +kernel
theorem dX0_isRestWrong_10 : decode cX0_isRestWrong 10 = .ok (.iload_n 1, 1) := by decide +kernel
theorem dX0_isRestWrong_11 : decode cX0_isRestWrong 11 = .ok (.bipush 7, 2) := by decide +kernel
theorem dX0_isRestWrong_13 : decode cX0_isRestWrong 13 = .ok (.if_icmp .gt 13, 3) := by decide +kernel
theorem dX0_isRestWrong_26 : decode cX0_isRestWrong 26 = .ok (.iconst 1, 1) := by decide +kernel
theorem dX0_isRestWrong_27 : decode cX0_isRestWrong 27 = .ok (.goto 4, 3) := by decide +kernel
theorem dX0_isRestWrong_31 : decode cX0_isRestWrong 31 = .ok (.ireturn, 1) := by decide +kernel
theorem dX0_isRestWrong_16 : decode cX0_isRestWrong 16 = .ok (.aload_n 0, 1) := by decide +kernel
theorem dX0_isRestWrong_17 : decode cX0_isRestWrong 17 = .ok (.iload_n 1, 1) := by decide +kernel
theorem dX0_isRestWrong_18 : decode cX0_isRestWrong 18 = .ok (.invokevirtual 30, 3) := by decide +kernel
theorem dX0_isRestWrong_21 : decode cX0_isRestWrong 21 = .ok (.lconst 0, 1) := by decide +kernel
theorem dX0_isRestWrong_22 : decode cX0_isRestWrong 22 = .ok (.lcmp, 1) := by decide +kernel
theorem dX0_isRestWrong_23 : decode cX0_isRestWrong 23 = .ok (.ifCond .eq 7, 3) := by decide +kernel
theorem dX0_isRestWrong_30 : decode cX0_isRestWrong 30 = .ok (.iconst 0, 1) := by decide +kernel
set_option maxRecDepth 100000 in
set_option maxHeartbeats 4000000 in
theorem wk_X0_isRestWrong (E : g_E) (b : Nat) (t : Nat) (a : Nat) (N : Nat) (b_1 : Int32) (b_2 : Int32) (b_3 : Int32) (t_1 : Int32) (a_f : Nat → Int32) (hN : N < 2147483648) : Ev E MX0_isRestWrong 1 26 0 0 [.ref b] [(b, .inr (0, [.ref t, .int b_1, .int b_2, .int b_3])), (t, .inr (2, [.ref a, .int t_1])), (a, .inl (E.2.2.1 1, N, .inl (nb a_f)))] (fun v_ w_ => ∃ zb_1 : Int32, ∃ zb_2 : Int32, ∃ zb_3 : Int32, ∃ zt_1 : Int32, ∃ za_f : Nat → Int32, ∃ zr : Int32, (zr = 0 ∨ zr = 1) ∧ v_ = some (.int zr) ∧ w_ = [(b, .inr (0, [.ref t, .int zb_1, .int zb_2, .int zb_3])), (t, .inr (2, [.ref a, .int zt_1])), (a, .inl (E.2.2.1 1, N, .inl (nb za_f)))]) := by
  refine Ev.intro (by decide) (Nat.le_of_ble_eq_true rfl) ?_
  intro X B hr hI
  have B : Bd E X cX0_isRestWrong RX0 2 1 26 0 0 := B
  have hr : Rt E X (some .boolean) 0 0 (fun v_ w_ => ∃ zb_1 : Int32, ∃ zb_2 : Int32, ∃ zb_3 : Int32, ∃ zt_1 : Int32, ∃ za_f : Nat → Int32, ∃ zr : Int32, (zr = 0 ∨ zr = 1) ∧ v_ = some (.int zr) ∧ w_ = [(b, .inr (0, [.ref t, .int zb_1, .int zb_2, .int zb_3])), (t, .inr (2, [.ref a, .int zt_1])), (a, .inl (E.2.2.1 1, N, .inl (nb za_f)))]) := hr
  show G E X 2 [(b, .inr (0, [.ref t, .int b_1, .int b_2, .int b_3])), (t, .inr (2, [.ref a, .int t_1])), (a, .inl (E.2.2.1 1, N, .inl (nb a_f)))] 0 0 [(0, .ref b)] 0 []
  refine g_aload_n B dX0_isRestWrong_0 rfl 0 rfl ?_
  refine g_get B 0 2 fl_X0_17 rfl rfl dX0_isRestWrong_1 ?_
  refine g_aload_n B dX0_isRestWrong_4 rfl 0 rfl ?_
  refine g_get B 0 1 fl_X0_13 rfl rfl dX0_isRestWrong_5 ?_
  refine g_isub B dX0_isRestWrong_8 ?_
  refine g_istore_n (lv' := [(1, .int (b_2 - b_1)), (0, .ref b)]) B dX0_isRestWrong_9 rfl (by decide) rfl ?_
  refine g_iload_n B dX0_isRestWrong_10 rfl 0 rfl ?_
  refine g_bipush (v := 7) B dX0_isRestWrong_11 (by decide) ?_
  refine g_icmp_gt (tgt := 26) B dX0_isRestWrong_13 (by decide) (fun c13_226 => ?_) (fun c13_226 => ?_)
  · refine g_iconst (v := 1) B dX0_isRestWrong_26 (by decide) ?_
    refine g_goto (tgt := 31) B dX0_isRestWrong_27 (by decide) ?_
    exact g_zret B hr (by decide) dX0_isRestWrong_31 (by decide) (by decide) ⟨b_1, b_2, b_3, t_1, a_f, 1, (Or.inr rfl), rfl, rfl⟩
  · refine g_aload_n B dX0_isRestWrong_16 rfl 1 rfl ?_
    refine g_iload_n B dX0_isRestWrong_17 rfl 0 rfl ?_
    refine g_callV (st := []) (As := [.int (b_2 - b_1)]) (wr := []) (nc' := 0) (ns' := 0) B cl_X0_30 w_im_X0_readBits w_se_X0_readBits (wk_X0_readBits E b t a N b_1 b_2 b_3 t_1 a_f (b_2 - b_1) (by first | assumption | omega | decide)) rfl [0, 1, 2] [] rfl rfl (by decide) (by decide) (by decide) 0 rfl (fun q h => by cases h; rfl) rfl ⟨by decide, by decide⟩ rfl rfl (by decide) (by decide) rfl (Nat.le_of_ble_eq_true rfl) dX0_isRestWrong_18 (fun v w hq => ?_)
    obtain ⟨zb_1_227, zb_2_228, zb_3_229, zt_1_230, za_f_231, zr_232, rfl, rfl⟩ := hq
    show G E X 2 [(b, .inr (0, [.ref t, .int zb_1_227, .int zb_2_228, .int zb_3_229])), (t, .inr (2, [.ref a, .int zt_1_230])), (a, .inl (E.2.2.1 1, N, .inl (nb za_f_231)))] 0 0 [(1, .int (b_2 - b_1)), (0, .ref b)] 21 [.long zr_232]
    refine g_lconst (v := 0) B dX0_isRestWrong_21 (by decide) ?_
    refine g_lcmp B dX0_isRestWrong_22 ?_
    refine g_if_eq (tgt := 30) B dX0_isRestWrong_23 (by decide) (fun c23_233 => ?_) (fun c23_233 => ?_)
    · refine g_iconst (v := 0) B dX0_isRestWrong_30 (by decide) ?_
      exact g_zret B hr (by decide) dX0_isRestWrong_31 (by decide) (by decide) ⟨zb_1_227, zb_2_228, zb_3_229, zt_1_230, za_f_231, 0, (Or.inl rfl), rfl, rfl⟩
    · refine g_iconst (v := 1) B dX0_isRestWrong_26 (by decide) ?_
      refine g_goto (tgt := 31) B dX0_isRestWrong_27 (by decide) ?_
      exact g_zret B hr (by decide) dX0_isRestWrong_31 (by decide) (by decide) ⟨zb_1_227, zb_2_228, zb_3_229, zt_1_230, za_f_231, 1, (Or.inr rfl), rfl, rfl⟩
end
section
abbrev MJ7_fill_53178 : g_M := (yJ7_fill_53178, cJ7_fill_53178, 4, none)
theorem dJ7_fill_53178_0 : decode cJ7_fill_53178 0 = .ok (.iconst 0, 1) := by decide +kernel
theorem dJ7_fill_53178_1 : decode cJ7_fill_53178 1 = .ok (.istore_n 2, 1) := by decide +kernel
theorem dJ7_fill_53178_2 : decode cJ7_fill_53178 2 = .ok (.aload_n 0, 1) := by decide +kernel
theorem dJ7_fill_53178_3 : decode cJ7_fill_53178 3 = .ok (.arraylength, 1) := by decide +kernel
theorem dJ7_fill_53178_4 : decode cJ7_fill_53178 4 = .ok (.istore_n 3, 1) := by decide +kernel
theorem dJ7_fill_53178_5 : decode cJ7_fill_53178 5 = .ok (.iload_n 2, 1) := by decide +kernel
theorem dJ7_fill_53178_6 : decode cJ7_fill_53178 6 = .ok (.iload_n 3, 1) := by decide +kernel
theorem dJ7_fill_53178_7 : decode cJ7_fill_53178 7 = .ok (.if_icmp .ge 13, 3) := by decide +kernel
theorem dJ7_fill_53178_10 : decode cJ7_fill_53178 10 = .ok (.aload_n 0, 1) := by decide +kernel
theorem dJ7_fill_53178_11 : decode cJ7_fill_53178 11 = .ok (.iload_n 2, 1) := by decide +kernel
theorem dJ7_fill_53178_12 : decode cJ7_fill_53178 12 = .ok (.iload_n 1, 1) := by decide +kernel
theorem dJ7_fill_53178_13 : decode cJ7_fill_53178 13 = .ok (.iastore, 1) := by decide +kernel
theorem dJ7_fill_53178_14 : decode cJ7_fill_53178 14 = .ok (.iinc 2 1, 3) := by decide +kernel
theorem dJ7_fill_53178_17 : decode cJ7_fill_53178 17 = .ok (.goto (-12), 3) := by decide +kernel
set_option maxRecDepth 100000 in
set_option maxHeartbeats 4000000 in
theorem lp_wk_J7_fill_53178_5 (E : g_E) (a : Nat) (N : Nat) (hN : N < 2147483648) {X : g_X} (B : Bd E X cJ7_fill_53178 RJ7 4 0 0 0 0) (hr : Rt E X none 0 0 (fun v_ w_ => ∃ za_f : Nat → Int32, v_ = none ∧ w_ = [(a, .inl (E.2.2.1 0, N, .inl za_f))])) (K : ∀ (a_f : Nat → Int32) (l1 : Int32) (l2 : Int32), G E X 4 [(a, .inl (E.2.2.1 0, N, .inl a_f))] 0 0 [(0, .ref a), (1, .int l1), (2, .int l2), (3, .int (nI N))] 20 []) : ∀ (n : Nat) (a_f : Nat → Int32) (l1 : Int32) (l2 : Int32), ¬ l2 < 0 → (Int32.toInt (nI N) - Int32.toInt l2).toNat < n → G E X 4 [(a, .inl (E.2.2.1 0, N, .inl a_f))] 0 0 [(0, .ref a), (1, .int l1), (2, .int l2), (3, .int (nI N))] 5 [] := by
  intro n
  induction n with
  | zero => intro a_f l1 l2 _ h; exact absurd h (Nat.not_lt_zero _)
  | succ n ih =>
    intro a_f l1 l2 hv0 hm
    refine g_iload_n B dJ7_fill_53178_5 rfl 2 rfl ?_
    refine g_iload_n B dJ7_fill_53178_6 rfl 3 rfl ?_
    refine g_icmp_ge (tgt := 20) B dJ7_fill_53178_7 (by decide) (fun c7_234 => ?_) (fun c7_234 => ?_)
    · exact K a_f l1 l2
    · refine g_aload_n B dJ7_fill_53178_10 rfl 0 rfl ?_
      refine g_iload_n B dJ7_fill_53178_11 rfl 2 rfl ?_
      refine g_iload_n B dJ7_fill_53178_12 rfl 1 rfl ?_
      refine g_iast (ws' := [(a, .inl (E.2.2.1 0, N, .inl (upd a_f (Int32.toNatClampNeg l2) l1)))]) B 0 rfl (in_lt hN hv0 (o_2 c7_234)) rfl dJ7_fill_53178_13 ?_
      refine g_iinc (v := (l2 + 1)) (lv' := [(2, .int (l2 + 1)), (0, .ref a), (1, .int l1), (3, .int (nI N))]) B dJ7_fill_53178_14 2 rfl rfl (by decide) rfl ?_
      refine g_goto (tgt := 5) B dJ7_fill_53178_17 (by decide) ?_
      refine g_lvsub (lv' := [(0, .ref a), (1, .int l1), (2, .int (l2 + 1)), (3, .int (nI N))]) [1, 2, 0, 3] rfl ?_
      exact ih (upd a_f (Int32.toNatClampNeg l2) l1) l1 (l2 + 1) (inv_up hv0 (o_2 c7_234)) (Nat.lt_of_lt_of_le (st_up (o_2 c7_234)) (Nat.le_of_lt_succ hm))
theorem dJ7_fill_53178_20 : decode cJ7_fill_53178 20 = .ok (.return_, 1) := by decide +kernel
set_option maxRecDepth 100000 in
set_option maxHeartbeats 4000000 in
theorem wk_J7_fill_53178 (E : g_E) (a : Nat) (N : Nat) (a_f : Nat → Int32) (v : Int32) (hN : N < 2147483648) : Ev E MJ7_fill_53178 0 0 0 0 [.ref a, .int v] [(a, .inl (E.2.2.1 0, N, .inl a_f))] (fun v_ w_ => ∃ za_f : Nat → Int32, v_ = none ∧ w_ = [(a, .inl (E.2.2.1 0, N, .inl za_f))]) := by
  refine Ev.intro (by decide) (Nat.le_of_ble_eq_true rfl) ?_
  intro X B hr hI
  have B : Bd E X cJ7_fill_53178 RJ7 4 0 0 0 0 := B
  have hr : Rt E X none 0 0 (fun v_ w_ => ∃ za_f : Nat → Int32, v_ = none ∧ w_ = [(a, .inl (E.2.2.1 0, N, .inl za_f))]) := hr
  show G E X 4 [(a, .inl (E.2.2.1 0, N, .inl a_f))] 0 0 [(0, .ref a), (1, .int v)] 0 []
  refine g_iconst (v := 0) B dJ7_fill_53178_0 (by decide) ?_
  refine g_istore_n (lv' := [(2, .int 0), (0, .ref a), (1, .int v)]) B dJ7_fill_53178_1 rfl (by decide) rfl ?_
  refine g_aload_n B dJ7_fill_53178_2 rfl 1 rfl ?_
  refine g_alen (v := nI N) B 0 (by decide) rfl rfl dJ7_fill_53178_3 ?_
  refine g_istore_n (lv' := [(3, .int (nI N)), (2, .int 0), (0, .ref a), (1, .int v)]) B dJ7_fill_53178_4 rfl (by decide) rfl ?_
  refine g_lvsub (lv' := [(0, .ref a), (1, .int v), (2, .int 0), (3, .int (nI N))]) [2, 3, 1, 0] rfl ?_
  refine lp_wk_J7_fill_53178_5 E a N hN B hr (fun y_235a_f y_235l1 y_235l2 => ?_) _ a_f v 0 (by decide) (Nat.lt_succ_self _)
  exact g_vret B hr dJ7_fill_53178_20 (by decide) (by decide) ⟨y_235a_f, rfl, rfl⟩
abbrev MJ7_fill_d0a16 : g_M := (yJ7_fill_d0a16, cJ7_fill_d0a16, 5, none)
theorem dJ7_fill_d0a16_0 : decode cJ7_fill_d0a16 0 = .ok (.iconst 0, 1) := by decide +kernel
theorem dJ7_fill_d0a16_1 : decode cJ7_fill_d0a16 1 = .ok (.istore_n 3, 1) := by decide +kernel
theorem dJ7_fill_d0a16_2 : decode cJ7_fill_d0a16 2 = .ok (.aload_n 0, 1) := by decide +kernel
theorem dJ7_fill_d0a16_3 : decode cJ7_fill_d0a16 3 = .ok (.arraylength, 1) := by decide +kernel
theorem dJ7_fill_d0a16_4 : decode cJ7_fill_d0a16 4 = .ok (.istore 4, 2) := by decide +kernel
theorem dJ7_fill_d0a16_6 : decode cJ7_fill_d0a16 6 = .ok (.iload_n 3, 1) := by decide +kernel
theorem dJ7_fill_d0a16_7 : decode cJ7_fill_d0a16 7 = .ok (.iload 4, 2) := by decide +kernel
theorem dJ7_fill_d0a16_9 : decode cJ7_fill_d0a16 9 = .ok (.if_icmp .ge 13, 3) := by decide +kernel
theorem dJ7_fill_d0a16_12 : decode cJ7_fill_d0a16 12 = .ok (.aload_n 0, 1) := by decide +kernel
theorem dJ7_fill_d0a16_13 : decode cJ7_fill_d0a16 13 = .ok (.iload_n 3, 1) := by decide +kernel
theorem dJ7_fill_d0a16_14 : decode cJ7_fill_d0a16 14 = .ok (.lload_n 1, 1) := by decide +kernel
theorem dJ7_fill_d0a16_15 : decode cJ7_fill_d0a16 15 = .ok (.lastore, 1) := by decide +kernel
theorem dJ7_fill_d0a16_16 : decode cJ7_fill_d0a16 16 = .ok (.iinc 3 1, 3) := by decide +kernel
theorem dJ7_fill_d0a16_19 : decode cJ7_fill_d0a16 19 = .ok (.goto (-13), 3) := by decide +kernel
set_option maxRecDepth 100000 in
set_option maxHeartbeats 4000000 in
theorem lp_wk_J7_fill_d0a16_6 (E : g_E) (a : Nat) (N : Nat) (hN : N < 2147483648) {X : g_X} (B : Bd E X cJ7_fill_d0a16 RJ7 5 0 0 0 0) (hr : Rt E X none 0 0 (fun v_ w_ => ∃ za_f : Nat → Int64, v_ = none ∧ w_ = [(a, .inl (E.2.2.1 3, N, .inr (.inl za_f)))])) (K : ∀ (a_f : Nat → Int64) (l1 : Int64) (l3 : Int32), G E X 5 [(a, .inl (E.2.2.1 3, N, .inr (.inl a_f)))] 0 0 [(0, .ref a), (1, .long l1), (3, .int l3), (4, .int (nI N))] 22 []) : ∀ (n : Nat) (a_f : Nat → Int64) (l1 : Int64) (l3 : Int32), ¬ l3 < 0 → (Int32.toInt (nI N) - Int32.toInt l3).toNat < n → G E X 5 [(a, .inl (E.2.2.1 3, N, .inr (.inl a_f)))] 0 0 [(0, .ref a), (1, .long l1), (3, .int l3), (4, .int (nI N))] 6 [] := by
  intro n
  induction n with
  | zero => intro a_f l1 l3 _ h; exact absurd h (Nat.not_lt_zero _)
  | succ n ih =>
    intro a_f l1 l3 hv0 hm
    refine g_iload_n B dJ7_fill_d0a16_6 rfl 2 rfl ?_
    refine g_iload B dJ7_fill_d0a16_7 3 rfl ?_
    refine g_icmp_ge (tgt := 22) B dJ7_fill_d0a16_9 (by decide) (fun c9_236 => ?_) (fun c9_236 => ?_)
    · exact K a_f l1 l3
    · refine g_aload_n B dJ7_fill_d0a16_12 rfl 0 rfl ?_
      refine g_iload_n B dJ7_fill_d0a16_13 rfl 2 rfl ?_
      refine g_lload_n B dJ7_fill_d0a16_14 rfl 1 rfl ?_
      refine g_last (ws' := [(a, .inl (E.2.2.1 3, N, .inr (.inl (vp_updL a_f (Int32.toNatClampNeg l3) l1))))]) B 0 rfl (in_lt hN hv0 (o_2 c9_236)) rfl dJ7_fill_d0a16_15 ?_
      refine g_iinc (v := (l3 + 1)) (lv' := [(3, .int (l3 + 1)), (0, .ref a), (1, .long l1), (4, .int (nI N))]) B dJ7_fill_d0a16_16 2 rfl rfl (by decide) rfl ?_
      refine g_goto (tgt := 6) B dJ7_fill_d0a16_19 (by decide) ?_
      refine g_lvsub (lv' := [(0, .ref a), (1, .long l1), (3, .int (l3 + 1)), (4, .int (nI N))]) [1, 2, 0, 3] rfl ?_
      exact ih (vp_updL a_f (Int32.toNatClampNeg l3) l1) l1 (l3 + 1) (inv_up hv0 (o_2 c9_236)) (Nat.lt_of_lt_of_le (st_up (o_2 c9_236)) (Nat.le_of_lt_succ hm))
theorem dJ7_fill_d0a16_22 : decode cJ7_fill_d0a16 22 = .ok (.return_, 1) := by decide +kernel
set_option maxRecDepth 100000 in
set_option maxHeartbeats 4000000 in
theorem wk_J7_fill_d0a16 (E : g_E) (a : Nat) (N : Nat) (a_f : Nat → Int64) (v : Int64) (hN : N < 2147483648) : Ev E MJ7_fill_d0a16 0 0 0 0 [.ref a, .long v] [(a, .inl (E.2.2.1 3, N, .inr (.inl a_f)))] (fun v_ w_ => ∃ za_f : Nat → Int64, v_ = none ∧ w_ = [(a, .inl (E.2.2.1 3, N, .inr (.inl za_f)))]) := by
  refine Ev.intro (by decide) (Nat.le_of_ble_eq_true rfl) ?_
  intro X B hr hI
  have B : Bd E X cJ7_fill_d0a16 RJ7 5 0 0 0 0 := B
  have hr : Rt E X none 0 0 (fun v_ w_ => ∃ za_f : Nat → Int64, v_ = none ∧ w_ = [(a, .inl (E.2.2.1 3, N, .inr (.inl za_f)))]) := hr
  show G E X 5 [(a, .inl (E.2.2.1 3, N, .inr (.inl a_f)))] 0 0 [(0, .ref a), (1, .long v)] 0 []
  refine g_iconst (v := 0) B dJ7_fill_d0a16_0 (by decide) ?_
  refine g_istore_n (lv' := [(3, .int 0), (0, .ref a), (1, .long v)]) B dJ7_fill_d0a16_1 rfl (by decide) rfl ?_
  refine g_aload_n B dJ7_fill_d0a16_2 rfl 1 rfl ?_
  refine g_alen (v := nI N) B 0 (by decide) rfl rfl dJ7_fill_d0a16_3 ?_
  refine g_istore (lv' := [(4, .int (nI N)), (3, .int 0), (0, .ref a), (1, .long v)]) B dJ7_fill_d0a16_4 (by decide) rfl ?_
  refine g_lvsub (lv' := [(0, .ref a), (1, .long v), (3, .int 0), (4, .int (nI N))]) [2, 3, 1, 0] rfl ?_
  refine lp_wk_J7_fill_d0a16_6 E a N hN B hr (fun y_237a_f y_237l1 y_237l3 => ?_) _ a_f v 0 (by decide) (Nat.lt_succ_self _)
  exact g_vret B hr dJ7_fill_d0a16_22 (by decide) (by decide) ⟨y_237a_f, rfl, rfl⟩
theorem pl_lt {k : Nat} (hk : k ≤ 8) (h : ¬ (8 : Int32) ≤ nI k) : k + 1 ≤ 8 := by
  rcases Nat.lt_or_ge k 8 with h1 | h1
  · exact h1
  · exact absurd (nI_le h1 (by omega)) h
theorem lr_0 {k : Nat} (hk : k ≤ 8) : ((if (8 : Int32) < nI k then 8 else nI k) - 1) < 8 := by
  have h : k = 0 ∨ k = 1 ∨ k = 2 ∨ k = 3 ∨ k = 4 ∨ k = 5 ∨ k = 6 ∨ k = 7 ∨ k = 8 := by omega
  rcases h with rfl | rfl | rfl | rfl | rfl | rfl | rfl | rfl | rfl <;> decide
theorem lr_s {i : Int32} (h : ¬ i < 0) (h8 : i < 8) : i + (-1) < 8 := by
  rcases pk_ix i (n := 8) (by decide) with h1 | h1 | ⟨j, hj, rfl⟩
  · exact absurd h1 h
  · exact absurd h8 (o_4 h1)
  · have h4 : j = 0 ∨ j = 1 ∨ j = 2 ∨ j = 3 ∨ j = 4 ∨ j = 5 ∨ j = 6 ∨ j = 7 := by omega
    rcases h4 with rfl | rfl | rfl | rfl | rfl | rfl | rfl | rfl <;> decide
theorem in_tr (p c : Int32) : vp_in (((p &&& 7) * 2) + (c &&& 1)) 16 := by
  obtain ⟨j, hj, e1⟩ := pk_andE p (m := 7) 3 (by decide)
  obtain ⟨k, hk, e2⟩ := pk_andE c (m := 1) 1 (by decide)
  rw [e1, e2]
  have e3 : nI j * 2 = nI (j * 2) := pk_mul j 2
  rw [e3, nI_add]
  exact vp_in_nI (by omega) (by decide)
theorem in_sl (p c x : Int32) : vp_in ((((p &&& 7) * 16) + ((c &&& 1) * 8)) + (x &&& 7)) 128 := by
  obtain ⟨j, hj, e1⟩ := pk_andE p (m := 7) 3 (by decide)
  obtain ⟨k, hk, e2⟩ := pk_andE c (m := 1) 1 (by decide)
  obtain ⟨i, hi, e3⟩ := pk_andE x (m := 7) 3 (by decide)
  rw [e1, e2, e3]
  have e4 : nI j * 16 = nI (j * 16) := pk_mul j 16
  have e5 : nI k * 8 = nI (k * 8) := pk_mul k 8
  rw [e4, e5, nI_add, nI_add]
  exact vp_in_nI (by omega) (by decide)
theorem cmp_ne {x : Int64} (h : ¬ lg_cmp x 0 ≤ 0) : ¬ x = 0 := by
  rintro rfl
  exact h (by decide)
abbrev MX7_isTerm : g_M := (yX7_isTerm, cX7_isTerm, 1, (some .boolean))
theorem dX7_isTerm_0 : decode cX7_isTerm 0 = .ok (.iload_n 0, 1) := by decide +kernel
theorem dX7_isTerm_1 : decode cX7_isTerm 1 = .ok (.iconst 1, 1) := by decide +kernel
theorem dX7_isTerm_2 : decode cX7_isTerm 2 = .ok (.if_icmp .lt 9, 3) := by decide +kernel
theorem dX7_isTerm_11 : decode cX7_isTerm 11 = .ok (.iload_n 0, 1) := by decide +kernel
theorem dX7_isTerm_12 : decode cX7_isTerm 12 = .ok (.bipush 17, 2) := by decide +kernel
theorem dX7_isTerm_14 : decode cX7_isTerm 14 = .ok (.if_icmp .eq 20, 3) := by decide +kernel
theorem dX7_isTerm_34 : decode cX7_isTerm 34 = .ok (.iconst 1, 1) := by decide +kernel
theorem dX7_isTerm_35 : decode cX7_isTerm 35 = .ok (.goto 4, 3) := by decide +kernel
theorem dX7_isTerm_39 : decode cX7_isTerm 39 = .ok (.ireturn, 1) := by decide +kernel
theorem dX7_isTerm_17 : decode cX7_isTerm 17 = .ok (.iload_n 0, 1) := by decide +kernel
theorem dX7_isTerm_18 : decode cX7_isTerm 18 = .ok (.bipush 18, 2) := by decide +kernel
theorem dX7_isTerm_20 : decode cX7_isTerm 20 = .ok (.if_icmp .eq 14, 3) := by decide +kernel
theorem dX7_isTerm_23 : decode cX7_isTerm 23 = .ok (.iload_n 0, 1) := by decide +kernel
theorem dX7_isTerm_24 : decode cX7_isTerm 24 = .ok (.iconst (-1), 1) := by decide +kernel
theorem dX7_isTerm_25 : decode cX7_isTerm 25 = .ok (.if_icmp .eq 9, 3) := by decide +kernel
theorem dX7_isTerm_28 : decode cX7_isTerm 28 = .ok (.iload_n 0, 1) := by decide +kernel
theorem dX7_isTerm_29 : decode cX7_isTerm 29 = .ok (.bipush (-3), 2) := by decide +kernel
theorem dX7_isTerm_31 : decode cX7_isTerm 31 = .ok (.if_icmp .ne 7, 3) := by decide +kernel
theorem dX7_isTerm_38 : decode cX7_isTerm 38 = .ok (.iconst 0, 1) := by decide +kernel
theorem dX7_isTerm_5 : decode cX7_isTerm 5 = .ok (.iload_n 0, 1) := by decide +kernel
theorem dX7_isTerm_6 : decode cX7_isTerm 6 = .ok (.bipush 8, 2) := by decide +kernel
theorem dX7_isTerm_8 : decode cX7_isTerm 8 = .ok (.if_icmp .le 26, 3) := by decide +kernel
set_option maxRecDepth 100000 in
set_option maxHeartbeats 4000000 in
theorem wk_X7_isTerm (E : g_E) (t : Int32)  : Ev E MX7_isTerm 0 0 0 0 [.int t] [] (fun v_ w_ => ∃ zr : Int32, (zr = 0 ∨ zr = 1) ∧ v_ = some (.int zr) ∧ w_ = []) := by
  refine Ev.intro (by decide) (Nat.le_of_ble_eq_true rfl) ?_
  intro X B hr hI
  have B : Bd E X cX7_isTerm RX7 1 0 0 0 0 := B
  have hr : Rt E X (some .boolean) 0 0 (fun v_ w_ => ∃ zr : Int32, (zr = 0 ∨ zr = 1) ∧ v_ = some (.int zr) ∧ w_ = []) := hr
  show G E X 1 [] 0 0 [(0, .int t)] 0 []
  refine g_iload_n B dX7_isTerm_0 rfl 0 rfl ?_
  refine g_iconst (v := 1) B dX7_isTerm_1 (by decide) ?_
  refine g_icmp_lt (tgt := 11) B dX7_isTerm_2 (by decide) (fun c2_238 => ?_) (fun c2_238 => ?_)
  · refine g_iload_n B dX7_isTerm_11 rfl 0 rfl ?_
    refine g_bipush (v := 17) B dX7_isTerm_12 (by decide) ?_
    refine g_icmp_eq (tgt := 34) B dX7_isTerm_14 (by decide) (fun c14_239 => ?_) (fun c14_239 => ?_)
    · refine g_iconst (v := 1) B dX7_isTerm_34 (by decide) ?_
      refine g_goto (tgt := 39) B dX7_isTerm_35 (by decide) ?_
      exact g_zret B hr (by decide) dX7_isTerm_39 (by decide) (by decide) ⟨1, (Or.inr rfl), rfl, rfl⟩
    · refine g_iload_n B dX7_isTerm_17 rfl 0 rfl ?_
      refine g_bipush (v := 18) B dX7_isTerm_18 (by decide) ?_
      refine g_icmp_eq (tgt := 34) B dX7_isTerm_20 (by decide) (fun c20_240 => ?_) (fun c20_240 => ?_)
      · refine g_iconst (v := 1) B dX7_isTerm_34 (by decide) ?_
        refine g_goto (tgt := 39) B dX7_isTerm_35 (by decide) ?_
        exact g_zret B hr (by decide) dX7_isTerm_39 (by decide) (by decide) ⟨1, (Or.inr rfl), rfl, rfl⟩
      · refine g_iload_n B dX7_isTerm_23 rfl 0 rfl ?_
        refine g_iconst (v := (-1)) B dX7_isTerm_24 (by decide) ?_
        refine g_icmp_eq (tgt := 34) B dX7_isTerm_25 (by decide) (fun c25_241 => ?_) (fun c25_241 => ?_)
        · refine g_iconst (v := 1) B dX7_isTerm_34 (by decide) ?_
          refine g_goto (tgt := 39) B dX7_isTerm_35 (by decide) ?_
          exact g_zret B hr (by decide) dX7_isTerm_39 (by decide) (by decide) ⟨1, (Or.inr rfl), rfl, rfl⟩
        · refine g_iload_n B dX7_isTerm_28 rfl 0 rfl ?_
          refine g_bipush (v := (-3)) B dX7_isTerm_29 (by decide) ?_
          refine g_icmp_ne (tgt := 38) B dX7_isTerm_31 (by decide) (fun c31_242 => ?_) (fun c31_242 => ?_)
          · refine g_iconst (v := 0) B dX7_isTerm_38 (by decide) ?_
            exact g_zret B hr (by decide) dX7_isTerm_39 (by decide) (by decide) ⟨0, (Or.inl rfl), rfl, rfl⟩
          · refine g_iconst (v := 1) B dX7_isTerm_34 (by decide) ?_
            refine g_goto (tgt := 39) B dX7_isTerm_35 (by decide) ?_
            exact g_zret B hr (by decide) dX7_isTerm_39 (by decide) (by decide) ⟨1, (Or.inr rfl), rfl, rfl⟩
  · refine g_iload_n B dX7_isTerm_5 rfl 0 rfl ?_
    refine g_bipush (v := 8) B dX7_isTerm_6 (by decide) ?_
    refine g_icmp_le (tgt := 34) B dX7_isTerm_8 (by decide) (fun c8_243 => ?_) (fun c8_243 => ?_)
    · refine g_iconst (v := 1) B dX7_isTerm_34 (by decide) ?_
      refine g_goto (tgt := 39) B dX7_isTerm_35 (by decide) ?_
      exact g_zret B hr (by decide) dX7_isTerm_39 (by decide) (by decide) ⟨1, (Or.inr rfl), rfl, rfl⟩
    · refine g_iload_n B dX7_isTerm_11 rfl 0 rfl ?_
      refine g_bipush (v := 17) B dX7_isTerm_12 (by decide) ?_
      refine g_icmp_eq (tgt := 34) B dX7_isTerm_14 (by decide) (fun c14_244 => ?_) (fun c14_244 => ?_)
      · refine g_iconst (v := 1) B dX7_isTerm_34 (by decide) ?_
        refine g_goto (tgt := 39) B dX7_isTerm_35 (by decide) ?_
        exact g_zret B hr (by decide) dX7_isTerm_39 (by decide) (by decide) ⟨1, (Or.inr rfl), rfl, rfl⟩
      · refine g_iload_n B dX7_isTerm_17 rfl 0 rfl ?_
        refine g_bipush (v := 18) B dX7_isTerm_18 (by decide) ?_
        refine g_icmp_eq (tgt := 34) B dX7_isTerm_20 (by decide) (fun c20_245 => ?_) (fun c20_245 => ?_)
        · refine g_iconst (v := 1) B dX7_isTerm_34 (by decide) ?_
          refine g_goto (tgt := 39) B dX7_isTerm_35 (by decide) ?_
          exact g_zret B hr (by decide) dX7_isTerm_39 (by decide) (by decide) ⟨1, (Or.inr rfl), rfl, rfl⟩
        · refine g_iload_n B dX7_isTerm_23 rfl 0 rfl ?_
          refine g_iconst (v := (-1)) B dX7_isTerm_24 (by decide) ?_
          refine g_icmp_eq (tgt := 34) B dX7_isTerm_25 (by decide) (fun c25_246 => ?_) (fun c25_246 => ?_)
          · refine g_iconst (v := 1) B dX7_isTerm_34 (by decide) ?_
            refine g_goto (tgt := 39) B dX7_isTerm_35 (by decide) ?_
            exact g_zret B hr (by decide) dX7_isTerm_39 (by decide) (by decide) ⟨1, (Or.inr rfl), rfl, rfl⟩
          · refine g_iload_n B dX7_isTerm_28 rfl 0 rfl ?_
            refine g_bipush (v := (-3)) B dX7_isTerm_29 (by decide) ?_
            refine g_icmp_ne (tgt := 38) B dX7_isTerm_31 (by decide) (fun c31_247 => ?_) (fun c31_247 => ?_)
            · refine g_iconst (v := 0) B dX7_isTerm_38 (by decide) ?_
              exact g_zret B hr (by decide) dX7_isTerm_39 (by decide) (by decide) ⟨0, (Or.inl rfl), rfl, rfl⟩
            · refine g_iconst (v := 1) B dX7_isTerm_34 (by decide) ?_
              refine g_goto (tgt := 39) B dX7_isTerm_35 (by decide) ?_
              exact g_zret B hr (by decide) dX7_isTerm_39 (by decide) (by decide) ⟨1, (Or.inr rfl), rfl, rfl⟩
abbrev MX7_add : g_M := (yX7_add, cX7_add, 3, (some .boolean))
theorem dX7_add_0 : decode cX7_add 0 = .ok (.aload_n 0, 1) := by decide +kernel
theorem dX7_add_1 : decode cX7_add 1 = .ok (.getfield 18, 3) := by decide +kernel
theorem dX7_add_4 : decode cX7_add 4 = .ok (.ifCond .lt 30, 3) := by decide +kernel
theorem dX7_add_34 : decode cX7_add 34 = .ok (.iconst 0, 1) := by decide +kernel
theorem dX7_add_35 : decode cX7_add 35 = .ok (.ireturn, 1) := by decide +kernel
theorem dX7_add_7 : decode cX7_add 7 = .ok (.aload_n 0, 1) := by decide +kernel
theorem dX7_add_8 : decode cX7_add 8 = .ok (.getfield 18, 3) := by decide +kernel
theorem dX7_add_11 : decode cX7_add 11 = .ok (.bipush 8, 2) := by decide +kernel
theorem dX7_add_13 : decode cX7_add 13 = .ok (.if_icmp .ge 21, 3) := by decide +kernel
theorem dX7_add_16 : decode cX7_add 16 = .ok (.iload_n 1, 1) := by decide +kernel
theorem dX7_add_17 : decode cX7_add 17 = .ok (.invokestatic 22, 3) := by decide +kernel
theorem w_ml_X7_22 : Cond.methodLink RX7 22 yX7_isTerm ∈ g_tbl := g_tbl_in 424 (by decide +kernel) (by decide +kernel)
theorem w_cd_X7_isTerm : g_cw MX7_isTerm ∈ g_tbl := g_tbl_in 426 (by decide +kernel) (by decide +kernel)
theorem cl_X7_22 : CL RX7 22 1 MX7_isTerm := ⟨w_ml_X7_22, w_cd_X7_isTerm, w_ini_X7, by decide +kernel, by decide +kernel, by decide +kernel⟩
theorem w_sm_X7_isTerm : Cond.static yX7_isTerm ∈ g_tbl := g_tbl_in 425 (by decide +kernel) (by decide +kernel)
theorem dX7_add_20 : decode cX7_add 20 = .ok (.ifCond .eq 14, 3) := by decide +kernel
theorem dX7_add_23 : decode cX7_add 23 = .ok (.iload_n 2, 1) := by decide +kernel
theorem dX7_add_24 : decode cX7_add 24 = .ok (.iconst 1, 1) := by decide +kernel
theorem dX7_add_25 : decode cX7_add 25 = .ok (.if_icmp .lt 9, 3) := by decide +kernel
theorem dX7_add_28 : decode cX7_add 28 = .ok (.iload_n 2, 1) := by decide +kernel
theorem dX7_add_29 : decode cX7_add 29 = .ok (.bipush 7, 2) := by decide +kernel
theorem dX7_add_31 : decode cX7_add 31 = .ok (.if_icmp .le 5, 3) := by decide +kernel
theorem dX7_add_36 : decode cX7_add 36 = .ok (.aload_n 0, 1) := by decide +kernel
theorem dX7_add_37 : decode cX7_add 37 = .ok (.getfield 9, 3) := by decide +kernel
theorem dX7_add_40 : decode cX7_add 40 = .ok (.aload_n 0, 1) := by decide +kernel
theorem dX7_add_41 : decode cX7_add 41 = .ok (.getfield 18, 3) := by decide +kernel
theorem dX7_add_44 : decode cX7_add 44 = .ok (.iload_n 1, 1) := by decide +kernel
theorem dX7_add_45 : decode cX7_add 45 = .ok (.iastore, 1) := by decide +kernel
theorem dX7_add_46 : decode cX7_add 46 = .ok (.aload_n 0, 1) := by decide +kernel
theorem dX7_add_47 : decode cX7_add 47 = .ok (.getfield 15, 3) := by decide +kernel
theorem dX7_add_50 : decode cX7_add 50 = .ok (.aload_n 0, 1) := by decide +kernel
theorem dX7_add_51 : decode cX7_add 51 = .ok (.getfield 18, 3) := by decide +kernel
theorem dX7_add_54 : decode cX7_add 54 = .ok (.iload_n 2, 1) := by decide +kernel
theorem dX7_add_55 : decode cX7_add 55 = .ok (.iastore, 1) := by decide +kernel
theorem dX7_add_56 : decode cX7_add 56 = .ok (.aload_n 0, 1) := by decide +kernel
theorem dX7_add_57 : decode cX7_add 57 = .ok (.dup, 1) := by decide +kernel
theorem dX7_add_58 : decode cX7_add 58 = .ok (.getfield 18, 3) := by decide +kernel
theorem dX7_add_61 : decode cX7_add 61 = .ok (.iconst 1, 1) := by decide +kernel
theorem dX7_add_62 : decode cX7_add 62 = .ok (.iadd, 1) := by decide +kernel
theorem dX7_add_63 : decode cX7_add 63 = .ok (.putfield 18, 3) := by decide +kernel
theorem dX7_add_66 : decode cX7_add 66 = .ok (.iconst 1, 1) := by decide +kernel
theorem dX7_add_67 : decode cX7_add 67 = .ok (.ireturn, 1) := by decide +kernel
set_option maxRecDepth 100000 in
set_option maxHeartbeats 4000000 in
theorem wk_X7_add (E : g_E) (p : Nat) (te : Nat) (de : Nat) (p_2 : Nat) (te_f : Nat → Int32) (de_f : Nat → Int32) (t : Int32) (d : Int32) (hp0 : p_2 ≤ 8) : Ev E MX7_add 1 20 0 0 [.ref p, .int t, .int d] [(p, .inr (7, [.ref te, .ref de, .int (nI p_2)])), (te, .inl (E.2.2.1 0, 8, .inl te_f)), (de, .inl (E.2.2.1 0, 8, .inl de_f))] (fun v_ w_ => ∃ zp_2 : Nat, ∃ zte_f : Nat → Int32, ∃ zde_f : Nat → Int32, ∃ zr : Int32, (zr = 0 ∨ zr = 1) ∧ (zp_2 ≤ 8) ∧ v_ = some (.int zr) ∧ w_ = [(p, .inr (7, [.ref te, .ref de, .int (nI zp_2)])), (te, .inl (E.2.2.1 0, 8, .inl zte_f)), (de, .inl (E.2.2.1 0, 8, .inl zde_f))]) := by
  refine Ev.intro (by decide) (Nat.le_of_ble_eq_true rfl) ?_
  intro X B hr hI
  have B : Bd E X cX7_add RX7 3 1 20 0 0 := B
  have hr : Rt E X (some .boolean) 0 0 (fun v_ w_ => ∃ zp_2 : Nat, ∃ zte_f : Nat → Int32, ∃ zde_f : Nat → Int32, ∃ zr : Int32, (zr = 0 ∨ zr = 1) ∧ (zp_2 ≤ 8) ∧ v_ = some (.int zr) ∧ w_ = [(p, .inr (7, [.ref te, .ref de, .int (nI zp_2)])), (te, .inl (E.2.2.1 0, 8, .inl zte_f)), (de, .inl (E.2.2.1 0, 8, .inl zde_f))]) := hr
  show G E X 3 [(p, .inr (7, [.ref te, .ref de, .int (nI p_2)])), (te, .inl (E.2.2.1 0, 8, .inl te_f)), (de, .inl (E.2.2.1 0, 8, .inl de_f))] 0 0 [(0, .ref p), (1, .int t), (2, .int d)] 0 []
  refine g_aload_n B dX7_add_0 rfl 0 rfl ?_
  refine g_get B 0 2 fl_X7_18 rfl rfl dX7_add_1 ?_
  refine g_if_lt (tgt := 34) B dX7_add_4 (by decide) (fun c4_248 => ?_) (fun c4_248 => ?_)
  · refine g_iconst (v := 0) B dX7_add_34 (by decide) ?_
    exact g_zret B hr (by decide) dX7_add_35 (by decide) (by decide) ⟨p_2, te_f, de_f, 0, (Or.inl rfl), (by first | assumption | omega | decide), rfl, rfl⟩
  · refine g_aload_n B dX7_add_7 rfl 0 rfl ?_
    refine g_get B 0 2 fl_X7_18 rfl rfl dX7_add_8 ?_
    refine g_bipush (v := 8) B dX7_add_11 (by decide) ?_
    refine g_icmp_ge (tgt := 34) B dX7_add_13 (by decide) (fun c13_249 => ?_) (fun c13_249 => ?_)
    · refine g_iconst (v := 0) B dX7_add_34 (by decide) ?_
      exact g_zret B hr (by decide) dX7_add_35 (by decide) (by decide) ⟨p_2, te_f, de_f, 0, (Or.inl rfl), (by first | assumption | omega | decide), rfl, rfl⟩
    · refine g_iload_n B dX7_add_16 rfl 1 rfl ?_
      refine g_callS (st := []) (As := [.int t]) (wr := [(p, .inr (7, [.ref te, .ref de, .int (nI p_2)])), (te, .inl (E.2.2.1 0, 8, .inl te_f)), (de, .inl (E.2.2.1 0, 8, .inl de_f))]) (nc' := 0) (ns' := 0) B cl_X7_22 w_sm_X7_isTerm (wk_X7_isTerm E t ) rfl [] [0, 1, 2] rfl rfl (by decide) (by decide) (by decide) ⟨by decide, by decide⟩ rfl rfl (by decide) (by decide) rfl (Nat.le_of_ble_eq_true rfl) dX7_add_17 (fun v w hq => ?_)
      obtain ⟨zr_250, hf_251, rfl, rfl⟩ := hq
      show G E X 3 [(p, .inr (7, [.ref te, .ref de, .int (nI p_2)])), (te, .inl (E.2.2.1 0, 8, .inl te_f)), (de, .inl (E.2.2.1 0, 8, .inl de_f))] 0 0 [(0, .ref p), (1, .int t), (2, .int d)] 20 [.int zr_250]
      refine g_if_eq (tgt := 34) B dX7_add_20 (by decide) (fun c20_252 => ?_) (fun c20_252 => ?_)
      · refine g_iconst (v := 0) B dX7_add_34 (by decide) ?_
        exact g_zret B hr (by decide) dX7_add_35 (by decide) (by decide) ⟨p_2, te_f, de_f, 0, (Or.inl rfl), (by first | assumption | omega | decide), rfl, rfl⟩
      · refine g_iload_n B dX7_add_23 rfl 2 rfl ?_
        refine g_iconst (v := 1) B dX7_add_24 (by decide) ?_
        refine g_icmp_lt (tgt := 34) B dX7_add_25 (by decide) (fun c25_253 => ?_) (fun c25_253 => ?_)
        · refine g_iconst (v := 0) B dX7_add_34 (by decide) ?_
          exact g_zret B hr (by decide) dX7_add_35 (by decide) (by decide) ⟨p_2, te_f, de_f, 0, (Or.inl rfl), (by first | assumption | omega | decide), rfl, rfl⟩
        · refine g_iload_n B dX7_add_28 rfl 2 rfl ?_
          refine g_bipush (v := 7) B dX7_add_29 (by decide) ?_
          refine g_icmp_le (tgt := 36) B dX7_add_31 (by decide) (fun c31_254 => ?_) (fun c31_254 => ?_)
          · refine g_aload_n B dX7_add_36 rfl 0 rfl ?_
            refine g_get B 0 0 fl_X7_9 rfl rfl dX7_add_37 ?_
            refine g_aload_n B dX7_add_40 rfl 0 rfl ?_
            refine g_get B 0 2 fl_X7_18 rfl rfl dX7_add_41 ?_
            refine g_iload_n B dX7_add_44 rfl 1 rfl ?_
            refine g_iast (ws' := [(p, .inr (7, [.ref te, .ref de, .int (nI p_2)])), (te, .inl (E.2.2.1 0, 8, .inl (upd te_f (Int32.toNatClampNeg (nI p_2)) t))), (de, .inl (E.2.2.1 0, 8, .inl de_f))]) B 1 rfl (in_lt (by decide) c4_248 (o_2 c13_249)) rfl dX7_add_45 ?_
            refine g_aload_n B dX7_add_46 rfl 0 rfl ?_
            refine g_get B 0 1 fl_X7_15 rfl rfl dX7_add_47 ?_
            refine g_aload_n B dX7_add_50 rfl 0 rfl ?_
            refine g_get B 0 2 fl_X7_18 rfl rfl dX7_add_51 ?_
            refine g_iload_n B dX7_add_54 rfl 2 rfl ?_
            refine g_iast (ws' := [(p, .inr (7, [.ref te, .ref de, .int (nI p_2)])), (te, .inl (E.2.2.1 0, 8, .inl (upd te_f (Int32.toNatClampNeg (nI p_2)) t))), (de, .inl (E.2.2.1 0, 8, .inl (upd de_f (Int32.toNatClampNeg (nI p_2)) d)))]) B 2 rfl (in_lt (by decide) c4_248 (o_2 c13_249)) rfl dX7_add_55 ?_
            refine g_aload_n B dX7_add_56 rfl 0 rfl ?_
            refine g_dup B dX7_add_57 rfl ?_
            refine g_get B 0 2 fl_X7_18 rfl rfl dX7_add_58 ?_
            refine g_iconst (v := 1) B dX7_add_61 (by decide) ?_
            refine g_iadd B dX7_add_62 ?_
            have hq1 : p_2 + 1 ≤ 8 := pl_lt hp0 c13_249
            refine g_ri (x' := nI (p_2 + 1)) (nI_1 p_2) ?_
            refine g_put (ws' := [(p, .inr (7, [.ref te, .ref de, .int (nI (p_2 + 1))])), (te, .inl (E.2.2.1 0, 8, .inl (upd te_f (Int32.toNatClampNeg (nI p_2)) t))), (de, .inl (E.2.2.1 0, 8, .inl (upd de_f (Int32.toNatClampNeg (nI p_2)) d)))]) B 0 2 fl_X7_18 pf_X7_2 rfl (Nat.le_of_ble_eq_true rfl) rfl rfl rfl dX7_add_63 ?_
            refine g_iconst (v := 1) B dX7_add_66 (by decide) ?_
            exact g_zret B hr (by decide) dX7_add_67 (by decide) (by decide) ⟨(p_2 + 1), (upd te_f (Int32.toNatClampNeg (nI p_2)) t), (upd de_f (Int32.toNatClampNeg (nI p_2)) d), 1, (Or.inr rfl), (by first | assumption | omega | decide), rfl, rfl⟩
          · refine g_iconst (v := 0) B dX7_add_34 (by decide) ?_
            exact g_zret B hr (by decide) dX7_add_35 (by decide) (by decide) ⟨p_2, te_f, de_f, 0, (Or.inl rfl), (by first | assumption | omega | decide), rfl, rfl⟩
abbrev MX7_clear : g_M := (yX7_clear, cX7_clear, 1, none)
theorem dX7_clear_0 : decode cX7_clear 0 = .ok (.aload_n 0, 1) := by decide +kernel
theorem dX7_clear_1 : decode cX7_clear 1 = .ok (.iconst 0, 1) := by decide +kernel
theorem dX7_clear_2 : decode cX7_clear 2 = .ok (.putfield 18, 3) := by decide +kernel
theorem dX7_clear_5 : decode cX7_clear 5 = .ok (.return_, 1) := by decide +kernel
set_option maxRecDepth 100000 in
set_option maxHeartbeats 4000000 in
theorem wk_X7_clear (E : g_E) (p : Nat) (te : Nat) (de : Nat) (p_2 : Nat) (hp0 : p_2 ≤ 8) : Ev E MX7_clear 0 0 0 0 [.ref p] [(p, .inr (7, [.ref te, .ref de, .int (nI p_2)]))] (fun v_ w_ => ∃ zp_2 : Nat, (zp_2 ≤ 8) ∧ v_ = none ∧ w_ = [(p, .inr (7, [.ref te, .ref de, .int (nI zp_2)]))]) := by
  refine Ev.intro (by decide) (Nat.le_of_ble_eq_true rfl) ?_
  intro X B hr hI
  have B : Bd E X cX7_clear RX7 1 0 0 0 0 := B
  have hr : Rt E X none 0 0 (fun v_ w_ => ∃ zp_2 : Nat, (zp_2 ≤ 8) ∧ v_ = none ∧ w_ = [(p, .inr (7, [.ref te, .ref de, .int (nI zp_2)]))]) := hr
  show G E X 1 [(p, .inr (7, [.ref te, .ref de, .int (nI p_2)]))] 0 0 [(0, .ref p)] 0 []
  refine g_aload_n B dX7_clear_0 rfl 0 rfl ?_
  refine g_iconst (v := 0) B dX7_clear_1 (by decide) ?_
  refine g_put (ws' := [(p, .inr (7, [.ref te, .ref de, .int 0]))]) B 0 2 fl_X7_18 pf_X7_2 rfl (Nat.le_of_ble_eq_true rfl) rfl rfl rfl dX7_clear_2 ?_
  exact g_vret B hr dX7_clear_5 (by decide) (by decide) ⟨0, (by first | assumption | omega | decide), rfl, rfl⟩
abbrev MX7_copy : g_M := (yX7_copy, cX7_copy, 3, none)
theorem dX7_copy_0 : decode cX7_copy 0 = .ok (.iconst 0, 1) := by decide +kernel
theorem dX7_copy_1 : decode cX7_copy 1 = .ok (.istore_n 2, 1) := by decide +kernel
theorem dX7_copy_2 : decode cX7_copy 2 = .ok (.iload_n 2, 1) := by decide +kernel
theorem dX7_copy_3 : decode cX7_copy 3 = .ok (.bipush 8, 2) := by decide +kernel
theorem dX7_copy_5 : decode cX7_copy 5 = .ok (.if_icmp .ge 33, 3) := by decide +kernel
theorem dX7_copy_8 : decode cX7_copy 8 = .ok (.aload_n 0, 1) := by decide +kernel
theorem dX7_copy_9 : decode cX7_copy 9 = .ok (.getfield 9, 3) := by decide +kernel
theorem dX7_copy_12 : decode cX7_copy 12 = .ok (.iload_n 2, 1) := by decide +kernel
theorem dX7_copy_13 : decode cX7_copy 13 = .ok (.aload_n 1, 1) := by decide +kernel
theorem dX7_copy_14 : decode cX7_copy 14 = .ok (.getfield 9, 3) := by decide +kernel
theorem dX7_copy_17 : decode cX7_copy 17 = .ok (.iload_n 2, 1) := by decide +kernel
theorem dX7_copy_18 : decode cX7_copy 18 = .ok (.iaload, 1) := by decide +kernel
theorem dX7_copy_19 : decode cX7_copy 19 = .ok (.iastore, 1) := by decide +kernel
theorem dX7_copy_20 : decode cX7_copy 20 = .ok (.aload_n 0, 1) := by decide +kernel
theorem dX7_copy_21 : decode cX7_copy 21 = .ok (.getfield 15, 3) := by decide +kernel
theorem dX7_copy_24 : decode cX7_copy 24 = .ok (.iload_n 2, 1) := by decide +kernel
theorem dX7_copy_25 : decode cX7_copy 25 = .ok (.aload_n 1, 1) := by decide +kernel
theorem dX7_copy_26 : decode cX7_copy 26 = .ok (.getfield 15, 3) := by decide +kernel
theorem dX7_copy_29 : decode cX7_copy 29 = .ok (.iload_n 2, 1) := by decide +kernel
theorem dX7_copy_30 : decode cX7_copy 30 = .ok (.iaload, 1) := by decide +kernel
theorem dX7_copy_31 : decode cX7_copy 31 = .ok (.iastore, 1) := by decide +kernel
theorem dX7_copy_32 : decode cX7_copy 32 = .ok (.iinc 2 1, 3) := by decide +kernel
theorem dX7_copy_35 : decode cX7_copy 35 = .ok (.goto (-33), 3) := by decide +kernel
theorem dX7_copy_38 : decode cX7_copy 38 = .ok (.aload_n 0, 1) := by decide +kernel
theorem dX7_copy_39 : decode cX7_copy 39 = .ok (.aload_n 1, 1) := by decide +kernel
theorem dX7_copy_40 : decode cX7_copy 40 = .ok (.getfield 18, 3) := by decide +kernel
theorem dX7_copy_43 : decode cX7_copy 43 = .ok (.putfield 18, 3) := by decide +kernel
theorem dX7_copy_46 : decode cX7_copy 46 = .ok (.return_, 1) := by decide +kernel
set_option maxRecDepth 100000 in
set_option maxHeartbeats 4000000 in
theorem wk_X7_copy (E : g_E) (p : Nat) (te : Nat) (de : Nat) (p2 : Nat) (te2 : Nat) (de2 : Nat) (p_2 : Nat) (te_f : Nat → Int32) (de_f : Nat → Int32) (p2_2 : Nat) (te2_f : Nat → Int32) (de2_f : Nat → Int32) (hp0 : p_2 ≤ 8) (hp1 : p2_2 ≤ 8) : Ev E MX7_copy 0 0 0 0 [.ref p, .ref p2] [(p, .inr (7, [.ref te, .ref de, .int (nI p_2)])), (te, .inl (E.2.2.1 0, 8, .inl te_f)), (de, .inl (E.2.2.1 0, 8, .inl de_f)), (p2, .inr (7, [.ref te2, .ref de2, .int (nI p2_2)])), (te2, .inl (E.2.2.1 0, 8, .inl te2_f)), (de2, .inl (E.2.2.1 0, 8, .inl de2_f))] (fun v_ w_ => ∃ zp_2 : Nat, ∃ zte_f : Nat → Int32, ∃ zde_f : Nat → Int32, ∃ zp2_2 : Nat, ∃ zte2_f : Nat → Int32, ∃ zde2_f : Nat → Int32, (zp_2 ≤ 8) ∧ (zp2_2 ≤ 8) ∧ v_ = none ∧ w_ = [(p, .inr (7, [.ref te, .ref de, .int (nI zp_2)])), (te, .inl (E.2.2.1 0, 8, .inl zte_f)), (de, .inl (E.2.2.1 0, 8, .inl zde_f)), (p2, .inr (7, [.ref te2, .ref de2, .int (nI zp2_2)])), (te2, .inl (E.2.2.1 0, 8, .inl zte2_f)), (de2, .inl (E.2.2.1 0, 8, .inl zde2_f))]) := by
  refine Ev.intro (by decide) (Nat.le_of_ble_eq_true rfl) ?_
  intro X B hr hI
  have B : Bd E X cX7_copy RX7 3 0 0 0 0 := B
  have hr : Rt E X none 0 0 (fun v_ w_ => ∃ zp_2 : Nat, ∃ zte_f : Nat → Int32, ∃ zde_f : Nat → Int32, ∃ zp2_2 : Nat, ∃ zte2_f : Nat → Int32, ∃ zde2_f : Nat → Int32, (zp_2 ≤ 8) ∧ (zp2_2 ≤ 8) ∧ v_ = none ∧ w_ = [(p, .inr (7, [.ref te, .ref de, .int (nI zp_2)])), (te, .inl (E.2.2.1 0, 8, .inl zte_f)), (de, .inl (E.2.2.1 0, 8, .inl zde_f)), (p2, .inr (7, [.ref te2, .ref de2, .int (nI zp2_2)])), (te2, .inl (E.2.2.1 0, 8, .inl zte2_f)), (de2, .inl (E.2.2.1 0, 8, .inl zde2_f))]) := hr
  show G E X 3 [(p, .inr (7, [.ref te, .ref de, .int (nI p_2)])), (te, .inl (E.2.2.1 0, 8, .inl te_f)), (de, .inl (E.2.2.1 0, 8, .inl de_f)), (p2, .inr (7, [.ref te2, .ref de2, .int (nI p2_2)])), (te2, .inl (E.2.2.1 0, 8, .inl te2_f)), (de2, .inl (E.2.2.1 0, 8, .inl de2_f))] 0 0 [(0, .ref p), (1, .ref p2)] 0 []
  refine g_iconst (v := 0) B dX7_copy_0 (by decide) ?_
  refine g_istore_n (lv' := [(2, .int 0), (0, .ref p), (1, .ref p2)]) B dX7_copy_1 rfl (by decide) rfl ?_
  refine g_iload_n B dX7_copy_2 rfl 0 rfl ?_
  refine g_bipush (v := 8) B dX7_copy_3 (by decide) ?_
  refine g_icmp_ge (tgt := 38) B dX7_copy_5 (by decide) (fun h => absurd h (by decide)) (fun c5 => ?_)
  refine g_aload_n B dX7_copy_8 rfl 1 rfl ?_
  refine g_get B 0 0 fl_X7_9 rfl rfl dX7_copy_9 ?_
  refine g_iload_n B dX7_copy_12 rfl 0 rfl ?_
  refine g_aload_n B dX7_copy_13 rfl 2 rfl ?_
  refine g_get B 3 0 fl_X7_9 rfl rfl dX7_copy_14 ?_
  refine g_iload_n B dX7_copy_17 rfl 0 rfl ?_
  refine g_iald B 4 rfl (by unfold vp_in; decide) dX7_copy_18 ?_
  refine g_iast (ws' := [(p, .inr (7, [.ref te, .ref de, .int (nI p_2)])), (te, .inl (E.2.2.1 0, 8, .inl (upd te_f (Int32.toNatClampNeg 0) (te2_f (Int32.toNatClampNeg 0))))), (de, .inl (E.2.2.1 0, 8, .inl de_f)), (p2, .inr (7, [.ref te2, .ref de2, .int (nI p2_2)])), (te2, .inl (E.2.2.1 0, 8, .inl te2_f)), (de2, .inl (E.2.2.1 0, 8, .inl de2_f))]) B 1 rfl (by unfold vp_in; decide) rfl dX7_copy_19 ?_
  refine g_aload_n B dX7_copy_20 rfl 1 rfl ?_
  refine g_get B 0 1 fl_X7_15 rfl rfl dX7_copy_21 ?_
  refine g_iload_n B dX7_copy_24 rfl 0 rfl ?_
  refine g_aload_n B dX7_copy_25 rfl 2 rfl ?_
  refine g_get B 3 1 fl_X7_15 rfl rfl dX7_copy_26 ?_
  refine g_iload_n B dX7_copy_29 rfl 0 rfl ?_
  refine g_iald B 5 rfl (by unfold vp_in; decide) dX7_copy_30 ?_
  refine g_iast (ws' := [(p, .inr (7, [.ref te, .ref de, .int (nI p_2)])), (te, .inl (E.2.2.1 0, 8, .inl (upd te_f (Int32.toNatClampNeg 0) (te2_f (Int32.toNatClampNeg 0))))), (de, .inl (E.2.2.1 0, 8, .inl (upd de_f (Int32.toNatClampNeg 0) (de2_f (Int32.toNatClampNeg 0))))), (p2, .inr (7, [.ref te2, .ref de2, .int (nI p2_2)])), (te2, .inl (E.2.2.1 0, 8, .inl te2_f)), (de2, .inl (E.2.2.1 0, 8, .inl de2_f))]) B 2 rfl (by unfold vp_in; decide) rfl dX7_copy_31 ?_
  refine g_iinc (v := 1) (lv' := [(2, .int 1), (0, .ref p), (1, .ref p2)]) B dX7_copy_32 0 rfl (by decide) (by decide) rfl ?_
  refine g_goto (tgt := 2) B dX7_copy_35 (by decide) ?_
  refine g_iload_n B dX7_copy_2 rfl 0 rfl ?_
  refine g_bipush (v := 8) B dX7_copy_3 (by decide) ?_
  refine g_icmp_ge (tgt := 38) B dX7_copy_5 (by decide) (fun h => absurd h (by decide)) (fun c5 => ?_)
  refine g_aload_n B dX7_copy_8 rfl 1 rfl ?_
  refine g_get B 0 0 fl_X7_9 rfl rfl dX7_copy_9 ?_
  refine g_iload_n B dX7_copy_12 rfl 0 rfl ?_
  refine g_aload_n B dX7_copy_13 rfl 2 rfl ?_
  refine g_get B 3 0 fl_X7_9 rfl rfl dX7_copy_14 ?_
  refine g_iload_n B dX7_copy_17 rfl 0 rfl ?_
  refine g_iald B 4 rfl (by unfold vp_in; decide) dX7_copy_18 ?_
  refine g_iast (ws' := [(p, .inr (7, [.ref te, .ref de, .int (nI p_2)])), (te, .inl (E.2.2.1 0, 8, .inl (upd (upd te_f (Int32.toNatClampNeg 0) (te2_f (Int32.toNatClampNeg 0))) (Int32.toNatClampNeg 1) (te2_f (Int32.toNatClampNeg 1))))), (de, .inl (E.2.2.1 0, 8, .inl (upd de_f (Int32.toNatClampNeg 0) (de2_f (Int32.toNatClampNeg 0))))), (p2, .inr (7, [.ref te2, .ref de2, .int (nI p2_2)])), (te2, .inl (E.2.2.1 0, 8, .inl te2_f)), (de2, .inl (E.2.2.1 0, 8, .inl de2_f))]) B 1 rfl (by unfold vp_in; decide) rfl dX7_copy_19 ?_
  refine g_aload_n B dX7_copy_20 rfl 1 rfl ?_
  refine g_get B 0 1 fl_X7_15 rfl rfl dX7_copy_21 ?_
  refine g_iload_n B dX7_copy_24 rfl 0 rfl ?_
  refine g_aload_n B dX7_copy_25 rfl 2 rfl ?_
  refine g_get B 3 1 fl_X7_15 rfl rfl dX7_copy_26 ?_
  refine g_iload_n B dX7_copy_29 rfl 0 rfl ?_
  refine g_iald B 5 rfl (by unfold vp_in; decide) dX7_copy_30 ?_
  refine g_iast (ws' := [(p, .inr (7, [.ref te, .ref de, .int (nI p_2)])), (te, .inl (E.2.2.1 0, 8, .inl (upd (upd te_f (Int32.toNatClampNeg 0) (te2_f (Int32.toNatClampNeg 0))) (Int32.toNatClampNeg 1) (te2_f (Int32.toNatClampNeg 1))))), (de, .inl (E.2.2.1 0, 8, .inl (upd (upd de_f (Int32.toNatClampNeg 0) (de2_f (Int32.toNatClampNeg 0))) (Int32.toNatClampNeg 1) (de2_f (Int32.toNatClampNeg 1))))), (p2, .inr (7, [.ref te2, .ref de2, .int (nI p2_2)])), (te2, .inl (E.2.2.1 0, 8, .inl te2_f)), (de2, .inl (E.2.2.1 0, 8, .inl de2_f))]) B 2 rfl (by unfold vp_in; decide) rfl dX7_copy_31 ?_
  refine g_iinc (v := 2) (lv' := [(2, .int 2), (0, .ref p), (1, .ref p2)]) B dX7_copy_32 0 rfl (by decide) (by decide) rfl ?_
  refine g_goto (tgt := 2) B dX7_copy_35 (by decide) ?_
  refine g_iload_n B dX7_copy_2 rfl 0 rfl ?_
  refine g_bipush (v := 8) B dX7_copy_3 (by decide) ?_
  refine g_icmp_ge (tgt := 38) B dX7_copy_5 (by decide) (fun h => absurd h (by decide)) (fun c5 => ?_)
  refine g_aload_n B dX7_copy_8 rfl 1 rfl ?_
  refine g_get B 0 0 fl_X7_9 rfl rfl dX7_copy_9 ?_
  refine g_iload_n B dX7_copy_12 rfl 0 rfl ?_
  refine g_aload_n B dX7_copy_13 rfl 2 rfl ?_
  refine g_get B 3 0 fl_X7_9 rfl rfl dX7_copy_14 ?_
  refine g_iload_n B dX7_copy_17 rfl 0 rfl ?_
  refine g_iald B 4 rfl (by unfold vp_in; decide) dX7_copy_18 ?_
  refine g_iast (ws' := [(p, .inr (7, [.ref te, .ref de, .int (nI p_2)])), (te, .inl (E.2.2.1 0, 8, .inl (upd (upd (upd te_f (Int32.toNatClampNeg 0) (te2_f (Int32.toNatClampNeg 0))) (Int32.toNatClampNeg 1) (te2_f (Int32.toNatClampNeg 1))) (Int32.toNatClampNeg 2) (te2_f (Int32.toNatClampNeg 2))))), (de, .inl (E.2.2.1 0, 8, .inl (upd (upd de_f (Int32.toNatClampNeg 0) (de2_f (Int32.toNatClampNeg 0))) (Int32.toNatClampNeg 1) (de2_f (Int32.toNatClampNeg 1))))), (p2, .inr (7, [.ref te2, .ref de2, .int (nI p2_2)])), (te2, .inl (E.2.2.1 0, 8, .inl te2_f)), (de2, .inl (E.2.2.1 0, 8, .inl de2_f))]) B 1 rfl (by unfold vp_in; decide) rfl dX7_copy_19 ?_
  refine g_aload_n B dX7_copy_20 rfl 1 rfl ?_
  refine g_get B 0 1 fl_X7_15 rfl rfl dX7_copy_21 ?_
  refine g_iload_n B dX7_copy_24 rfl 0 rfl ?_
  refine g_aload_n B dX7_copy_25 rfl 2 rfl ?_
  refine g_get B 3 1 fl_X7_15 rfl rfl dX7_copy_26 ?_
  refine g_iload_n B dX7_copy_29 rfl 0 rfl ?_
  refine g_iald B 5 rfl (by unfold vp_in; decide) dX7_copy_30 ?_
  refine g_iast (ws' := [(p, .inr (7, [.ref te, .ref de, .int (nI p_2)])), (te, .inl (E.2.2.1 0, 8, .inl (upd (upd (upd te_f (Int32.toNatClampNeg 0) (te2_f (Int32.toNatClampNeg 0))) (Int32.toNatClampNeg 1) (te2_f (Int32.toNatClampNeg 1))) (Int32.toNatClampNeg 2) (te2_f (Int32.toNatClampNeg 2))))), (de, .inl (E.2.2.1 0, 8, .inl (upd (upd (upd de_f (Int32.toNatClampNeg 0) (de2_f (Int32.toNatClampNeg 0))) (Int32.toNatClampNeg 1) (de2_f (Int32.toNatClampNeg 1))) (Int32.toNatClampNeg 2) (de2_f (Int32.toNatClampNeg 2))))), (p2, .inr (7, [.ref te2, .ref de2, .int (nI p2_2)])), (te2, .inl (E.2.2.1 0, 8, .inl te2_f)), (de2, .inl (E.2.2.1 0, 8, .inl de2_f))]) B 2 rfl (by unfold vp_in; decide) rfl dX7_copy_31 ?_
  refine g_iinc (v := 3) (lv' := [(2, .int 3), (0, .ref p), (1, .ref p2)]) B dX7_copy_32 0 rfl (by decide) (by decide) rfl ?_
  refine g_goto (tgt := 2) B dX7_copy_35 (by decide) ?_
  refine g_iload_n B dX7_copy_2 rfl 0 rfl ?_
  refine g_bipush (v := 8) B dX7_copy_3 (by decide) ?_
  refine g_icmp_ge (tgt := 38) B dX7_copy_5 (by decide) (fun h => absurd h (by decide)) (fun c5 => ?_)
  refine g_aload_n B dX7_copy_8 rfl 1 rfl ?_
  refine g_get B 0 0 fl_X7_9 rfl rfl dX7_copy_9 ?_
  refine g_iload_n B dX7_copy_12 rfl 0 rfl ?_
  refine g_aload_n B dX7_copy_13 rfl 2 rfl ?_
  refine g_get B 3 0 fl_X7_9 rfl rfl dX7_copy_14 ?_
  refine g_iload_n B dX7_copy_17 rfl 0 rfl ?_
  refine g_iald B 4 rfl (by unfold vp_in; decide) dX7_copy_18 ?_
  refine g_iast (ws' := [(p, .inr (7, [.ref te, .ref de, .int (nI p_2)])), (te, .inl (E.2.2.1 0, 8, .inl (upd (upd (upd (upd te_f (Int32.toNatClampNeg 0) (te2_f (Int32.toNatClampNeg 0))) (Int32.toNatClampNeg 1) (te2_f (Int32.toNatClampNeg 1))) (Int32.toNatClampNeg 2) (te2_f (Int32.toNatClampNeg 2))) (Int32.toNatClampNeg 3) (te2_f (Int32.toNatClampNeg 3))))), (de, .inl (E.2.2.1 0, 8, .inl (upd (upd (upd de_f (Int32.toNatClampNeg 0) (de2_f (Int32.toNatClampNeg 0))) (Int32.toNatClampNeg 1) (de2_f (Int32.toNatClampNeg 1))) (Int32.toNatClampNeg 2) (de2_f (Int32.toNatClampNeg 2))))), (p2, .inr (7, [.ref te2, .ref de2, .int (nI p2_2)])), (te2, .inl (E.2.2.1 0, 8, .inl te2_f)), (de2, .inl (E.2.2.1 0, 8, .inl de2_f))]) B 1 rfl (by unfold vp_in; decide) rfl dX7_copy_19 ?_
  refine g_aload_n B dX7_copy_20 rfl 1 rfl ?_
  refine g_get B 0 1 fl_X7_15 rfl rfl dX7_copy_21 ?_
  refine g_iload_n B dX7_copy_24 rfl 0 rfl ?_
  refine g_aload_n B dX7_copy_25 rfl 2 rfl ?_
  refine g_get B 3 1 fl_X7_15 rfl rfl dX7_copy_26 ?_
  refine g_iload_n B dX7_copy_29 rfl 0 rfl ?_
  refine g_iald B 5 rfl (by unfold vp_in; decide) dX7_copy_30 ?_
  refine g_iast (ws' := [(p, .inr (7, [.ref te, .ref de, .int (nI p_2)])), (te, .inl (E.2.2.1 0, 8, .inl (upd (upd (upd (upd te_f (Int32.toNatClampNeg 0) (te2_f (Int32.toNatClampNeg 0))) (Int32.toNatClampNeg 1) (te2_f (Int32.toNatClampNeg 1))) (Int32.toNatClampNeg 2) (te2_f (Int32.toNatClampNeg 2))) (Int32.toNatClampNeg 3) (te2_f (Int32.toNatClampNeg 3))))), (de, .inl (E.2.2.1 0, 8, .inl (upd (upd (upd (upd de_f (Int32.toNatClampNeg 0) (de2_f (Int32.toNatClampNeg 0))) (Int32.toNatClampNeg 1) (de2_f (Int32.toNatClampNeg 1))) (Int32.toNatClampNeg 2) (de2_f (Int32.toNatClampNeg 2))) (Int32.toNatClampNeg 3) (de2_f (Int32.toNatClampNeg 3))))), (p2, .inr (7, [.ref te2, .ref de2, .int (nI p2_2)])), (te2, .inl (E.2.2.1 0, 8, .inl te2_f)), (de2, .inl (E.2.2.1 0, 8, .inl de2_f))]) B 2 rfl (by unfold vp_in; decide) rfl dX7_copy_31 ?_
  refine g_iinc (v := 4) (lv' := [(2, .int 4), (0, .ref p), (1, .ref p2)]) B dX7_copy_32 0 rfl (by decide) (by decide) rfl ?_
  refine g_goto (tgt := 2) B dX7_copy_35 (by decide) ?_
  refine g_iload_n B dX7_copy_2 rfl 0 rfl ?_
  refine g_bipush (v := 8) B dX7_copy_3 (by decide) ?_
  refine g_icmp_ge (tgt := 38) B dX7_copy_5 (by decide) (fun h => absurd h (by decide)) (fun c5 => ?_)
  refine g_aload_n B dX7_copy_8 rfl 1 rfl ?_
  refine g_get B 0 0 fl_X7_9 rfl rfl dX7_copy_9 ?_
  refine g_iload_n B dX7_copy_12 rfl 0 rfl ?_
  refine g_aload_n B dX7_copy_13 rfl 2 rfl ?_
  refine g_get B 3 0 fl_X7_9 rfl rfl dX7_copy_14 ?_
  refine g_iload_n B dX7_copy_17 rfl 0 rfl ?_
  refine g_iald B 4 rfl (by unfold vp_in; decide) dX7_copy_18 ?_
  refine g_iast (ws' := [(p, .inr (7, [.ref te, .ref de, .int (nI p_2)])), (te, .inl (E.2.2.1 0, 8, .inl (upd (upd (upd (upd (upd te_f (Int32.toNatClampNeg 0) (te2_f (Int32.toNatClampNeg 0))) (Int32.toNatClampNeg 1) (te2_f (Int32.toNatClampNeg 1))) (Int32.toNatClampNeg 2) (te2_f (Int32.toNatClampNeg 2))) (Int32.toNatClampNeg 3) (te2_f (Int32.toNatClampNeg 3))) (Int32.toNatClampNeg 4) (te2_f (Int32.toNatClampNeg 4))))), (de, .inl (E.2.2.1 0, 8, .inl (upd (upd (upd (upd de_f (Int32.toNatClampNeg 0) (de2_f (Int32.toNatClampNeg 0))) (Int32.toNatClampNeg 1) (de2_f (Int32.toNatClampNeg 1))) (Int32.toNatClampNeg 2) (de2_f (Int32.toNatClampNeg 2))) (Int32.toNatClampNeg 3) (de2_f (Int32.toNatClampNeg 3))))), (p2, .inr (7, [.ref te2, .ref de2, .int (nI p2_2)])), (te2, .inl (E.2.2.1 0, 8, .inl te2_f)), (de2, .inl (E.2.2.1 0, 8, .inl de2_f))]) B 1 rfl (by unfold vp_in; decide) rfl dX7_copy_19 ?_
  refine g_aload_n B dX7_copy_20 rfl 1 rfl ?_
  refine g_get B 0 1 fl_X7_15 rfl rfl dX7_copy_21 ?_
  refine g_iload_n B dX7_copy_24 rfl 0 rfl ?_
  refine g_aload_n B dX7_copy_25 rfl 2 rfl ?_
  refine g_get B 3 1 fl_X7_15 rfl rfl dX7_copy_26 ?_
  refine g_iload_n B dX7_copy_29 rfl 0 rfl ?_
  refine g_iald B 5 rfl (by unfold vp_in; decide) dX7_copy_30 ?_
  refine g_iast (ws' := [(p, .inr (7, [.ref te, .ref de, .int (nI p_2)])), (te, .inl (E.2.2.1 0, 8, .inl (upd (upd (upd (upd (upd te_f (Int32.toNatClampNeg 0) (te2_f (Int32.toNatClampNeg 0))) (Int32.toNatClampNeg 1) (te2_f (Int32.toNatClampNeg 1))) (Int32.toNatClampNeg 2) (te2_f (Int32.toNatClampNeg 2))) (Int32.toNatClampNeg 3) (te2_f (Int32.toNatClampNeg 3))) (Int32.toNatClampNeg 4) (te2_f (Int32.toNatClampNeg 4))))), (de, .inl (E.2.2.1 0, 8, .inl (upd (upd (upd (upd (upd de_f (Int32.toNatClampNeg 0) (de2_f (Int32.toNatClampNeg 0))) (Int32.toNatClampNeg 1) (de2_f (Int32.toNatClampNeg 1))) (Int32.toNatClampNeg 2) (de2_f (Int32.toNatClampNeg 2))) (Int32.toNatClampNeg 3) (de2_f (Int32.toNatClampNeg 3))) (Int32.toNatClampNeg 4) (de2_f (Int32.toNatClampNeg 4))))), (p2, .inr (7, [.ref te2, .ref de2, .int (nI p2_2)])), (te2, .inl (E.2.2.1 0, 8, .inl te2_f)), (de2, .inl (E.2.2.1 0, 8, .inl de2_f))]) B 2 rfl (by unfold vp_in; decide) rfl dX7_copy_31 ?_
  refine g_iinc (v := 5) (lv' := [(2, .int 5), (0, .ref p), (1, .ref p2)]) B dX7_copy_32 0 rfl (by decide) (by decide) rfl ?_
  refine g_goto (tgt := 2) B dX7_copy_35 (by decide) ?_
  refine g_iload_n B dX7_copy_2 rfl 0 rfl ?_
  refine g_bipush (v := 8) B dX7_copy_3 (by decide) ?_
  refine g_icmp_ge (tgt := 38) B dX7_copy_5 (by decide) (fun h => absurd h (by decide)) (fun c5 => ?_)
  refine g_aload_n B dX7_copy_8 rfl 1 rfl ?_
  refine g_get B 0 0 fl_X7_9 rfl rfl dX7_copy_9 ?_
  refine g_iload_n B dX7_copy_12 rfl 0 rfl ?_
  refine g_aload_n B dX7_copy_13 rfl 2 rfl ?_
  refine g_get B 3 0 fl_X7_9 rfl rfl dX7_copy_14 ?_
  refine g_iload_n B dX7_copy_17 rfl 0 rfl ?_
  refine g_iald B 4 rfl (by unfold vp_in; decide) dX7_copy_18 ?_
  refine g_iast (ws' := [(p, .inr (7, [.ref te, .ref de, .int (nI p_2)])), (te, .inl (E.2.2.1 0, 8, .inl (upd (upd (upd (upd (upd (upd te_f (Int32.toNatClampNeg 0) (te2_f (Int32.toNatClampNeg 0))) (Int32.toNatClampNeg 1) (te2_f (Int32.toNatClampNeg 1))) (Int32.toNatClampNeg 2) (te2_f (Int32.toNatClampNeg 2))) (Int32.toNatClampNeg 3) (te2_f (Int32.toNatClampNeg 3))) (Int32.toNatClampNeg 4) (te2_f (Int32.toNatClampNeg 4))) (Int32.toNatClampNeg 5) (te2_f (Int32.toNatClampNeg 5))))), (de, .inl (E.2.2.1 0, 8, .inl (upd (upd (upd (upd (upd de_f (Int32.toNatClampNeg 0) (de2_f (Int32.toNatClampNeg 0))) (Int32.toNatClampNeg 1) (de2_f (Int32.toNatClampNeg 1))) (Int32.toNatClampNeg 2) (de2_f (Int32.toNatClampNeg 2))) (Int32.toNatClampNeg 3) (de2_f (Int32.toNatClampNeg 3))) (Int32.toNatClampNeg 4) (de2_f (Int32.toNatClampNeg 4))))), (p2, .inr (7, [.ref te2, .ref de2, .int (nI p2_2)])), (te2, .inl (E.2.2.1 0, 8, .inl te2_f)), (de2, .inl (E.2.2.1 0, 8, .inl de2_f))]) B 1 rfl (by unfold vp_in; decide) rfl dX7_copy_19 ?_
  refine g_aload_n B dX7_copy_20 rfl 1 rfl ?_
  refine g_get B 0 1 fl_X7_15 rfl rfl dX7_copy_21 ?_
  refine g_iload_n B dX7_copy_24 rfl 0 rfl ?_
  refine g_aload_n B dX7_copy_25 rfl 2 rfl ?_
  refine g_get B 3 1 fl_X7_15 rfl rfl dX7_copy_26 ?_
  refine g_iload_n B dX7_copy_29 rfl 0 rfl ?_
  refine g_iald B 5 rfl (by unfold vp_in; decide) dX7_copy_30 ?_
  refine g_iast (ws' := [(p, .inr (7, [.ref te, .ref de, .int (nI p_2)])), (te, .inl (E.2.2.1 0, 8, .inl (upd (upd (upd (upd (upd (upd te_f (Int32.toNatClampNeg 0) (te2_f (Int32.toNatClampNeg 0))) (Int32.toNatClampNeg 1) (te2_f (Int32.toNatClampNeg 1))) (Int32.toNatClampNeg 2) (te2_f (Int32.toNatClampNeg 2))) (Int32.toNatClampNeg 3) (te2_f (Int32.toNatClampNeg 3))) (Int32.toNatClampNeg 4) (te2_f (Int32.toNatClampNeg 4))) (Int32.toNatClampNeg 5) (te2_f (Int32.toNatClampNeg 5))))), (de, .inl (E.2.2.1 0, 8, .inl (upd (upd (upd (upd (upd (upd de_f (Int32.toNatClampNeg 0) (de2_f (Int32.toNatClampNeg 0))) (Int32.toNatClampNeg 1) (de2_f (Int32.toNatClampNeg 1))) (Int32.toNatClampNeg 2) (de2_f (Int32.toNatClampNeg 2))) (Int32.toNatClampNeg 3) (de2_f (Int32.toNatClampNeg 3))) (Int32.toNatClampNeg 4) (de2_f (Int32.toNatClampNeg 4))) (Int32.toNatClampNeg 5) (de2_f (Int32.toNatClampNeg 5))))), (p2, .inr (7, [.ref te2, .ref de2, .int (nI p2_2)])), (te2, .inl (E.2.2.1 0, 8, .inl te2_f)), (de2, .inl (E.2.2.1 0, 8, .inl de2_f))]) B 2 rfl (by unfold vp_in; decide) rfl dX7_copy_31 ?_
  refine g_iinc (v := 6) (lv' := [(2, .int 6), (0, .ref p), (1, .ref p2)]) B dX7_copy_32 0 rfl (by decide) (by decide) rfl ?_
  refine g_goto (tgt := 2) B dX7_copy_35 (by decide) ?_
  refine g_iload_n B dX7_copy_2 rfl 0 rfl ?_
  refine g_bipush (v := 8) B dX7_copy_3 (by decide) ?_
  refine g_icmp_ge (tgt := 38) B dX7_copy_5 (by decide) (fun h => absurd h (by decide)) (fun c5 => ?_)
  refine g_aload_n B dX7_copy_8 rfl 1 rfl ?_
  refine g_get B 0 0 fl_X7_9 rfl rfl dX7_copy_9 ?_
  refine g_iload_n B dX7_copy_12 rfl 0 rfl ?_
  refine g_aload_n B dX7_copy_13 rfl 2 rfl ?_
  refine g_get B 3 0 fl_X7_9 rfl rfl dX7_copy_14 ?_
  refine g_iload_n B dX7_copy_17 rfl 0 rfl ?_
  refine g_iald B 4 rfl (by unfold vp_in; decide) dX7_copy_18 ?_
  refine g_iast (ws' := [(p, .inr (7, [.ref te, .ref de, .int (nI p_2)])), (te, .inl (E.2.2.1 0, 8, .inl (upd (upd (upd (upd (upd (upd (upd te_f (Int32.toNatClampNeg 0) (te2_f (Int32.toNatClampNeg 0))) (Int32.toNatClampNeg 1) (te2_f (Int32.toNatClampNeg 1))) (Int32.toNatClampNeg 2) (te2_f (Int32.toNatClampNeg 2))) (Int32.toNatClampNeg 3) (te2_f (Int32.toNatClampNeg 3))) (Int32.toNatClampNeg 4) (te2_f (Int32.toNatClampNeg 4))) (Int32.toNatClampNeg 5) (te2_f (Int32.toNatClampNeg 5))) (Int32.toNatClampNeg 6) (te2_f (Int32.toNatClampNeg 6))))), (de, .inl (E.2.2.1 0, 8, .inl (upd (upd (upd (upd (upd (upd de_f (Int32.toNatClampNeg 0) (de2_f (Int32.toNatClampNeg 0))) (Int32.toNatClampNeg 1) (de2_f (Int32.toNatClampNeg 1))) (Int32.toNatClampNeg 2) (de2_f (Int32.toNatClampNeg 2))) (Int32.toNatClampNeg 3) (de2_f (Int32.toNatClampNeg 3))) (Int32.toNatClampNeg 4) (de2_f (Int32.toNatClampNeg 4))) (Int32.toNatClampNeg 5) (de2_f (Int32.toNatClampNeg 5))))), (p2, .inr (7, [.ref te2, .ref de2, .int (nI p2_2)])), (te2, .inl (E.2.2.1 0, 8, .inl te2_f)), (de2, .inl (E.2.2.1 0, 8, .inl de2_f))]) B 1 rfl (by unfold vp_in; decide) rfl dX7_copy_19 ?_
  refine g_aload_n B dX7_copy_20 rfl 1 rfl ?_
  refine g_get B 0 1 fl_X7_15 rfl rfl dX7_copy_21 ?_
  refine g_iload_n B dX7_copy_24 rfl 0 rfl ?_
  refine g_aload_n B dX7_copy_25 rfl 2 rfl ?_
  refine g_get B 3 1 fl_X7_15 rfl rfl dX7_copy_26 ?_
  refine g_iload_n B dX7_copy_29 rfl 0 rfl ?_
  refine g_iald B 5 rfl (by unfold vp_in; decide) dX7_copy_30 ?_
  refine g_iast (ws' := [(p, .inr (7, [.ref te, .ref de, .int (nI p_2)])), (te, .inl (E.2.2.1 0, 8, .inl (upd (upd (upd (upd (upd (upd (upd te_f (Int32.toNatClampNeg 0) (te2_f (Int32.toNatClampNeg 0))) (Int32.toNatClampNeg 1) (te2_f (Int32.toNatClampNeg 1))) (Int32.toNatClampNeg 2) (te2_f (Int32.toNatClampNeg 2))) (Int32.toNatClampNeg 3) (te2_f (Int32.toNatClampNeg 3))) (Int32.toNatClampNeg 4) (te2_f (Int32.toNatClampNeg 4))) (Int32.toNatClampNeg 5) (te2_f (Int32.toNatClampNeg 5))) (Int32.toNatClampNeg 6) (te2_f (Int32.toNatClampNeg 6))))), (de, .inl (E.2.2.1 0, 8, .inl (upd (upd (upd (upd (upd (upd (upd de_f (Int32.toNatClampNeg 0) (de2_f (Int32.toNatClampNeg 0))) (Int32.toNatClampNeg 1) (de2_f (Int32.toNatClampNeg 1))) (Int32.toNatClampNeg 2) (de2_f (Int32.toNatClampNeg 2))) (Int32.toNatClampNeg 3) (de2_f (Int32.toNatClampNeg 3))) (Int32.toNatClampNeg 4) (de2_f (Int32.toNatClampNeg 4))) (Int32.toNatClampNeg 5) (de2_f (Int32.toNatClampNeg 5))) (Int32.toNatClampNeg 6) (de2_f (Int32.toNatClampNeg 6))))), (p2, .inr (7, [.ref te2, .ref de2, .int (nI p2_2)])), (te2, .inl (E.2.2.1 0, 8, .inl te2_f)), (de2, .inl (E.2.2.1 0, 8, .inl de2_f))]) B 2 rfl (by unfold vp_in; decide) rfl dX7_copy_31 ?_
  refine g_iinc (v := 7) (lv' := [(2, .int 7), (0, .ref p), (1, .ref p2)]) B dX7_copy_32 0 rfl (by decide) (by decide) rfl ?_
  refine g_goto (tgt := 2) B dX7_copy_35 (by decide) ?_
  refine g_iload_n B dX7_copy_2 rfl 0 rfl ?_
  refine g_bipush (v := 8) B dX7_copy_3 (by decide) ?_
  refine g_icmp_ge (tgt := 38) B dX7_copy_5 (by decide) (fun h => absurd h (by decide)) (fun c5 => ?_)
  refine g_aload_n B dX7_copy_8 rfl 1 rfl ?_
  refine g_get B 0 0 fl_X7_9 rfl rfl dX7_copy_9 ?_
  refine g_iload_n B dX7_copy_12 rfl 0 rfl ?_
  refine g_aload_n B dX7_copy_13 rfl 2 rfl ?_
  refine g_get B 3 0 fl_X7_9 rfl rfl dX7_copy_14 ?_
  refine g_iload_n B dX7_copy_17 rfl 0 rfl ?_
  refine g_iald B 4 rfl (by unfold vp_in; decide) dX7_copy_18 ?_
  refine g_iast (ws' := [(p, .inr (7, [.ref te, .ref de, .int (nI p_2)])), (te, .inl (E.2.2.1 0, 8, .inl (upd (upd (upd (upd (upd (upd (upd (upd te_f (Int32.toNatClampNeg 0) (te2_f (Int32.toNatClampNeg 0))) (Int32.toNatClampNeg 1) (te2_f (Int32.toNatClampNeg 1))) (Int32.toNatClampNeg 2) (te2_f (Int32.toNatClampNeg 2))) (Int32.toNatClampNeg 3) (te2_f (Int32.toNatClampNeg 3))) (Int32.toNatClampNeg 4) (te2_f (Int32.toNatClampNeg 4))) (Int32.toNatClampNeg 5) (te2_f (Int32.toNatClampNeg 5))) (Int32.toNatClampNeg 6) (te2_f (Int32.toNatClampNeg 6))) (Int32.toNatClampNeg 7) (te2_f (Int32.toNatClampNeg 7))))), (de, .inl (E.2.2.1 0, 8, .inl (upd (upd (upd (upd (upd (upd (upd de_f (Int32.toNatClampNeg 0) (de2_f (Int32.toNatClampNeg 0))) (Int32.toNatClampNeg 1) (de2_f (Int32.toNatClampNeg 1))) (Int32.toNatClampNeg 2) (de2_f (Int32.toNatClampNeg 2))) (Int32.toNatClampNeg 3) (de2_f (Int32.toNatClampNeg 3))) (Int32.toNatClampNeg 4) (de2_f (Int32.toNatClampNeg 4))) (Int32.toNatClampNeg 5) (de2_f (Int32.toNatClampNeg 5))) (Int32.toNatClampNeg 6) (de2_f (Int32.toNatClampNeg 6))))), (p2, .inr (7, [.ref te2, .ref de2, .int (nI p2_2)])), (te2, .inl (E.2.2.1 0, 8, .inl te2_f)), (de2, .inl (E.2.2.1 0, 8, .inl de2_f))]) B 1 rfl (by unfold vp_in; decide) rfl dX7_copy_19 ?_
  refine g_aload_n B dX7_copy_20 rfl 1 rfl ?_
  refine g_get B 0 1 fl_X7_15 rfl rfl dX7_copy_21 ?_
  refine g_iload_n B dX7_copy_24 rfl 0 rfl ?_
  refine g_aload_n B dX7_copy_25 rfl 2 rfl ?_
  refine g_get B 3 1 fl_X7_15 rfl rfl dX7_copy_26 ?_
  refine g_iload_n B dX7_copy_29 rfl 0 rfl ?_
  refine g_iald B 5 rfl (by unfold vp_in; decide) dX7_copy_30 ?_
  refine g_iast (ws' := [(p, .inr (7, [.ref te, .ref de, .int (nI p_2)])), (te, .inl (E.2.2.1 0, 8, .inl (upd (upd (upd (upd (upd (upd (upd (upd te_f (Int32.toNatClampNeg 0) (te2_f (Int32.toNatClampNeg 0))) (Int32.toNatClampNeg 1) (te2_f (Int32.toNatClampNeg 1))) (Int32.toNatClampNeg 2) (te2_f (Int32.toNatClampNeg 2))) (Int32.toNatClampNeg 3) (te2_f (Int32.toNatClampNeg 3))) (Int32.toNatClampNeg 4) (te2_f (Int32.toNatClampNeg 4))) (Int32.toNatClampNeg 5) (te2_f (Int32.toNatClampNeg 5))) (Int32.toNatClampNeg 6) (te2_f (Int32.toNatClampNeg 6))) (Int32.toNatClampNeg 7) (te2_f (Int32.toNatClampNeg 7))))), (de, .inl (E.2.2.1 0, 8, .inl (upd (upd (upd (upd (upd (upd (upd (upd de_f (Int32.toNatClampNeg 0) (de2_f (Int32.toNatClampNeg 0))) (Int32.toNatClampNeg 1) (de2_f (Int32.toNatClampNeg 1))) (Int32.toNatClampNeg 2) (de2_f (Int32.toNatClampNeg 2))) (Int32.toNatClampNeg 3) (de2_f (Int32.toNatClampNeg 3))) (Int32.toNatClampNeg 4) (de2_f (Int32.toNatClampNeg 4))) (Int32.toNatClampNeg 5) (de2_f (Int32.toNatClampNeg 5))) (Int32.toNatClampNeg 6) (de2_f (Int32.toNatClampNeg 6))) (Int32.toNatClampNeg 7) (de2_f (Int32.toNatClampNeg 7))))), (p2, .inr (7, [.ref te2, .ref de2, .int (nI p2_2)])), (te2, .inl (E.2.2.1 0, 8, .inl te2_f)), (de2, .inl (E.2.2.1 0, 8, .inl de2_f))]) B 2 rfl (by unfold vp_in; decide) rfl dX7_copy_31 ?_
  refine g_iinc (v := 8) (lv' := [(2, .int 8), (0, .ref p), (1, .ref p2)]) B dX7_copy_32 0 rfl (by decide) (by decide) rfl ?_
  refine g_goto (tgt := 2) B dX7_copy_35 (by decide) ?_
  refine g_iload_n B dX7_copy_2 rfl 0 rfl ?_
  refine g_bipush (v := 8) B dX7_copy_3 (by decide) ?_
  refine g_icmp_ge (tgt := 38) B dX7_copy_5 (by decide) (fun c5 => ?_) (fun h => absurd (by decide) h)
  refine g_aload_n B dX7_copy_38 rfl 1 rfl ?_
  refine g_aload_n B dX7_copy_39 rfl 2 rfl ?_
  refine g_get B 3 2 fl_X7_18 rfl rfl dX7_copy_40 ?_
  refine g_put (ws' := [(p, .inr (7, [.ref te, .ref de, .int (nI p2_2)])), (te, .inl (E.2.2.1 0, 8, .inl (upd (upd (upd (upd (upd (upd (upd (upd te_f (Int32.toNatClampNeg 0) (te2_f (Int32.toNatClampNeg 0))) (Int32.toNatClampNeg 1) (te2_f (Int32.toNatClampNeg 1))) (Int32.toNatClampNeg 2) (te2_f (Int32.toNatClampNeg 2))) (Int32.toNatClampNeg 3) (te2_f (Int32.toNatClampNeg 3))) (Int32.toNatClampNeg 4) (te2_f (Int32.toNatClampNeg 4))) (Int32.toNatClampNeg 5) (te2_f (Int32.toNatClampNeg 5))) (Int32.toNatClampNeg 6) (te2_f (Int32.toNatClampNeg 6))) (Int32.toNatClampNeg 7) (te2_f (Int32.toNatClampNeg 7))))), (de, .inl (E.2.2.1 0, 8, .inl (upd (upd (upd (upd (upd (upd (upd (upd de_f (Int32.toNatClampNeg 0) (de2_f (Int32.toNatClampNeg 0))) (Int32.toNatClampNeg 1) (de2_f (Int32.toNatClampNeg 1))) (Int32.toNatClampNeg 2) (de2_f (Int32.toNatClampNeg 2))) (Int32.toNatClampNeg 3) (de2_f (Int32.toNatClampNeg 3))) (Int32.toNatClampNeg 4) (de2_f (Int32.toNatClampNeg 4))) (Int32.toNatClampNeg 5) (de2_f (Int32.toNatClampNeg 5))) (Int32.toNatClampNeg 6) (de2_f (Int32.toNatClampNeg 6))) (Int32.toNatClampNeg 7) (de2_f (Int32.toNatClampNeg 7))))), (p2, .inr (7, [.ref te2, .ref de2, .int (nI p2_2)])), (te2, .inl (E.2.2.1 0, 8, .inl te2_f)), (de2, .inl (E.2.2.1 0, 8, .inl de2_f))]) B 0 2 fl_X7_18 pf_X7_2 rfl (Nat.le_of_ble_eq_true rfl) rfl rfl rfl dX7_copy_43 ?_
  exact g_vret B hr dX7_copy_46 (by decide) (by decide) ⟨p2_2, (upd (upd (upd (upd (upd (upd (upd (upd te_f (Int32.toNatClampNeg 0) (te2_f (Int32.toNatClampNeg 0))) (Int32.toNatClampNeg 1) (te2_f (Int32.toNatClampNeg 1))) (Int32.toNatClampNeg 2) (te2_f (Int32.toNatClampNeg 2))) (Int32.toNatClampNeg 3) (te2_f (Int32.toNatClampNeg 3))) (Int32.toNatClampNeg 4) (te2_f (Int32.toNatClampNeg 4))) (Int32.toNatClampNeg 5) (te2_f (Int32.toNatClampNeg 5))) (Int32.toNatClampNeg 6) (te2_f (Int32.toNatClampNeg 6))) (Int32.toNatClampNeg 7) (te2_f (Int32.toNatClampNeg 7))), (upd (upd (upd (upd (upd (upd (upd (upd de_f (Int32.toNatClampNeg 0) (de2_f (Int32.toNatClampNeg 0))) (Int32.toNatClampNeg 1) (de2_f (Int32.toNatClampNeg 1))) (Int32.toNatClampNeg 2) (de2_f (Int32.toNatClampNeg 2))) (Int32.toNatClampNeg 3) (de2_f (Int32.toNatClampNeg 3))) (Int32.toNatClampNeg 4) (de2_f (Int32.toNatClampNeg 4))) (Int32.toNatClampNeg 5) (de2_f (Int32.toNatClampNeg 5))) (Int32.toNatClampNeg 6) (de2_f (Int32.toNatClampNeg 6))) (Int32.toNatClampNeg 7) (de2_f (Int32.toNatClampNeg 7))), p2_2, te2_f, de2_f, (by first | assumption | omega | decide), (by first | assumption | omega | decide), rfl, rfl⟩
abbrev MX6_begin : g_M := (yX6_begin, cX6_begin, 2, none)
theorem dX6_begin_0 : decode cX6_begin 0 = .ok (.aload_n 0, 1) := by decide +kernel
theorem dX6_begin_1 : decode cX6_begin 1 = .ok (.getfield 18, 3) := by decide +kernel
theorem dX6_begin_4 : decode cX6_begin 4 = .ok (.iconst 0, 1) := by decide +kernel
theorem dX6_begin_5 : decode cX6_begin 5 = .ok (.invokestatic 41, 3) := by decide +kernel
theorem w_ml_X6_41 : Cond.methodLink RX6 41 yJ7_fill_53178 ∈ g_tbl := g_tbl_in 466 (by decide +kernel) (by decide +kernel)
theorem w_cd_J7_fill_53178 : g_cw MJ7_fill_53178 ∈ g_tbl := g_tbl_in 468 (by decide +kernel) (by decide +kernel)
theorem w_ini_J7 : Cond.initialized RJ7 ∈ g_tbl := g_tbl_in 81 (by decide +kernel) (by decide +kernel)
theorem cl_X6_41 : CL RX6 41 2 MJ7_fill_53178 := ⟨w_ml_X6_41, w_cd_J7_fill_53178, w_ini_J7, by decide +kernel, by decide +kernel, by decide +kernel⟩
theorem w_sm_J7_fill_53178 : Cond.static yJ7_fill_53178 ∈ g_tbl := g_tbl_in 467 (by decide +kernel) (by decide +kernel)
theorem dX6_begin_8 : decode cX6_begin 8 = .ok (.aload_n 0, 1) := by decide +kernel
theorem dX6_begin_9 : decode cX6_begin 9 = .ok (.getfield 22, 3) := by decide +kernel
theorem dX6_begin_12 : decode cX6_begin 12 = .ok (.iconst 0, 1) := by decide +kernel
theorem dX6_begin_13 : decode cX6_begin 13 = .ok (.invokestatic 41, 3) := by decide +kernel
theorem dX6_begin_16 : decode cX6_begin 16 = .ok (.aload_n 0, 1) := by decide +kernel
theorem dX6_begin_17 : decode cX6_begin 17 = .ok (.iload_n 1, 1) := by decide +kernel
theorem dX6_begin_18 : decode cX6_begin 18 = .ok (.putfield 31, 3) := by decide +kernel
theorem dX6_begin_21 : decode cX6_begin 21 = .ok (.return_, 1) := by decide +kernel
set_option maxRecDepth 100000 in
set_option maxHeartbeats 4000000 in
theorem wk_X6_begin (E : g_E) (ps : Nat) (p : Nat) (we : Nat) (inp : Nat) (ba : Nat) (gu : Nat) (ps_5 : Int32) (ps_6 : Int32) (ps_7 : Int32) (we_f : Nat → Int32) (inp_f : Nat → Int32) (cc : Int32)  : Ev E MX6_begin 1 23 0 0 [.ref ps, .int cc] [(ps, .inr (6, [.ref p, .ref we, .ref inp, .ref ba, .ref gu, .int ps_5, .int ps_6, .int ps_7])), (we, .inl (E.2.2.1 0, 16, .inl we_f)), (inp, .inl (E.2.2.1 0, 128, .inl inp_f))] (fun v_ w_ => ∃ zps_5 : Int32, ∃ zps_6 : Int32, ∃ zps_7 : Int32, ∃ zwe_f : Nat → Int32, ∃ zinp_f : Nat → Int32, v_ = none ∧ w_ = [(ps, .inr (6, [.ref p, .ref we, .ref inp, .ref ba, .ref gu, .int zps_5, .int zps_6, .int zps_7])), (we, .inl (E.2.2.1 0, 16, .inl zwe_f)), (inp, .inl (E.2.2.1 0, 128, .inl zinp_f))]) := by
  refine Ev.intro (by decide) (Nat.le_of_ble_eq_true rfl) ?_
  intro X B hr hI
  have B : Bd E X cX6_begin RX6 2 1 23 0 0 := B
  have hr : Rt E X none 0 0 (fun v_ w_ => ∃ zps_5 : Int32, ∃ zps_6 : Int32, ∃ zps_7 : Int32, ∃ zwe_f : Nat → Int32, ∃ zinp_f : Nat → Int32, v_ = none ∧ w_ = [(ps, .inr (6, [.ref p, .ref we, .ref inp, .ref ba, .ref gu, .int zps_5, .int zps_6, .int zps_7])), (we, .inl (E.2.2.1 0, 16, .inl zwe_f)), (inp, .inl (E.2.2.1 0, 128, .inl zinp_f))]) := hr
  show G E X 2 [(ps, .inr (6, [.ref p, .ref we, .ref inp, .ref ba, .ref gu, .int ps_5, .int ps_6, .int ps_7])), (we, .inl (E.2.2.1 0, 16, .inl we_f)), (inp, .inl (E.2.2.1 0, 128, .inl inp_f))] 0 0 [(0, .ref ps), (1, .int cc)] 0 []
  refine g_aload_n B dX6_begin_0 rfl 0 rfl ?_
  refine g_get B 0 1 fl_X6_18 rfl rfl dX6_begin_1 ?_
  refine g_iconst (v := 0) B dX6_begin_4 (by decide) ?_
  refine g_callS (st := []) (As := [.ref we, .int 0]) (wr := [(ps, .inr (6, [.ref p, .ref we, .ref inp, .ref ba, .ref gu, .int ps_5, .int ps_6, .int ps_7])), (inp, .inl (E.2.2.1 0, 128, .inl inp_f))]) (nc' := 0) (ns' := 0) B cl_X6_41 w_sm_J7_fill_53178 (wk_J7_fill_53178 E we 16 we_f 0 (by first | assumption | omega | decide)) rfl [1] [0, 2] rfl rfl (by decide) (by decide) (by decide) ⟨by decide, by decide⟩ rfl rfl (by decide) (by decide) rfl (Nat.le_of_ble_eq_true rfl) dX6_begin_5 (fun v w hq => ?_)
  obtain ⟨za_f_255, rfl, rfl⟩ := hq
  show G E X 2 [(ps, .inr (6, [.ref p, .ref we, .ref inp, .ref ba, .ref gu, .int ps_5, .int ps_6, .int ps_7])), (inp, .inl (E.2.2.1 0, 128, .inl inp_f)), (we, .inl (E.2.2.1 0, 16, .inl za_f_255))] 0 0 [(0, .ref ps), (1, .int cc)] 8 []
  refine g_aload_n B dX6_begin_8 rfl 0 rfl ?_
  refine g_get B 0 2 fl_X6_22 rfl rfl dX6_begin_9 ?_
  refine g_iconst (v := 0) B dX6_begin_12 (by decide) ?_
  refine g_callS (st := []) (As := [.ref inp, .int 0]) (wr := [(ps, .inr (6, [.ref p, .ref we, .ref inp, .ref ba, .ref gu, .int ps_5, .int ps_6, .int ps_7])), (we, .inl (E.2.2.1 0, 16, .inl za_f_255))]) (nc' := 0) (ns' := 0) B cl_X6_41 w_sm_J7_fill_53178 (wk_J7_fill_53178 E inp 128 inp_f 0 (by first | assumption | omega | decide)) rfl [1] [0, 2] rfl rfl (by decide) (by decide) (by decide) ⟨by decide, by decide⟩ rfl rfl (by decide) (by decide) rfl (Nat.le_of_ble_eq_true rfl) dX6_begin_13 (fun v w hq => ?_)
  obtain ⟨za_f_256, rfl, rfl⟩ := hq
  show G E X 2 [(ps, .inr (6, [.ref p, .ref we, .ref inp, .ref ba, .ref gu, .int ps_5, .int ps_6, .int ps_7])), (we, .inl (E.2.2.1 0, 16, .inl za_f_255)), (inp, .inl (E.2.2.1 0, 128, .inl za_f_256))] 0 0 [(0, .ref ps), (1, .int cc)] 16 []
  refine g_aload_n B dX6_begin_16 rfl 0 rfl ?_
  refine g_iload_n B dX6_begin_17 rfl 1 rfl ?_
  refine g_put (ws' := [(ps, .inr (6, [.ref p, .ref we, .ref inp, .ref ba, .ref gu, .int cc, .int ps_6, .int ps_7])), (we, .inl (E.2.2.1 0, 16, .inl za_f_255)), (inp, .inl (E.2.2.1 0, 128, .inl za_f_256))]) B 0 5 fl_X6_31 pf_X6_5 rfl (Nat.le_of_ble_eq_true rfl) rfl rfl rfl dX6_begin_18 ?_
  exact g_vret B hr dX6_begin_21 (by decide) (by decide) ⟨cc, ps_6, ps_7, za_f_255, za_f_256, rfl, rfl⟩
abbrev MX6_track : g_M := (yX6_track, cX6_track, 3, (some .int))
theorem dX6_track_0 : decode cX6_track 0 = .ok (.iload_n 1, 1) := by decide +kernel
theorem dX6_track_1 : decode cX6_track 1 = .ok (.bipush 7, 2) := by decide +kernel
theorem dX6_track_3 : decode cX6_track 3 = .ok (.iand, 1) := by decide +kernel
theorem dX6_track_4 : decode cX6_track 4 = .ok (.iconst 2, 1) := by decide +kernel
theorem dX6_track_5 : decode cX6_track 5 = .ok (.imul, 1) := by decide +kernel
theorem dX6_track_6 : decode cX6_track 6 = .ok (.iload_n 2, 1) := by decide +kernel
theorem dX6_track_7 : decode cX6_track 7 = .ok (.iconst 1, 1) := by decide +kernel
theorem dX6_track_8 : decode cX6_track 8 = .ok (.iand, 1) := by decide +kernel
theorem dX6_track_9 : decode cX6_track 9 = .ok (.iadd, 1) := by decide +kernel
theorem dX6_track_10 : decode cX6_track 10 = .ok (.ireturn, 1) := by decide +kernel
set_option maxRecDepth 100000 in
set_option maxHeartbeats 4000000 in
theorem ev_X6_track (E : g_E) (ps : Nat) (p : Nat) (we : Nat) (inp : Nat) (ba : Nat) (gu : Nat) (f5 : Int32) (f6 : Int32) (f7 : Int32) (pp : Int32) (oc : Int32)  : Ev E MX6_track 0 0 0 0 [.ref ps, .int pp, .int oc] [(ps, .inr (6, [.ref p, .ref we, .ref inp, .ref ba, .ref gu, .int f5, .int f6, .int f7]))] (fun v_ w_ => v_ = some (.int (((pp &&& 7) * 2) + (oc &&& 1))) ∧ w_ = [(ps, .inr (6, [.ref p, .ref we, .ref inp, .ref ba, .ref gu, .int f5, .int f6, .int f7]))]) := by
  refine Ev.intro (by decide) (Nat.le_of_ble_eq_true rfl) ?_
  intro X B hr hI
  have B : Bd E X cX6_track RX6 3 0 0 0 0 := B
  have hr : Rt E X (some .int) 0 0 (fun v_ w_ => v_ = some (.int (((pp &&& 7) * 2) + (oc &&& 1))) ∧ w_ = [(ps, .inr (6, [.ref p, .ref we, .ref inp, .ref ba, .ref gu, .int f5, .int f6, .int f7]))]) := hr
  show G E X 3 [(ps, .inr (6, [.ref p, .ref we, .ref inp, .ref ba, .ref gu, .int f5, .int f6, .int f7]))] 0 0 [(0, .ref ps), (1, .int pp), (2, .int oc)] 0 []
  refine g_iload_n B dX6_track_0 rfl 1 rfl ?_
  refine g_bipush (v := 7) B dX6_track_1 (by decide) ?_
  refine g_iand B dX6_track_3 ?_
  refine g_iconst (v := 2) B dX6_track_4 (by decide) ?_
  refine g_imul B dX6_track_5 ?_
  refine g_iload_n B dX6_track_6 rfl 2 rfl ?_
  refine g_iconst (v := 1) B dX6_track_7 (by decide) ?_
  refine g_iand B dX6_track_8 ?_
  refine g_iadd B dX6_track_9 ?_
  exact g_iret B hr dX6_track_10 (by decide) (by decide) ⟨rfl, rfl⟩
abbrev MX6_slot : g_M := (yX6_slot, cX6_slot, 4, (some .int))
theorem dX6_slot_0 : decode cX6_slot 0 = .ok (.iload_n 1, 1) := by decide +kernel
theorem dX6_slot_1 : decode cX6_slot 1 = .ok (.bipush 7, 2) := by decide +kernel
theorem dX6_slot_3 : decode cX6_slot 3 = .ok (.iand, 1) := by decide +kernel
theorem dX6_slot_4 : decode cX6_slot 4 = .ok (.bipush 16, 2) := by decide +kernel
theorem dX6_slot_6 : decode cX6_slot 6 = .ok (.imul, 1) := by decide +kernel
theorem dX6_slot_7 : decode cX6_slot 7 = .ok (.iload_n 2, 1) := by decide +kernel
theorem dX6_slot_8 : decode cX6_slot 8 = .ok (.iconst 1, 1) := by decide +kernel
theorem dX6_slot_9 : decode cX6_slot 9 = .ok (.iand, 1) := by decide +kernel
theorem dX6_slot_10 : decode cX6_slot 10 = .ok (.bipush 8, 2) := by decide +kernel
theorem dX6_slot_12 : decode cX6_slot 12 = .ok (.imul, 1) := by decide +kernel
theorem dX6_slot_13 : decode cX6_slot 13 = .ok (.iadd, 1) := by decide +kernel
theorem dX6_slot_14 : decode cX6_slot 14 = .ok (.aload_n 0, 1) := by decide +kernel
theorem dX6_slot_15 : decode cX6_slot 15 = .ok (.getfield 35, 3) := by decide +kernel
theorem dX6_slot_18 : decode cX6_slot 18 = .ok (.iload_n 3, 1) := by decide +kernel
theorem dX6_slot_19 : decode cX6_slot 19 = .ok (.isub, 1) := by decide +kernel
theorem dX6_slot_20 : decode cX6_slot 20 = .ok (.bipush 7, 2) := by decide +kernel
theorem dX6_slot_22 : decode cX6_slot 22 = .ok (.iand, 1) := by decide +kernel
theorem dX6_slot_23 : decode cX6_slot 23 = .ok (.iadd, 1) := by decide +kernel
theorem dX6_slot_24 : decode cX6_slot 24 = .ok (.ireturn, 1) := by decide +kernel
set_option maxRecDepth 100000 in
set_option maxHeartbeats 4000000 in
theorem ev_X6_slot (E : g_E) (ps : Nat) (p : Nat) (we : Nat) (inp : Nat) (ba : Nat) (gu : Nat) (f5 : Int32) (f6 : Int32) (f7 : Int32) (pp : Int32) (oc : Int32) (ago : Int32)  : Ev E MX6_slot 0 0 0 0 [.ref ps, .int pp, .int oc, .int ago] [(ps, .inr (6, [.ref p, .ref we, .ref inp, .ref ba, .ref gu, .int f5, .int f6, .int f7]))] (fun v_ w_ => v_ = some (.int ((((pp &&& 7) * 16) + ((oc &&& 1) * 8)) + ((f6 - ago) &&& 7))) ∧ w_ = [(ps, .inr (6, [.ref p, .ref we, .ref inp, .ref ba, .ref gu, .int f5, .int f6, .int f7]))]) := by
  refine Ev.intro (by decide) (Nat.le_of_ble_eq_true rfl) ?_
  intro X B hr hI
  have B : Bd E X cX6_slot RX6 4 0 0 0 0 := B
  have hr : Rt E X (some .int) 0 0 (fun v_ w_ => v_ = some (.int ((((pp &&& 7) * 16) + ((oc &&& 1) * 8)) + ((f6 - ago) &&& 7))) ∧ w_ = [(ps, .inr (6, [.ref p, .ref we, .ref inp, .ref ba, .ref gu, .int f5, .int f6, .int f7]))]) := hr
  show G E X 4 [(ps, .inr (6, [.ref p, .ref we, .ref inp, .ref ba, .ref gu, .int f5, .int f6, .int f7]))] 0 0 [(0, .ref ps), (1, .int pp), (2, .int oc), (3, .int ago)] 0 []
  refine g_iload_n B dX6_slot_0 rfl 1 rfl ?_
  refine g_bipush (v := 7) B dX6_slot_1 (by decide) ?_
  refine g_iand B dX6_slot_3 ?_
  refine g_bipush (v := 16) B dX6_slot_4 (by decide) ?_
  refine g_imul B dX6_slot_6 ?_
  refine g_iload_n B dX6_slot_7 rfl 2 rfl ?_
  refine g_iconst (v := 1) B dX6_slot_8 (by decide) ?_
  refine g_iand B dX6_slot_9 ?_
  refine g_bipush (v := 8) B dX6_slot_10 (by decide) ?_
  refine g_imul B dX6_slot_12 ?_
  refine g_iadd B dX6_slot_13 ?_
  refine g_aload_n B dX6_slot_14 rfl 0 rfl ?_
  refine g_get B 0 6 fl_X6_35 rfl rfl dX6_slot_15 ?_
  refine g_iload_n B dX6_slot_18 rfl 3 rfl ?_
  refine g_isub B dX6_slot_19 ?_
  refine g_bipush (v := 7) B dX6_slot_20 (by decide) ?_
  refine g_iand B dX6_slot_22 ?_
  refine g_iadd B dX6_slot_23 ?_
  exact g_iret B hr dX6_slot_24 (by decide) (by decide) ⟨rfl, rfl⟩
abbrev MX6_weightOf : g_M := (yX6_weightOf, cX6_weightOf, 3, (some .int))
theorem dX6_weightOf_0 : decode cX6_weightOf 0 = .ok (.aload_n 0, 1) := by decide +kernel
theorem dX6_weightOf_1 : decode cX6_weightOf 1 = .ok (.getfield 18, 3) := by decide +kernel
theorem dX6_weightOf_4 : decode cX6_weightOf 4 = .ok (.aload_n 0, 1) := by decide +kernel
theorem dX6_weightOf_5 : decode cX6_weightOf 5 = .ok (.iload_n 1, 1) := by decide +kernel
theorem dX6_weightOf_6 : decode cX6_weightOf 6 = .ok (.iload_n 2, 1) := by decide +kernel
theorem dX6_weightOf_7 : decode cX6_weightOf 7 = .ok (.invokevirtual 78, 3) := by decide +kernel
theorem w_ml_X6_78 : Cond.methodLink RX6 78 yX6_track ∈ g_tbl := g_tbl_in 529 (by decide +kernel) (by decide +kernel)
theorem w_cd_X6_track : g_cw MX6_track ∈ g_tbl := g_tbl_in 532 (by decide +kernel) (by decide +kernel)
theorem cl_X6_78 : CL RX6 78 2 MX6_track := ⟨w_ml_X6_78, w_cd_X6_track, w_ini_X6, by decide +kernel, by decide +kernel, by decide +kernel⟩
theorem w_im_X6_track : Cond.instanceMethod yX6_track ∈ g_tbl := g_tbl_in 531 (by decide +kernel) (by decide +kernel)
theorem w_se_X6_track : Cond.selects RX6 yX6_track yX6_track ∈ g_tbl := g_tbl_in 7 (by decide +kernel) (by decide +kernel)
theorem dX6_weightOf_10 : decode cX6_weightOf 10 = .ok (.iaload, 1) := by decide +kernel
theorem dX6_weightOf_11 : decode cX6_weightOf 11 = .ok (.ireturn, 1) := by decide +kernel
set_option maxRecDepth 100000 in
set_option maxHeartbeats 4000000 in
theorem wk_X6_weightOf (E : g_E) (ps : Nat) (p : Nat) (we : Nat) (inp : Nat) (ba : Nat) (gu : Nat) (ps_5 : Int32) (ps_6 : Int32) (ps_7 : Int32) (we_f : Nat → Int32) (pp : Int32) (oc : Int32)  : Ev E MX6_weightOf 1 22 0 0 [.ref ps, .int pp, .int oc] [(ps, .inr (6, [.ref p, .ref we, .ref inp, .ref ba, .ref gu, .int ps_5, .int ps_6, .int ps_7])), (we, .inl (E.2.2.1 0, 16, .inl we_f))] (fun v_ w_ => ∃ zps_5 : Int32, ∃ zps_6 : Int32, ∃ zps_7 : Int32, ∃ zwe_f : Nat → Int32, ∃ zr : Int32, v_ = some (.int zr) ∧ w_ = [(ps, .inr (6, [.ref p, .ref we, .ref inp, .ref ba, .ref gu, .int zps_5, .int zps_6, .int zps_7])), (we, .inl (E.2.2.1 0, 16, .inl zwe_f))]) := by
  refine Ev.intro (by decide) (Nat.le_of_ble_eq_true rfl) ?_
  intro X B hr hI
  have B : Bd E X cX6_weightOf RX6 3 1 22 0 0 := B
  have hr : Rt E X (some .int) 0 0 (fun v_ w_ => ∃ zps_5 : Int32, ∃ zps_6 : Int32, ∃ zps_7 : Int32, ∃ zwe_f : Nat → Int32, ∃ zr : Int32, v_ = some (.int zr) ∧ w_ = [(ps, .inr (6, [.ref p, .ref we, .ref inp, .ref ba, .ref gu, .int zps_5, .int zps_6, .int zps_7])), (we, .inl (E.2.2.1 0, 16, .inl zwe_f))]) := hr
  show G E X 3 [(ps, .inr (6, [.ref p, .ref we, .ref inp, .ref ba, .ref gu, .int ps_5, .int ps_6, .int ps_7])), (we, .inl (E.2.2.1 0, 16, .inl we_f))] 0 0 [(0, .ref ps), (1, .int pp), (2, .int oc)] 0 []
  refine g_aload_n B dX6_weightOf_0 rfl 0 rfl ?_
  refine g_get B 0 1 fl_X6_18 rfl rfl dX6_weightOf_1 ?_
  refine g_aload_n B dX6_weightOf_4 rfl 0 rfl ?_
  refine g_iload_n B dX6_weightOf_5 rfl 1 rfl ?_
  refine g_iload_n B dX6_weightOf_6 rfl 2 rfl ?_
  refine g_callV (st := [.ref we]) (As := [.int pp, .int oc]) (wr := [(we, .inl (E.2.2.1 0, 16, .inl we_f))]) (nc' := 0) (ns' := 0) B cl_X6_78 w_im_X6_track w_se_X6_track (ev_X6_track E ps p we inp ba gu ps_5 ps_6 ps_7 pp oc ) rfl [0] [1] rfl rfl (by decide) (by decide) (by decide) 0 rfl (fun q h => by cases h; rfl) rfl ⟨by decide, by decide⟩ rfl rfl (by decide) (by decide) rfl (Nat.le_of_ble_eq_true rfl) dX6_weightOf_7 (fun v w hq => ?_)
  obtain ⟨rfl, rfl⟩ := hq
  show G E X 3 [(we, .inl (E.2.2.1 0, 16, .inl we_f)), (ps, .inr (6, [.ref p, .ref we, .ref inp, .ref ba, .ref gu, .int ps_5, .int ps_6, .int ps_7]))] 0 0 [(0, .ref ps), (1, .int pp), (2, .int oc)] 10 [.int (((pp &&& 7) * 2) + (oc &&& 1)), .ref we]
  refine g_iald B 0 rfl (in_tr _ _) dX6_weightOf_10 ?_
  refine g_sub (ws' := [(ps, .inr (6, [.ref p, .ref we, .ref inp, .ref ba, .ref gu, .int ps_5, .int ps_6, .int ps_7])), (we, .inl (E.2.2.1 0, 16, .inl we_f))]) [1, 0] (by decide) rfl ?_
  exact g_iret B hr dX6_weightOf_11 (by decide) (by decide) ⟨ps_5, ps_6, ps_7, we_f, (we_f (Int32.toNatClampNeg (((pp &&& 7) * 2) + (oc &&& 1)))), rfl, rfl⟩
abbrev MX6_moveWeight : g_M := (yX6_moveWeight, cX6_moveWeight, 4, none)
theorem dX6_moveWeight_0 : decode cX6_moveWeight 0 = .ok (.aload_n 0, 1) := by decide +kernel
theorem dX6_moveWeight_1 : decode cX6_moveWeight 1 = .ok (.iload_n 1, 1) := by decide +kernel
theorem dX6_moveWeight_2 : decode cX6_moveWeight 2 = .ok (.aload_n 0, 1) := by decide +kernel
theorem dX6_moveWeight_3 : decode cX6_moveWeight 3 = .ok (.getfield 38, 3) := by decide +kernel
theorem dX6_moveWeight_6 : decode cX6_moveWeight 6 = .ok (.invokevirtual 78, 3) := by decide +kernel
theorem dX6_moveWeight_9 : decode cX6_moveWeight 9 = .ok (.istore_n 3, 1) := by decide +kernel
theorem dX6_moveWeight_10 : decode cX6_moveWeight 10 = .ok (.aload_n 0, 1) := by decide +kernel
theorem dX6_moveWeight_11 : decode cX6_moveWeight 11 = .ok (.getfield 18, 3) := by decide +kernel
theorem dX6_moveWeight_14 : decode cX6_moveWeight 14 = .ok (.iload_n 3, 1) := by decide +kernel
theorem dX6_moveWeight_15 : decode cX6_moveWeight 15 = .ok (.sipush (-1024), 3) := by decide +kernel
theorem dX6_moveWeight_18 : decode cX6_moveWeight 18 = .ok (.sipush 1024, 3) := by decide +kernel
theorem dX6_moveWeight_21 : decode cX6_moveWeight 21 = .ok (.aload_n 0, 1) := by decide +kernel
theorem dX6_moveWeight_22 : decode cX6_moveWeight 22 = .ok (.getfield 18, 3) := by decide +kernel
theorem dX6_moveWeight_25 : decode cX6_moveWeight 25 = .ok (.iload_n 3, 1) := by decide +kernel
theorem dX6_moveWeight_26 : decode cX6_moveWeight 26 = .ok (.iaload, 1) := by decide +kernel
theorem dX6_moveWeight_27 : decode cX6_moveWeight 27 = .ok (.iload_n 2, 1) := by decide +kernel
theorem dX6_moveWeight_28 : decode cX6_moveWeight 28 = .ok (.iadd, 1) := by decide +kernel
theorem dX6_moveWeight_29 : decode cX6_moveWeight 29 = .ok (.invokestatic 62, 3) := by decide +kernel
theorem w_mlm_X6_62 : Cond.methodLink RX6 62 Lib.Math.min.name ∈ g_tbl := g_tbl_in 538 (by decide +kernel) (by decide +kernel)
theorem w_smm_min_II_I : Cond.static Lib.Math.min.name ∈ g_tbl := g_tbl_in 539 (by decide +kernel) (by decide +kernel)
theorem w_cdm_min_II_I : Cond.code Lib.Math.min.name Lib.Math.min.code 2 (some .int) ∈ g_tbl := g_tbl_in 540 (by decide +kernel) (by decide +kernel)
theorem dX6_moveWeight_32 : decode cX6_moveWeight 32 = .ok (.invokestatic 81, 3) := by decide +kernel
theorem w_mlm_X6_81 : Cond.methodLink RX6 81 Lib.Math.max.name ∈ g_tbl := g_tbl_in 545 (by decide +kernel) (by decide +kernel)
theorem dX6_moveWeight_35 : decode cX6_moveWeight 35 = .ok (.iastore, 1) := by decide +kernel
theorem dX6_moveWeight_36 : decode cX6_moveWeight 36 = .ok (.return_, 1) := by decide +kernel
set_option maxRecDepth 100000 in
set_option maxHeartbeats 4000000 in
theorem wk_X6_moveWeight (E : g_E) (ps : Nat) (p : Nat) (we : Nat) (inp : Nat) (ba : Nat) (gu : Nat) (ps_5 : Int32) (ps_6 : Int32) (ps_7 : Int32) (we_f : Nat → Int32) (pp : Int32) (by_ : Int32)  : Ev E MX6_moveWeight 1 23 0 0 [.ref ps, .int pp, .int by_] [(ps, .inr (6, [.ref p, .ref we, .ref inp, .ref ba, .ref gu, .int ps_5, .int ps_6, .int ps_7])), (we, .inl (E.2.2.1 0, 16, .inl we_f))] (fun v_ w_ => ∃ zps_5 : Int32, ∃ zps_6 : Int32, ∃ zps_7 : Int32, ∃ zwe_f : Nat → Int32, v_ = none ∧ w_ = [(ps, .inr (6, [.ref p, .ref we, .ref inp, .ref ba, .ref gu, .int zps_5, .int zps_6, .int zps_7])), (we, .inl (E.2.2.1 0, 16, .inl zwe_f))]) := by
  refine Ev.intro (by decide) (Nat.le_of_ble_eq_true rfl) ?_
  intro X B hr hI
  have B : Bd E X cX6_moveWeight RX6 4 1 23 0 0 := B
  have hr : Rt E X none 0 0 (fun v_ w_ => ∃ zps_5 : Int32, ∃ zps_6 : Int32, ∃ zps_7 : Int32, ∃ zwe_f : Nat → Int32, v_ = none ∧ w_ = [(ps, .inr (6, [.ref p, .ref we, .ref inp, .ref ba, .ref gu, .int zps_5, .int zps_6, .int zps_7])), (we, .inl (E.2.2.1 0, 16, .inl zwe_f))]) := hr
  show G E X 4 [(ps, .inr (6, [.ref p, .ref we, .ref inp, .ref ba, .ref gu, .int ps_5, .int ps_6, .int ps_7])), (we, .inl (E.2.2.1 0, 16, .inl we_f))] 0 0 [(0, .ref ps), (1, .int pp), (2, .int by_)] 0 []
  refine g_aload_n B dX6_moveWeight_0 rfl 0 rfl ?_
  refine g_iload_n B dX6_moveWeight_1 rfl 1 rfl ?_
  refine g_aload_n B dX6_moveWeight_2 rfl 0 rfl ?_
  refine g_get B 0 7 fl_X6_38 rfl rfl dX6_moveWeight_3 ?_
  refine g_callV (st := []) (As := [.int pp, .int ps_7]) (wr := [(we, .inl (E.2.2.1 0, 16, .inl we_f))]) (nc' := 0) (ns' := 0) B cl_X6_78 w_im_X6_track w_se_X6_track (ev_X6_track E ps p we inp ba gu ps_5 ps_6 ps_7 pp ps_7 ) rfl [0] [1] rfl rfl (by decide) (by decide) (by decide) 0 rfl (fun q h => by cases h; rfl) rfl ⟨by decide, by decide⟩ rfl rfl (by decide) (by decide) rfl (Nat.le_of_ble_eq_true rfl) dX6_moveWeight_6 (fun v w hq => ?_)
  obtain ⟨rfl, rfl⟩ := hq
  show G E X 4 [(we, .inl (E.2.2.1 0, 16, .inl we_f)), (ps, .inr (6, [.ref p, .ref we, .ref inp, .ref ba, .ref gu, .int ps_5, .int ps_6, .int ps_7]))] 0 0 [(0, .ref ps), (1, .int pp), (2, .int by_)] 9 [.int (((pp &&& 7) * 2) + (ps_7 &&& 1))]
  refine g_istore_n (lv' := [(3, .int (((pp &&& 7) * 2) + (ps_7 &&& 1))), (0, .ref ps), (1, .int pp), (2, .int by_)]) B dX6_moveWeight_9 rfl (by decide) rfl ?_
  refine g_aload_n B dX6_moveWeight_10 rfl 1 rfl ?_
  refine g_get B 1 1 fl_X6_18 rfl rfl dX6_moveWeight_11 ?_
  refine g_iload_n B dX6_moveWeight_14 rfl 0 rfl ?_
  refine g_sipush (v := (-1024)) B dX6_moveWeight_15 (by decide) ?_
  refine g_sipush (v := 1024) B dX6_moveWeight_18 (by decide) ?_
  refine g_aload_n B dX6_moveWeight_21 rfl 1 rfl ?_
  refine g_get B 1 1 fl_X6_18 rfl rfl dX6_moveWeight_22 ?_
  refine g_iload_n B dX6_moveWeight_25 rfl 0 rfl ?_
  refine g_iald B 0 rfl (in_tr _ _) dX6_moveWeight_26 ?_
  refine g_iload_n B dX6_moveWeight_27 rfl 3 rfl ?_
  refine g_iadd B dX6_moveWeight_28 ?_
  refine g_mmin B w_mlm_X6_62 w_smm_min_II_I w_ini_Math w_cdm_min_II_I (by decide) (Nat.le_of_ble_eq_true rfl) (by decide) (by decide) dX6_moveWeight_29 ?_
  refine g_mmax B w_mlm_X6_81 w_smm_max_II_I w_ini_Math w_cdm_max_II_I (by decide) (Nat.le_of_ble_eq_true rfl) (by decide) (by decide) dX6_moveWeight_32 ?_
  refine g_iast (ws' := [(we, .inl (E.2.2.1 0, 16, .inl (upd we_f (Int32.toNatClampNeg (((pp &&& 7) * 2) + (ps_7 &&& 1))) (if (-1024) < (if ((we_f (Int32.toNatClampNeg (((pp &&& 7) * 2) + (ps_7 &&& 1)))) + by_) < 1024 then ((we_f (Int32.toNatClampNeg (((pp &&& 7) * 2) + (ps_7 &&& 1)))) + by_) else 1024) then (if ((we_f (Int32.toNatClampNeg (((pp &&& 7) * 2) + (ps_7 &&& 1)))) + by_) < 1024 then ((we_f (Int32.toNatClampNeg (((pp &&& 7) * 2) + (ps_7 &&& 1)))) + by_) else 1024) else (-1024))))), (ps, .inr (6, [.ref p, .ref we, .ref inp, .ref ba, .ref gu, .int ps_5, .int ps_6, .int ps_7]))]) B 0 rfl (in_tr _ _) rfl dX6_moveWeight_35 ?_
  refine g_sub (ws' := [(ps, .inr (6, [.ref p, .ref we, .ref inp, .ref ba, .ref gu, .int ps_5, .int ps_6, .int ps_7])), (we, .inl (E.2.2.1 0, 16, .inl (upd we_f (Int32.toNatClampNeg (((pp &&& 7) * 2) + (ps_7 &&& 1))) (if (-1024) < (if ((we_f (Int32.toNatClampNeg (((pp &&& 7) * 2) + (ps_7 &&& 1)))) + by_) < 1024 then ((we_f (Int32.toNatClampNeg (((pp &&& 7) * 2) + (ps_7 &&& 1)))) + by_) else 1024) then (if ((we_f (Int32.toNatClampNeg (((pp &&& 7) * 2) + (ps_7 &&& 1)))) + by_) < 1024 then ((we_f (Int32.toNatClampNeg (((pp &&& 7) * 2) + (ps_7 &&& 1)))) + by_) else 1024) else (-1024)))))]) [1, 0] (by decide) rfl ?_
  exact g_vret B hr dX6_moveWeight_36 (by decide) (by decide) ⟨ps_5, ps_6, ps_7, (upd we_f (Int32.toNatClampNeg (((pp &&& 7) * 2) + (ps_7 &&& 1))) (if (-1024) < (if ((we_f (Int32.toNatClampNeg (((pp &&& 7) * 2) + (ps_7 &&& 1)))) + by_) < 1024 then ((we_f (Int32.toNatClampNeg (((pp &&& 7) * 2) + (ps_7 &&& 1)))) + by_) else 1024) then (if ((we_f (Int32.toNatClampNeg (((pp &&& 7) * 2) + (ps_7 &&& 1)))) + by_) < 1024 then ((we_f (Int32.toNatClampNeg (((pp &&& 7) * 2) + (ps_7 &&& 1)))) + by_) else 1024) else (-1024))), rfl, rfl⟩
abbrev MX6_baseOf : g_M := (yX6_baseOf, cX6_baseOf, 5, (some .int))
theorem dX6_baseOf_0 : decode cX6_baseOf 0 = .ok (.iload_n 2, 1) := by decide +kernel
theorem dX6_baseOf_1 : decode cX6_baseOf 1 = .ok (.ifCond .ge 13, 3) := by decide +kernel
theorem dX6_baseOf_14 : decode cX6_baseOf 14 = .ok (.iload_n 2, 1) := by decide +kernel
theorem dX6_baseOf_15 : decode cX6_baseOf 15 = .ok (.ifCond .ge 40, 3) := by decide +kernel
theorem dX6_baseOf_55 : decode cX6_baseOf 55 = .ok (.iload_n 2, 1) := by decide +kernel
theorem dX6_baseOf_56 : decode cX6_baseOf 56 = .ok (.bipush 8, 2) := by decide +kernel
theorem dX6_baseOf_58 : decode cX6_baseOf 58 = .ok (.if_icmp .gt 19, 3) := by decide +kernel
theorem dX6_baseOf_77 : decode cX6_baseOf 77 = .ok (.aload_n 0, 1) := by decide +kernel
theorem dX6_baseOf_78 : decode cX6_baseOf 78 = .ok (.getfield 22, 3) := by decide +kernel
theorem dX6_baseOf_81 : decode cX6_baseOf 81 = .ok (.aload_n 0, 1) := by decide +kernel
theorem dX6_baseOf_82 : decode cX6_baseOf 82 = .ok (.iload_n 1, 1) := by decide +kernel
theorem dX6_baseOf_83 : decode cX6_baseOf 83 = .ok (.aload_n 0, 1) := by decide +kernel
theorem dX6_baseOf_84 : decode cX6_baseOf 84 = .ok (.getfield 38, 3) := by decide +kernel
theorem dX6_baseOf_87 : decode cX6_baseOf 87 = .ok (.iconst 1, 1) := by decide +kernel
theorem dX6_baseOf_88 : decode cX6_baseOf 88 = .ok (.invokevirtual 74, 3) := by decide +kernel
theorem w_ml_X6_74 : Cond.methodLink RX6 74 yX6_slot ∈ g_tbl := g_tbl_in 521 (by decide +kernel) (by decide +kernel)
theorem w_cd_X6_slot : g_cw MX6_slot ∈ g_tbl := g_tbl_in 524 (by decide +kernel) (by decide +kernel)
theorem cl_X6_74 : CL RX6 74 3 MX6_slot := ⟨w_ml_X6_74, w_cd_X6_slot, w_ini_X6, by decide +kernel, by decide +kernel, by decide +kernel⟩
theorem w_im_X6_slot : Cond.instanceMethod yX6_slot ∈ g_tbl := g_tbl_in 523 (by decide +kernel) (by decide +kernel)
theorem w_se_X6_slot : Cond.selects RX6 yX6_slot yX6_slot ∈ g_tbl := g_tbl_in 6 (by decide +kernel) (by decide +kernel)
theorem dX6_baseOf_91 : decode cX6_baseOf 91 = .ok (.iaload, 1) := by decide +kernel
theorem dX6_baseOf_92 : decode cX6_baseOf 92 = .ok (.istore_n 3, 1) := by decide +kernel
theorem dX6_baseOf_93 : decode cX6_baseOf 93 = .ok (.aload_n 0, 1) := by decide +kernel
theorem dX6_baseOf_94 : decode cX6_baseOf 94 = .ok (.getfield 22, 3) := by decide +kernel
theorem dX6_baseOf_97 : decode cX6_baseOf 97 = .ok (.aload_n 0, 1) := by decide +kernel
theorem dX6_baseOf_98 : decode cX6_baseOf 98 = .ok (.iload_n 1, 1) := by decide +kernel
theorem dX6_baseOf_99 : decode cX6_baseOf 99 = .ok (.aload_n 0, 1) := by decide +kernel
theorem dX6_baseOf_100 : decode cX6_baseOf 100 = .ok (.getfield 38, 3) := by decide +kernel
theorem dX6_baseOf_103 : decode cX6_baseOf 103 = .ok (.iconst 2, 1) := by decide +kernel
theorem dX6_baseOf_104 : decode cX6_baseOf 104 = .ok (.invokevirtual 74, 3) := by decide +kernel
theorem dX6_baseOf_107 : decode cX6_baseOf 107 = .ok (.iaload, 1) := by decide +kernel
theorem dX6_baseOf_108 : decode cX6_baseOf 108 = .ok (.istore 4, 2) := by decide +kernel
theorem dX6_baseOf_110 : decode cX6_baseOf 110 = .ok (.iload_n 2, 1) := by decide +kernel
theorem dX6_baseOf_111 : decode cX6_baseOf 111 = .ok (.bipush 17, 2) := by decide +kernel
theorem dX6_baseOf_113 : decode cX6_baseOf 113 = .ok (.if_icmp .ne 12, 3) := by decide +kernel
theorem dX6_baseOf_125 : decode cX6_baseOf 125 = .ok (.iload_n 3, 1) := by decide +kernel
theorem dX6_baseOf_126 : decode cX6_baseOf 126 = .ok (.iload_n 3, 1) := by decide +kernel
theorem dX6_baseOf_127 : decode cX6_baseOf 127 = .ok (.iload 4, 2) := by decide +kernel
theorem dX6_baseOf_129 : decode cX6_baseOf 129 = .ok (.isub, 1) := by decide +kernel
theorem dX6_baseOf_130 : decode cX6_baseOf 130 = .ok (.iconst 1, 1) := by decide +kernel
theorem dX6_baseOf_131 : decode cX6_baseOf 131 = .ok (.ishr, 1) := by decide +kernel
theorem dX6_baseOf_132 : decode cX6_baseOf 132 = .ok (.iadd, 1) := by decide +kernel
theorem dX6_baseOf_133 : decode cX6_baseOf 133 = .ok (.ireturn, 1) := by decide +kernel
theorem dX6_baseOf_116 : decode cX6_baseOf 116 = .ok (.iconst 2, 1) := by decide +kernel
theorem dX6_baseOf_117 : decode cX6_baseOf 117 = .ok (.iload_n 3, 1) := by decide +kernel
theorem dX6_baseOf_118 : decode cX6_baseOf 118 = .ok (.imul, 1) := by decide +kernel
theorem dX6_baseOf_119 : decode cX6_baseOf 119 = .ok (.iload 4, 2) := by decide +kernel
theorem dX6_baseOf_121 : decode cX6_baseOf 121 = .ok (.isub, 1) := by decide +kernel
theorem dX6_baseOf_122 : decode cX6_baseOf 122 = .ok (.goto 11, 3) := by decide +kernel
theorem dX6_baseOf_61 : decode cX6_baseOf 61 = .ok (.aload_n 0, 1) := by decide +kernel
theorem dX6_baseOf_62 : decode cX6_baseOf 62 = .ok (.getfield 22, 3) := by decide +kernel
theorem dX6_baseOf_65 : decode cX6_baseOf 65 = .ok (.aload_n 0, 1) := by decide +kernel
theorem dX6_baseOf_66 : decode cX6_baseOf 66 = .ok (.iload_n 1, 1) := by decide +kernel
theorem dX6_baseOf_67 : decode cX6_baseOf 67 = .ok (.aload_n 0, 1) := by decide +kernel
theorem dX6_baseOf_68 : decode cX6_baseOf 68 = .ok (.getfield 38, 3) := by decide +kernel
theorem dX6_baseOf_71 : decode cX6_baseOf 71 = .ok (.iload_n 2, 1) := by decide +kernel
theorem dX6_baseOf_72 : decode cX6_baseOf 72 = .ok (.invokevirtual 74, 3) := by decide +kernel
theorem dX6_baseOf_75 : decode cX6_baseOf 75 = .ok (.iaload, 1) := by decide +kernel
theorem dX6_baseOf_76 : decode cX6_baseOf 76 = .ok (.ireturn, 1) := by decide +kernel
theorem dX6_baseOf_4 : decode cX6_baseOf 4 = .ok (.aload_n 0, 1) := by decide +kernel
theorem dX6_baseOf_5 : decode cX6_baseOf 5 = .ok (.getfield 31, 3) := by decide +kernel
theorem dX6_baseOf_8 : decode cX6_baseOf 8 = .ok (.iconst 2, 1) := by decide +kernel
theorem dX6_baseOf_9 : decode cX6_baseOf 9 = .ok (.if_icmp .ge 5, 3) := by decide +kernel
theorem dX6_baseOf_18 : decode cX6_baseOf 18 = .ok (.iload_n 2, 1) := by decide +kernel
theorem dX6_baseOf_19 : decode cX6_baseOf 19 = .ok (.iconst (-1), 1) := by decide +kernel
theorem dX6_baseOf_20 : decode cX6_baseOf 20 = .ok (.if_icmp .ne 15, 3) := by decide +kernel
theorem dX6_baseOf_35 : decode cX6_baseOf 35 = .ok (.iconst 1, 1) := by decide +kernel
theorem dX6_baseOf_36 : decode cX6_baseOf 36 = .ok (.istore_n 3, 1) := by decide +kernel
theorem dX6_baseOf_37 : decode cX6_baseOf 37 = .ok (.aload_n 0, 1) := by decide +kernel
theorem dX6_baseOf_38 : decode cX6_baseOf 38 = .ok (.getfield 22, 3) := by decide +kernel
theorem dX6_baseOf_41 : decode cX6_baseOf 41 = .ok (.aload_n 0, 1) := by decide +kernel
theorem dX6_baseOf_42 : decode cX6_baseOf 42 = .ok (.iload_n 1, 1) := by decide +kernel
theorem dX6_baseOf_43 : decode cX6_baseOf 43 = .ok (.iconst 1, 1) := by decide +kernel
theorem dX6_baseOf_44 : decode cX6_baseOf 44 = .ok (.aload_n 0, 1) := by decide +kernel
theorem dX6_baseOf_45 : decode cX6_baseOf 45 = .ok (.getfield 38, 3) := by decide +kernel
theorem dX6_baseOf_48 : decode cX6_baseOf 48 = .ok (.isub, 1) := by decide +kernel
theorem dX6_baseOf_49 : decode cX6_baseOf 49 = .ok (.iload_n 3, 1) := by decide +kernel
theorem dX6_baseOf_50 : decode cX6_baseOf 50 = .ok (.invokevirtual 74, 3) := by decide +kernel
theorem dX6_baseOf_53 : decode cX6_baseOf 53 = .ok (.iaload, 1) := by decide +kernel
theorem dX6_baseOf_54 : decode cX6_baseOf 54 = .ok (.ireturn, 1) := by decide +kernel
theorem dX6_baseOf_23 : decode cX6_baseOf 23 = .ok (.aload_n 0, 1) := by decide +kernel
theorem dX6_baseOf_24 : decode cX6_baseOf 24 = .ok (.getfield 38, 3) := by decide +kernel
theorem dX6_baseOf_27 : decode cX6_baseOf 27 = .ok (.iconst 1, 1) := by decide +kernel
theorem dX6_baseOf_28 : decode cX6_baseOf 28 = .ok (.if_icmp .ne 7, 3) := by decide +kernel
theorem dX6_baseOf_31 : decode cX6_baseOf 31 = .ok (.iconst 0, 1) := by decide +kernel
theorem dX6_baseOf_32 : decode cX6_baseOf 32 = .ok (.goto 4, 3) := by decide +kernel
theorem dX6_baseOf_12 : decode cX6_baseOf 12 = .ok (.iconst 0, 1) := by decide +kernel
theorem dX6_baseOf_13 : decode cX6_baseOf 13 = .ok (.ireturn, 1) := by decide +kernel
set_option maxRecDepth 100000 in
set_option maxHeartbeats 4000000 in
theorem wk_X6_baseOf (E : g_E) (ps : Nat) (p : Nat) (we : Nat) (inp : Nat) (ba : Nat) (gu : Nat) (ps_5 : Int32) (ps_6 : Int32) (ps_7 : Int32) (inp_f : Nat → Int32) (pp : Int32) (tm : Int32)  : Ev E MX6_baseOf 1 23 0 0 [.ref ps, .int pp, .int tm] [(ps, .inr (6, [.ref p, .ref we, .ref inp, .ref ba, .ref gu, .int ps_5, .int ps_6, .int ps_7])), (inp, .inl (E.2.2.1 0, 128, .inl inp_f))] (fun v_ w_ => ∃ zps_5 : Int32, ∃ zps_6 : Int32, ∃ zps_7 : Int32, ∃ zinp_f : Nat → Int32, ∃ zr : Int32, v_ = some (.int zr) ∧ w_ = [(ps, .inr (6, [.ref p, .ref we, .ref inp, .ref ba, .ref gu, .int zps_5, .int zps_6, .int zps_7])), (inp, .inl (E.2.2.1 0, 128, .inl zinp_f))]) := by
  refine Ev.intro (by decide) (Nat.le_of_ble_eq_true rfl) ?_
  intro X B hr hI
  have B : Bd E X cX6_baseOf RX6 5 1 23 0 0 := B
  have hr : Rt E X (some .int) 0 0 (fun v_ w_ => ∃ zps_5 : Int32, ∃ zps_6 : Int32, ∃ zps_7 : Int32, ∃ zinp_f : Nat → Int32, ∃ zr : Int32, v_ = some (.int zr) ∧ w_ = [(ps, .inr (6, [.ref p, .ref we, .ref inp, .ref ba, .ref gu, .int zps_5, .int zps_6, .int zps_7])), (inp, .inl (E.2.2.1 0, 128, .inl zinp_f))]) := hr
  show G E X 5 [(ps, .inr (6, [.ref p, .ref we, .ref inp, .ref ba, .ref gu, .int ps_5, .int ps_6, .int ps_7])), (inp, .inl (E.2.2.1 0, 128, .inl inp_f))] 0 0 [(0, .ref ps), (1, .int pp), (2, .int tm)] 0 []
  refine g_iload_n B dX6_baseOf_0 rfl 2 rfl ?_
  refine g_if_ge (tgt := 14) B dX6_baseOf_1 (by decide) (fun c1_257 => ?_) (fun c1_257 => ?_)
  · refine g_iload_n B dX6_baseOf_14 rfl 2 rfl ?_
    refine g_if_ge (tgt := 55) B dX6_baseOf_15 (by decide) (fun c15 => ?_) (fun h => absurd c1_257 h)
    refine g_iload_n B dX6_baseOf_55 rfl 2 rfl ?_
    refine g_bipush (v := 8) B dX6_baseOf_56 (by decide) ?_
    refine g_icmp_gt (tgt := 77) B dX6_baseOf_58 (by decide) (fun c58_258 => ?_) (fun c58_258 => ?_)
    · refine g_aload_n B dX6_baseOf_77 rfl 0 rfl ?_
      refine g_get B 0 2 fl_X6_22 rfl rfl dX6_baseOf_78 ?_
      refine g_aload_n B dX6_baseOf_81 rfl 0 rfl ?_
      refine g_iload_n B dX6_baseOf_82 rfl 1 rfl ?_
      refine g_aload_n B dX6_baseOf_83 rfl 0 rfl ?_
      refine g_get B 0 7 fl_X6_38 rfl rfl dX6_baseOf_84 ?_
      refine g_iconst (v := 1) B dX6_baseOf_87 (by decide) ?_
      refine g_callV (st := [.ref inp]) (As := [.int pp, .int ps_7, .int 1]) (wr := [(inp, .inl (E.2.2.1 0, 128, .inl inp_f))]) (nc' := 0) (ns' := 0) B cl_X6_74 w_im_X6_slot w_se_X6_slot (ev_X6_slot E ps p we inp ba gu ps_5 ps_6 ps_7 pp ps_7 1 ) rfl [0] [1] rfl rfl (by decide) (by decide) (by decide) 0 rfl (fun q h => by cases h; rfl) rfl ⟨by decide, by decide⟩ rfl rfl (by decide) (by decide) rfl (Nat.le_of_ble_eq_true rfl) dX6_baseOf_88 (fun v w hq => ?_)
      obtain ⟨rfl, rfl⟩ := hq
      show G E X 5 [(inp, .inl (E.2.2.1 0, 128, .inl inp_f)), (ps, .inr (6, [.ref p, .ref we, .ref inp, .ref ba, .ref gu, .int ps_5, .int ps_6, .int ps_7]))] 0 0 [(0, .ref ps), (1, .int pp), (2, .int tm)] 91 [.int ((((pp &&& 7) * 16) + ((ps_7 &&& 1) * 8)) + ((ps_6 - 1) &&& 7)), .ref inp]
      refine g_iald B 0 rfl (in_sl _ _ _) dX6_baseOf_91 ?_
      refine g_istore_n (lv' := [(3, .int (inp_f (Int32.toNatClampNeg ((((pp &&& 7) * 16) + ((ps_7 &&& 1) * 8)) + ((ps_6 - 1) &&& 7))))), (0, .ref ps), (1, .int pp), (2, .int tm)]) B dX6_baseOf_92 rfl (by decide) rfl ?_
      refine g_aload_n B dX6_baseOf_93 rfl 1 rfl ?_
      refine g_get B 1 2 fl_X6_22 rfl rfl dX6_baseOf_94 ?_
      refine g_aload_n B dX6_baseOf_97 rfl 1 rfl ?_
      refine g_iload_n B dX6_baseOf_98 rfl 2 rfl ?_
      refine g_aload_n B dX6_baseOf_99 rfl 1 rfl ?_
      refine g_get B 1 7 fl_X6_38 rfl rfl dX6_baseOf_100 ?_
      refine g_iconst (v := 2) B dX6_baseOf_103 (by decide) ?_
      refine g_callV (st := [.ref inp]) (As := [.int pp, .int ps_7, .int 2]) (wr := [(inp, .inl (E.2.2.1 0, 128, .inl inp_f))]) (nc' := 0) (ns' := 0) B cl_X6_74 w_im_X6_slot w_se_X6_slot (ev_X6_slot E ps p we inp ba gu ps_5 ps_6 ps_7 pp ps_7 2 ) rfl [1] [0] rfl rfl (by decide) (by decide) (by decide) 0 rfl (fun q h => by cases h; rfl) rfl ⟨by decide, by decide⟩ rfl rfl (by decide) (by decide) rfl (Nat.le_of_ble_eq_true rfl) dX6_baseOf_104 (fun v w hq => ?_)
      obtain ⟨rfl, rfl⟩ := hq
      show G E X 5 [(inp, .inl (E.2.2.1 0, 128, .inl inp_f)), (ps, .inr (6, [.ref p, .ref we, .ref inp, .ref ba, .ref gu, .int ps_5, .int ps_6, .int ps_7]))] 0 0 [(3, .int (inp_f (Int32.toNatClampNeg ((((pp &&& 7) * 16) + ((ps_7 &&& 1) * 8)) + ((ps_6 - 1) &&& 7))))), (0, .ref ps), (1, .int pp), (2, .int tm)] 107 [.int ((((pp &&& 7) * 16) + ((ps_7 &&& 1) * 8)) + ((ps_6 - 2) &&& 7)), .ref inp]
      refine g_iald B 0 rfl (in_sl _ _ _) dX6_baseOf_107 ?_
      refine g_istore (lv' := [(4, .int (inp_f (Int32.toNatClampNeg ((((pp &&& 7) * 16) + ((ps_7 &&& 1) * 8)) + ((ps_6 - 2) &&& 7))))), (3, .int (inp_f (Int32.toNatClampNeg ((((pp &&& 7) * 16) + ((ps_7 &&& 1) * 8)) + ((ps_6 - 1) &&& 7))))), (0, .ref ps), (1, .int pp), (2, .int tm)]) B dX6_baseOf_108 (by decide) rfl ?_
      refine g_iload_n B dX6_baseOf_110 rfl 4 rfl ?_
      refine g_bipush (v := 17) B dX6_baseOf_111 (by decide) ?_
      refine g_icmp_ne (tgt := 125) B dX6_baseOf_113 (by decide) (fun c113_259 => ?_) (fun c113_259 => ?_)
      · refine g_iload_n B dX6_baseOf_125 rfl 1 rfl ?_
        refine g_iload_n B dX6_baseOf_126 rfl 1 rfl ?_
        refine g_iload B dX6_baseOf_127 0 rfl ?_
        refine g_isub B dX6_baseOf_129 ?_
        refine g_iconst (v := 1) B dX6_baseOf_130 (by decide) ?_
        refine g_ishr B dX6_baseOf_131 ?_
        refine g_iadd B dX6_baseOf_132 ?_
        refine g_sub (ws' := [(ps, .inr (6, [.ref p, .ref we, .ref inp, .ref ba, .ref gu, .int ps_5, .int ps_6, .int ps_7])), (inp, .inl (E.2.2.1 0, 128, .inl inp_f))]) [1, 0] (by decide) rfl ?_
        exact g_iret B hr dX6_baseOf_133 (by decide) (by decide) ⟨ps_5, ps_6, ps_7, inp_f, ((inp_f (Int32.toNatClampNeg ((((pp &&& 7) * 16) + ((ps_7 &&& 1) * 8)) + ((ps_6 - 1) &&& 7)))) + (((inp_f (Int32.toNatClampNeg ((((pp &&& 7) * 16) + ((ps_7 &&& 1) * 8)) + ((ps_6 - 1) &&& 7)))) - (inp_f (Int32.toNatClampNeg ((((pp &&& 7) * 16) + ((ps_7 &&& 1) * 8)) + ((ps_6 - 2) &&& 7))))) >>> (1 &&& 31))), rfl, rfl⟩
      · refine g_iconst (v := 2) B dX6_baseOf_116 (by decide) ?_
        refine g_iload_n B dX6_baseOf_117 rfl 1 rfl ?_
        refine g_imul B dX6_baseOf_118 ?_
        refine g_iload B dX6_baseOf_119 0 rfl ?_
        refine g_isub B dX6_baseOf_121 ?_
        refine g_goto (tgt := 133) B dX6_baseOf_122 (by decide) ?_
        refine g_sub (ws' := [(ps, .inr (6, [.ref p, .ref we, .ref inp, .ref ba, .ref gu, .int ps_5, .int ps_6, .int ps_7])), (inp, .inl (E.2.2.1 0, 128, .inl inp_f))]) [1, 0] (by decide) rfl ?_
        exact g_iret B hr dX6_baseOf_133 (by decide) (by decide) ⟨ps_5, ps_6, ps_7, inp_f, ((2 * (inp_f (Int32.toNatClampNeg ((((pp &&& 7) * 16) + ((ps_7 &&& 1) * 8)) + ((ps_6 - 1) &&& 7))))) - (inp_f (Int32.toNatClampNeg ((((pp &&& 7) * 16) + ((ps_7 &&& 1) * 8)) + ((ps_6 - 2) &&& 7))))), rfl, rfl⟩
    · refine g_aload_n B dX6_baseOf_61 rfl 0 rfl ?_
      refine g_get B 0 2 fl_X6_22 rfl rfl dX6_baseOf_62 ?_
      refine g_aload_n B dX6_baseOf_65 rfl 0 rfl ?_
      refine g_iload_n B dX6_baseOf_66 rfl 1 rfl ?_
      refine g_aload_n B dX6_baseOf_67 rfl 0 rfl ?_
      refine g_get B 0 7 fl_X6_38 rfl rfl dX6_baseOf_68 ?_
      refine g_iload_n B dX6_baseOf_71 rfl 2 rfl ?_
      refine g_callV (st := [.ref inp]) (As := [.int pp, .int ps_7, .int tm]) (wr := [(inp, .inl (E.2.2.1 0, 128, .inl inp_f))]) (nc' := 0) (ns' := 0) B cl_X6_74 w_im_X6_slot w_se_X6_slot (ev_X6_slot E ps p we inp ba gu ps_5 ps_6 ps_7 pp ps_7 tm ) rfl [0] [1] rfl rfl (by decide) (by decide) (by decide) 0 rfl (fun q h => by cases h; rfl) rfl ⟨by decide, by decide⟩ rfl rfl (by decide) (by decide) rfl (Nat.le_of_ble_eq_true rfl) dX6_baseOf_72 (fun v w hq => ?_)
      obtain ⟨rfl, rfl⟩ := hq
      show G E X 5 [(inp, .inl (E.2.2.1 0, 128, .inl inp_f)), (ps, .inr (6, [.ref p, .ref we, .ref inp, .ref ba, .ref gu, .int ps_5, .int ps_6, .int ps_7]))] 0 0 [(0, .ref ps), (1, .int pp), (2, .int tm)] 75 [.int ((((pp &&& 7) * 16) + ((ps_7 &&& 1) * 8)) + ((ps_6 - tm) &&& 7)), .ref inp]
      refine g_iald B 0 rfl (in_sl _ _ _) dX6_baseOf_75 ?_
      refine g_sub (ws' := [(ps, .inr (6, [.ref p, .ref we, .ref inp, .ref ba, .ref gu, .int ps_5, .int ps_6, .int ps_7])), (inp, .inl (E.2.2.1 0, 128, .inl inp_f))]) [1, 0] (by decide) rfl ?_
      exact g_iret B hr dX6_baseOf_76 (by decide) (by decide) ⟨ps_5, ps_6, ps_7, inp_f, (inp_f (Int32.toNatClampNeg ((((pp &&& 7) * 16) + ((ps_7 &&& 1) * 8)) + ((ps_6 - tm) &&& 7)))), rfl, rfl⟩
  · refine g_aload_n B dX6_baseOf_4 rfl 0 rfl ?_
    refine g_get B 0 5 fl_X6_31 rfl rfl dX6_baseOf_5 ?_
    refine g_iconst (v := 2) B dX6_baseOf_8 (by decide) ?_
    refine g_icmp_ge (tgt := 14) B dX6_baseOf_9 (by decide) (fun c9_260 => ?_) (fun c9_260 => ?_)
    · refine g_iload_n B dX6_baseOf_14 rfl 2 rfl ?_
      refine g_if_ge (tgt := 55) B dX6_baseOf_15 (by decide) (fun h => absurd h c1_257) (fun c15 => ?_)
      refine g_iload_n B dX6_baseOf_18 rfl 2 rfl ?_
      refine g_iconst (v := (-1)) B dX6_baseOf_19 (by decide) ?_
      refine g_icmp_ne (tgt := 35) B dX6_baseOf_20 (by decide) (fun c20_261 => ?_) (fun c20_261 => ?_)
      · refine g_iconst (v := 1) B dX6_baseOf_35 (by decide) ?_
        refine g_istore_n (lv' := [(3, .int 1), (0, .ref ps), (1, .int pp), (2, .int tm)]) B dX6_baseOf_36 rfl (by decide) rfl ?_
        refine g_aload_n B dX6_baseOf_37 rfl 1 rfl ?_
        refine g_get B 0 2 fl_X6_22 rfl rfl dX6_baseOf_38 ?_
        refine g_aload_n B dX6_baseOf_41 rfl 1 rfl ?_
        refine g_iload_n B dX6_baseOf_42 rfl 2 rfl ?_
        refine g_iconst (v := 1) B dX6_baseOf_43 (by decide) ?_
        refine g_aload_n B dX6_baseOf_44 rfl 1 rfl ?_
        refine g_get B 0 7 fl_X6_38 rfl rfl dX6_baseOf_45 ?_
        refine g_isub B dX6_baseOf_48 ?_
        refine g_iload_n B dX6_baseOf_49 rfl 0 rfl ?_
        refine g_callV (st := [.ref inp]) (As := [.int pp, .int (1 - ps_7), .int 1]) (wr := [(inp, .inl (E.2.2.1 0, 128, .inl inp_f))]) (nc' := 0) (ns' := 0) B cl_X6_74 w_im_X6_slot w_se_X6_slot (ev_X6_slot E ps p we inp ba gu ps_5 ps_6 ps_7 pp (1 - ps_7) 1 ) rfl [0] [1] rfl rfl (by decide) (by decide) (by decide) 0 rfl (fun q h => by cases h; rfl) rfl ⟨by decide, by decide⟩ rfl rfl (by decide) (by decide) rfl (Nat.le_of_ble_eq_true rfl) dX6_baseOf_50 (fun v w hq => ?_)
        obtain ⟨rfl, rfl⟩ := hq
        show G E X 5 [(inp, .inl (E.2.2.1 0, 128, .inl inp_f)), (ps, .inr (6, [.ref p, .ref we, .ref inp, .ref ba, .ref gu, .int ps_5, .int ps_6, .int ps_7]))] 0 0 [(3, .int 1), (0, .ref ps), (1, .int pp), (2, .int tm)] 53 [.int ((((pp &&& 7) * 16) + (((1 - ps_7) &&& 1) * 8)) + ((ps_6 - 1) &&& 7)), .ref inp]
        refine g_iald B 0 rfl (in_sl _ _ _) dX6_baseOf_53 ?_
        refine g_sub (ws' := [(ps, .inr (6, [.ref p, .ref we, .ref inp, .ref ba, .ref gu, .int ps_5, .int ps_6, .int ps_7])), (inp, .inl (E.2.2.1 0, 128, .inl inp_f))]) [1, 0] (by decide) rfl ?_
        exact g_iret B hr dX6_baseOf_54 (by decide) (by decide) ⟨ps_5, ps_6, ps_7, inp_f, (inp_f (Int32.toNatClampNeg ((((pp &&& 7) * 16) + (((1 - ps_7) &&& 1) * 8)) + ((ps_6 - 1) &&& 7)))), rfl, rfl⟩
      · refine g_aload_n B dX6_baseOf_23 rfl 0 rfl ?_
        refine g_get B 0 7 fl_X6_38 rfl rfl dX6_baseOf_24 ?_
        refine g_iconst (v := 1) B dX6_baseOf_27 (by decide) ?_
        refine g_icmp_ne (tgt := 35) B dX6_baseOf_28 (by decide) (fun c28_262 => ?_) (fun c28_262 => ?_)
        · refine g_iconst (v := 1) B dX6_baseOf_35 (by decide) ?_
          refine g_istore_n (lv' := [(3, .int 1), (0, .ref ps), (1, .int pp), (2, .int tm)]) B dX6_baseOf_36 rfl (by decide) rfl ?_
          refine g_aload_n B dX6_baseOf_37 rfl 1 rfl ?_
          refine g_get B 0 2 fl_X6_22 rfl rfl dX6_baseOf_38 ?_
          refine g_aload_n B dX6_baseOf_41 rfl 1 rfl ?_
          refine g_iload_n B dX6_baseOf_42 rfl 2 rfl ?_
          refine g_iconst (v := 1) B dX6_baseOf_43 (by decide) ?_
          refine g_aload_n B dX6_baseOf_44 rfl 1 rfl ?_
          refine g_get B 0 7 fl_X6_38 rfl rfl dX6_baseOf_45 ?_
          refine g_isub B dX6_baseOf_48 ?_
          refine g_iload_n B dX6_baseOf_49 rfl 0 rfl ?_
          refine g_callV (st := [.ref inp]) (As := [.int pp, .int (1 - ps_7), .int 1]) (wr := [(inp, .inl (E.2.2.1 0, 128, .inl inp_f))]) (nc' := 0) (ns' := 0) B cl_X6_74 w_im_X6_slot w_se_X6_slot (ev_X6_slot E ps p we inp ba gu ps_5 ps_6 ps_7 pp (1 - ps_7) 1 ) rfl [0] [1] rfl rfl (by decide) (by decide) (by decide) 0 rfl (fun q h => by cases h; rfl) rfl ⟨by decide, by decide⟩ rfl rfl (by decide) (by decide) rfl (Nat.le_of_ble_eq_true rfl) dX6_baseOf_50 (fun v w hq => ?_)
          obtain ⟨rfl, rfl⟩ := hq
          show G E X 5 [(inp, .inl (E.2.2.1 0, 128, .inl inp_f)), (ps, .inr (6, [.ref p, .ref we, .ref inp, .ref ba, .ref gu, .int ps_5, .int ps_6, .int ps_7]))] 0 0 [(3, .int 1), (0, .ref ps), (1, .int pp), (2, .int tm)] 53 [.int ((((pp &&& 7) * 16) + (((1 - ps_7) &&& 1) * 8)) + ((ps_6 - 1) &&& 7)), .ref inp]
          refine g_iald B 0 rfl (in_sl _ _ _) dX6_baseOf_53 ?_
          refine g_sub (ws' := [(ps, .inr (6, [.ref p, .ref we, .ref inp, .ref ba, .ref gu, .int ps_5, .int ps_6, .int ps_7])), (inp, .inl (E.2.2.1 0, 128, .inl inp_f))]) [1, 0] (by decide) rfl ?_
          exact g_iret B hr dX6_baseOf_54 (by decide) (by decide) ⟨ps_5, ps_6, ps_7, inp_f, (inp_f (Int32.toNatClampNeg ((((pp &&& 7) * 16) + (((1 - ps_7) &&& 1) * 8)) + ((ps_6 - 1) &&& 7)))), rfl, rfl⟩
        · refine g_iconst (v := 0) B dX6_baseOf_31 (by decide) ?_
          refine g_goto (tgt := 36) B dX6_baseOf_32 (by decide) ?_
          refine g_istore_n (lv' := [(3, .int 0), (0, .ref ps), (1, .int pp), (2, .int tm)]) B dX6_baseOf_36 rfl (by decide) rfl ?_
          refine g_aload_n B dX6_baseOf_37 rfl 1 rfl ?_
          refine g_get B 0 2 fl_X6_22 rfl rfl dX6_baseOf_38 ?_
          refine g_aload_n B dX6_baseOf_41 rfl 1 rfl ?_
          refine g_iload_n B dX6_baseOf_42 rfl 2 rfl ?_
          refine g_iconst (v := 1) B dX6_baseOf_43 (by decide) ?_
          refine g_aload_n B dX6_baseOf_44 rfl 1 rfl ?_
          refine g_get B 0 7 fl_X6_38 rfl rfl dX6_baseOf_45 ?_
          refine g_isub B dX6_baseOf_48 ?_
          refine g_iload_n B dX6_baseOf_49 rfl 0 rfl ?_
          refine g_callV (st := [.ref inp]) (As := [.int pp, .int (1 - ps_7), .int 0]) (wr := [(inp, .inl (E.2.2.1 0, 128, .inl inp_f))]) (nc' := 0) (ns' := 0) B cl_X6_74 w_im_X6_slot w_se_X6_slot (ev_X6_slot E ps p we inp ba gu ps_5 ps_6 ps_7 pp (1 - ps_7) 0 ) rfl [0] [1] rfl rfl (by decide) (by decide) (by decide) 0 rfl (fun q h => by cases h; rfl) rfl ⟨by decide, by decide⟩ rfl rfl (by decide) (by decide) rfl (Nat.le_of_ble_eq_true rfl) dX6_baseOf_50 (fun v w hq => ?_)
          obtain ⟨rfl, rfl⟩ := hq
          show G E X 5 [(inp, .inl (E.2.2.1 0, 128, .inl inp_f)), (ps, .inr (6, [.ref p, .ref we, .ref inp, .ref ba, .ref gu, .int ps_5, .int ps_6, .int ps_7]))] 0 0 [(3, .int 0), (0, .ref ps), (1, .int pp), (2, .int tm)] 53 [.int ((((pp &&& 7) * 16) + (((1 - ps_7) &&& 1) * 8)) + ((ps_6 - 0) &&& 7)), .ref inp]
          refine g_iald B 0 rfl (in_sl _ _ _) dX6_baseOf_53 ?_
          refine g_sub (ws' := [(ps, .inr (6, [.ref p, .ref we, .ref inp, .ref ba, .ref gu, .int ps_5, .int ps_6, .int ps_7])), (inp, .inl (E.2.2.1 0, 128, .inl inp_f))]) [1, 0] (by decide) rfl ?_
          exact g_iret B hr dX6_baseOf_54 (by decide) (by decide) ⟨ps_5, ps_6, ps_7, inp_f, (inp_f (Int32.toNatClampNeg ((((pp &&& 7) * 16) + (((1 - ps_7) &&& 1) * 8)) + ((ps_6 - 0) &&& 7)))), rfl, rfl⟩
    · refine g_iconst (v := 0) B dX6_baseOf_12 (by decide) ?_
      exact g_iret B hr dX6_baseOf_13 (by decide) (by decide) ⟨ps_5, ps_6, ps_7, inp_f, 0, rfl, rfl⟩
abbrev MX6_foretell : g_M := (yX6_foretell, cX6_foretell, 5, (some .int))
theorem dX6_foretell_0 : decode cX6_foretell 0 = .ok (.aload_n 0, 1) := by decide +kernel
theorem dX6_foretell_1 : decode cX6_foretell 1 = .ok (.iload_n 1, 1) := by decide +kernel
theorem dX6_foretell_2 : decode cX6_foretell 2 = .ok (.putfield 35, 3) := by decide +kernel
theorem dX6_foretell_5 : decode cX6_foretell 5 = .ok (.aload_n 0, 1) := by decide +kernel
theorem dX6_foretell_6 : decode cX6_foretell 6 = .ok (.iload_n 2, 1) := by decide +kernel
theorem dX6_foretell_7 : decode cX6_foretell 7 = .ok (.putfield 38, 3) := by decide +kernel
theorem dX6_foretell_10 : decode cX6_foretell 10 = .ok (.iconst 0, 1) := by decide +kernel
theorem dX6_foretell_11 : decode cX6_foretell 11 = .ok (.istore_n 3, 1) := by decide +kernel
theorem dX6_foretell_12 : decode cX6_foretell 12 = .ok (.iconst 0, 1) := by decide +kernel
theorem dX6_foretell_13 : decode cX6_foretell 13 = .ok (.istore 4, 2) := by decide +kernel
theorem dX6_foretell_15 : decode cX6_foretell 15 = .ok (.iload 4, 2) := by decide +kernel
theorem dX6_foretell_17 : decode cX6_foretell 17 = .ok (.aload_n 0, 1) := by decide +kernel
theorem dX6_foretell_18 : decode cX6_foretell 18 = .ok (.getfield 12, 3) := by decide +kernel
theorem dX6_foretell_21 : decode cX6_foretell 21 = .ok (.getfield 47, 3) := by decide +kernel
theorem w_fl_X6_47 : Cond.fieldLink RX6 47 (TX7 2).1 (TX7 2).2.1 (TX7 2).2.2.1 ∈ g_tbl := g_tbl_in 106 (by decide +kernel) (by decide +kernel)
theorem fl_X6_47 : FL RX6 47 7 2 := ⟨RX7, TX7, 3, rfl, by decide, inX_X7, w_fl_X6_47⟩
theorem dX6_foretell_24 : decode cX6_foretell 24 = .ok (.if_icmp .ge 84, 3) := by decide +kernel
theorem dX6_foretell_27 : decode cX6_foretell 27 = .ok (.iload 4, 2) := by decide +kernel
theorem dX6_foretell_29 : decode cX6_foretell 29 = .ok (.bipush 8, 2) := by decide +kernel
theorem dX6_foretell_31 : decode cX6_foretell 31 = .ok (.if_icmp .ge 77, 3) := by decide +kernel
theorem dX6_foretell_34 : decode cX6_foretell 34 = .ok (.aload_n 0, 1) := by decide +kernel
theorem dX6_foretell_35 : decode cX6_foretell 35 = .ok (.getfield 25, 3) := by decide +kernel
theorem dX6_foretell_38 : decode cX6_foretell 38 = .ok (.iload 4, 2) := by decide +kernel
theorem dX6_foretell_40 : decode cX6_foretell 40 = .ok (.aload_n 0, 1) := by decide +kernel
theorem dX6_foretell_41 : decode cX6_foretell 41 = .ok (.iload 4, 2) := by decide +kernel
theorem dX6_foretell_43 : decode cX6_foretell 43 = .ok (.aload_n 0, 1) := by decide +kernel
theorem dX6_foretell_44 : decode cX6_foretell 44 = .ok (.getfield 12, 3) := by decide +kernel
theorem dX6_foretell_47 : decode cX6_foretell 47 = .ok (.getfield 50, 3) := by decide +kernel
theorem w_fl_X6_50 : Cond.fieldLink RX6 50 (TX7 0).1 (TX7 0).2.1 (TX7 0).2.2.1 ∈ g_tbl := g_tbl_in 100 (by decide +kernel) (by decide +kernel)
theorem fl_X6_50 : FL RX6 50 7 0 := ⟨RX7, TX7, 3, rfl, by decide, inX_X7, w_fl_X6_50⟩
theorem dX6_foretell_50 : decode cX6_foretell 50 = .ok (.iload 4, 2) := by decide +kernel
theorem dX6_foretell_52 : decode cX6_foretell 52 = .ok (.iaload, 1) := by decide +kernel
theorem dX6_foretell_53 : decode cX6_foretell 53 = .ok (.invokevirtual 53, 3) := by decide +kernel
theorem w_ml_X6_53 : Cond.methodLink RX6 53 yX6_baseOf ∈ g_tbl := g_tbl_in 517 (by decide +kernel) (by decide +kernel)
theorem w_cd_X6_baseOf : g_cw MX6_baseOf ∈ g_tbl := g_tbl_in 520 (by decide +kernel) (by decide +kernel)
theorem cl_X6_53 : CL RX6 53 2 MX6_baseOf := ⟨w_ml_X6_53, w_cd_X6_baseOf, w_ini_X6, by decide +kernel, by decide +kernel, by decide +kernel⟩
theorem w_im_X6_baseOf : Cond.instanceMethod yX6_baseOf ∈ g_tbl := g_tbl_in 519 (by decide +kernel) (by decide +kernel)
theorem w_se_X6_baseOf : Cond.selects RX6 yX6_baseOf yX6_baseOf ∈ g_tbl := g_tbl_in 5 (by decide +kernel) (by decide +kernel)
theorem dX6_foretell_56 : decode cX6_foretell 56 = .ok (.iastore, 1) := by decide +kernel
theorem dX6_foretell_57 : decode cX6_foretell 57 = .ok (.aload_n 0, 1) := by decide +kernel
theorem dX6_foretell_58 : decode cX6_foretell 58 = .ok (.getfield 28, 3) := by decide +kernel
theorem dX6_foretell_61 : decode cX6_foretell 61 = .ok (.iload 4, 2) := by decide +kernel
theorem dX6_foretell_63 : decode cX6_foretell 63 = .ok (.aload_n 0, 1) := by decide +kernel
theorem dX6_foretell_64 : decode cX6_foretell 64 = .ok (.iload 4, 2) := by decide +kernel
theorem dX6_foretell_66 : decode cX6_foretell 66 = .ok (.aload_n 0, 1) := by decide +kernel
theorem dX6_foretell_67 : decode cX6_foretell 67 = .ok (.getfield 38, 3) := by decide +kernel
theorem dX6_foretell_70 : decode cX6_foretell 70 = .ok (.invokevirtual 57, 3) := by decide +kernel
theorem w_ml_X6_57 : Cond.methodLink RX6 57 yX6_weightOf ∈ g_tbl := g_tbl_in 525 (by decide +kernel) (by decide +kernel)
theorem w_cd_X6_weightOf : g_cw MX6_weightOf ∈ g_tbl := g_tbl_in 528 (by decide +kernel) (by decide +kernel)
theorem cl_X6_57 : CL RX6 57 2 MX6_weightOf := ⟨w_ml_X6_57, w_cd_X6_weightOf, w_ini_X6, by decide +kernel, by decide +kernel, by decide +kernel⟩
theorem w_im_X6_weightOf : Cond.instanceMethod yX6_weightOf ∈ g_tbl := g_tbl_in 526 (by decide +kernel) (by decide +kernel)
theorem w_se_X6_weightOf : Cond.selects RX6 yX6_weightOf yX6_weightOf ∈ g_tbl := g_tbl_in 527 (by decide +kernel) (by decide +kernel)
theorem dX6_foretell_73 : decode cX6_foretell 73 = .ok (.i2l, 1) := by decide +kernel
theorem dX6_foretell_74 : decode cX6_foretell 74 = .ok (.aload_n 0, 1) := by decide +kernel
theorem dX6_foretell_75 : decode cX6_foretell 75 = .ok (.getfield 25, 3) := by decide +kernel
theorem dX6_foretell_78 : decode cX6_foretell 78 = .ok (.iload 4, 2) := by decide +kernel
theorem dX6_foretell_80 : decode cX6_foretell 80 = .ok (.iaload, 1) := by decide +kernel
theorem dX6_foretell_81 : decode cX6_foretell 81 = .ok (.i2l, 1) := by decide +kernel
theorem dX6_foretell_82 : decode cX6_foretell 82 = .ok (.lmul, 1) := by decide +kernel
theorem dX6_foretell_83 : decode cX6_foretell 83 = .ok (.ldc2_w 60, 3) := by decide +kernel
theorem w_k_X6_60 : Cond.constantLong RX6 60 512 ∈ g_tbl := g_tbl_in 533 (by decide +kernel) (by decide +kernel)
theorem dX6_foretell_86 : decode cX6_foretell 86 = .ok (.ladd, 1) := by decide +kernel
theorem dX6_foretell_87 : decode cX6_foretell 87 = .ok (.bipush 10, 2) := by decide +kernel
theorem dX6_foretell_89 : decode cX6_foretell 89 = .ok (.lshr, 1) := by decide +kernel
theorem dX6_foretell_90 : decode cX6_foretell 90 = .ok (.l2i, 1) := by decide +kernel
theorem dX6_foretell_91 : decode cX6_foretell 91 = .ok (.iastore, 1) := by decide +kernel
theorem dX6_foretell_92 : decode cX6_foretell 92 = .ok (.iload_n 3, 1) := by decide +kernel
theorem dX6_foretell_93 : decode cX6_foretell 93 = .ok (.aload_n 0, 1) := by decide +kernel
theorem dX6_foretell_94 : decode cX6_foretell 94 = .ok (.getfield 28, 3) := by decide +kernel
theorem dX6_foretell_97 : decode cX6_foretell 97 = .ok (.iload 4, 2) := by decide +kernel
theorem dX6_foretell_99 : decode cX6_foretell 99 = .ok (.iaload, 1) := by decide +kernel
theorem dX6_foretell_100 : decode cX6_foretell 100 = .ok (.iadd, 1) := by decide +kernel
theorem dX6_foretell_101 : decode cX6_foretell 101 = .ok (.istore_n 3, 1) := by decide +kernel
theorem dX6_foretell_102 : decode cX6_foretell 102 = .ok (.iinc 4 1, 3) := by decide +kernel
theorem dX6_foretell_105 : decode cX6_foretell 105 = .ok (.goto (-90), 3) := by decide +kernel
set_option maxRecDepth 100000 in
set_option maxHeartbeats 4000000 in
theorem lp_wk_X6_foretell_15 (E : g_E) (ps : Nat) (p : Nat) (we : Nat) (inp : Nat) (ba : Nat) (gu : Nat) (te : Nat) (de : Nat)  {X : g_X} (B : Bd E X cX6_foretell RX6 5 2 47 0 0) (hr : Rt E X (some .int) 0 0 (fun v_ w_ => ∃ zps_5 : Int32, ∃ zps_6 : Int32, ∃ zps_7 : Int32, ∃ zp_2 : Nat, ∃ zte_f : Nat → Int32, ∃ zde_f : Nat → Int32, ∃ zwe_f : Nat → Int32, ∃ zinp_f : Nat → Int32, ∃ zba_f : Nat → Int32, ∃ zgu_f : Nat → Int32, ∃ zr : Int32, (zp_2 ≤ 8) ∧ v_ = some (.int zr) ∧ w_ = [(ps, .inr (6, [.ref p, .ref we, .ref inp, .ref ba, .ref gu, .int zps_5, .int zps_6, .int zps_7])), (p, .inr (7, [.ref te, .ref de, .int (nI zp_2)])), (te, .inl (E.2.2.1 0, 8, .inl zte_f)), (de, .inl (E.2.2.1 0, 8, .inl zde_f)), (we, .inl (E.2.2.1 0, 16, .inl zwe_f)), (inp, .inl (E.2.2.1 0, 128, .inl zinp_f)), (ba, .inl (E.2.2.1 0, 8, .inl zba_f)), (gu, .inl (E.2.2.1 0, 8, .inl zgu_f))])) (K : ∀ (ps_5 : Int32) (ps_6 : Int32) (ps_7 : Int32) (p_2 : Nat) (te_f : Nat → Int32) (de_f : Nat → Int32) (we_f : Nat → Int32) (inp_f : Nat → Int32) (ba_f : Nat → Int32) (gu_f : Nat → Int32) (l1 : Int32) (l2 : Int32) (l3 : Int32) (l4 : Int32), p_2 ≤ 8 → G E X 5 [(ps, .inr (6, [.ref p, .ref we, .ref inp, .ref ba, .ref gu, .int ps_5, .int ps_6, .int ps_7])), (p, .inr (7, [.ref te, .ref de, .int (nI p_2)])), (te, .inl (E.2.2.1 0, 8, .inl te_f)), (de, .inl (E.2.2.1 0, 8, .inl de_f)), (we, .inl (E.2.2.1 0, 16, .inl we_f)), (inp, .inl (E.2.2.1 0, 128, .inl inp_f)), (ba, .inl (E.2.2.1 0, 8, .inl ba_f)), (gu, .inl (E.2.2.1 0, 8, .inl gu_f))] 0 0 [(0, .ref ps), (1, .int l1), (2, .int l2), (3, .int l3), (4, .int l4)] 108 []) : ∀ (n : Nat) (ps_5 : Int32) (ps_6 : Int32) (ps_7 : Int32) (p_2 : Nat) (te_f : Nat → Int32) (de_f : Nat → Int32) (we_f : Nat → Int32) (inp_f : Nat → Int32) (ba_f : Nat → Int32) (gu_f : Nat → Int32) (l1 : Int32) (l2 : Int32) (l3 : Int32) (l4 : Int32), p_2 ≤ 8 → ¬ l4 < 0 → (Int32.toInt 8 - Int32.toInt l4).toNat < n → G E X 5 [(ps, .inr (6, [.ref p, .ref we, .ref inp, .ref ba, .ref gu, .int ps_5, .int ps_6, .int ps_7])), (p, .inr (7, [.ref te, .ref de, .int (nI p_2)])), (te, .inl (E.2.2.1 0, 8, .inl te_f)), (de, .inl (E.2.2.1 0, 8, .inl de_f)), (we, .inl (E.2.2.1 0, 16, .inl we_f)), (inp, .inl (E.2.2.1 0, 128, .inl inp_f)), (ba, .inl (E.2.2.1 0, 8, .inl ba_f)), (gu, .inl (E.2.2.1 0, 8, .inl gu_f))] 0 0 [(0, .ref ps), (1, .int l1), (2, .int l2), (3, .int l3), (4, .int l4)] 15 [] := by
  intro n
  induction n with
  | zero => intro ps_5 ps_6 ps_7 p_2 te_f de_f we_f inp_f ba_f gu_f l1 l2 l3 l4 _ _ h; exact absurd h (Nat.not_lt_zero _)
  | succ n ih =>
    intro ps_5 ps_6 ps_7 p_2 te_f de_f we_f inp_f ba_f gu_f l1 l2 l3 l4 hs0 hv0 hm
    refine g_iload B dX6_foretell_15 4 rfl ?_
    refine g_aload_n B dX6_foretell_17 rfl 0 rfl ?_
    refine g_get B 0 0 fl_X6_12 rfl rfl dX6_foretell_18 ?_
    refine g_get B 1 2 fl_X6_47 rfl rfl dX6_foretell_21 ?_
    refine g_icmp_ge (tgt := 108) B dX6_foretell_24 (by decide) (fun c24_263 => ?_) (fun c24_263 => ?_)
    · exact K ps_5 ps_6 ps_7 p_2 te_f de_f we_f inp_f ba_f gu_f l1 l2 l3 l4 (by first | assumption | omega | decide)
    · refine g_iload B dX6_foretell_27 4 rfl ?_
      refine g_bipush (v := 8) B dX6_foretell_29 (by decide) ?_
      refine g_icmp_ge (tgt := 108) B dX6_foretell_31 (by decide) (fun c31_264 => ?_) (fun c31_264 => ?_)
      · exact K ps_5 ps_6 ps_7 p_2 te_f de_f we_f inp_f ba_f gu_f l1 l2 l3 l4 (by first | assumption | omega | decide)
      · refine g_aload_n B dX6_foretell_34 rfl 0 rfl ?_
        refine g_get B 0 3 fl_X6_25 rfl rfl dX6_foretell_35 ?_
        refine g_iload B dX6_foretell_38 4 rfl ?_
        refine g_aload_n B dX6_foretell_40 rfl 0 rfl ?_
        refine g_iload B dX6_foretell_41 4 rfl ?_
        refine g_aload_n B dX6_foretell_43 rfl 0 rfl ?_
        refine g_get B 0 0 fl_X6_12 rfl rfl dX6_foretell_44 ?_
        refine g_get B 1 0 fl_X6_50 rfl rfl dX6_foretell_47 ?_
        refine g_iload B dX6_foretell_50 4 rfl ?_
        refine g_iald B 2 rfl (in_lt (by decide) hv0 (o_2 c31_264)) dX6_foretell_52 ?_
        refine g_callV (st := [.int l4, .ref ba]) (As := [.int l4, .int (te_f (Int32.toNatClampNeg l4))]) (wr := [(p, .inr (7, [.ref te, .ref de, .int (nI p_2)])), (te, .inl (E.2.2.1 0, 8, .inl te_f)), (de, .inl (E.2.2.1 0, 8, .inl de_f)), (we, .inl (E.2.2.1 0, 16, .inl we_f)), (ba, .inl (E.2.2.1 0, 8, .inl ba_f)), (gu, .inl (E.2.2.1 0, 8, .inl gu_f))]) (nc' := 0) (ns' := 0) B cl_X6_53 w_im_X6_baseOf w_se_X6_baseOf (wk_X6_baseOf E ps p we inp ba gu ps_5 ps_6 ps_7 inp_f l4 (te_f (Int32.toNatClampNeg l4)) ) rfl [0, 5] [1, 2, 3, 4, 6, 7] rfl rfl (by decide) (by decide) (by decide) 0 rfl (fun q h => by cases h; rfl) rfl ⟨by decide, by decide⟩ rfl rfl (by decide) (by decide) rfl (Nat.le_of_ble_eq_true rfl) dX6_foretell_53 (fun v w hq => ?_)
        obtain ⟨zps_5_265, zps_6_266, zps_7_267, zinp_f_268, zr_269, rfl, rfl⟩ := hq
        show G E X 5 [(p, .inr (7, [.ref te, .ref de, .int (nI p_2)])), (te, .inl (E.2.2.1 0, 8, .inl te_f)), (de, .inl (E.2.2.1 0, 8, .inl de_f)), (we, .inl (E.2.2.1 0, 16, .inl we_f)), (ba, .inl (E.2.2.1 0, 8, .inl ba_f)), (gu, .inl (E.2.2.1 0, 8, .inl gu_f)), (ps, .inr (6, [.ref p, .ref we, .ref inp, .ref ba, .ref gu, .int zps_5_265, .int zps_6_266, .int zps_7_267])), (inp, .inl (E.2.2.1 0, 128, .inl zinp_f_268))] 0 0 [(0, .ref ps), (1, .int l1), (2, .int l2), (3, .int l3), (4, .int l4)] 56 [.int zr_269, .int l4, .ref ba]
        refine g_iast (ws' := [(p, .inr (7, [.ref te, .ref de, .int (nI p_2)])), (te, .inl (E.2.2.1 0, 8, .inl te_f)), (de, .inl (E.2.2.1 0, 8, .inl de_f)), (we, .inl (E.2.2.1 0, 16, .inl we_f)), (ba, .inl (E.2.2.1 0, 8, .inl (upd ba_f (Int32.toNatClampNeg l4) zr_269))), (gu, .inl (E.2.2.1 0, 8, .inl gu_f)), (ps, .inr (6, [.ref p, .ref we, .ref inp, .ref ba, .ref gu, .int zps_5_265, .int zps_6_266, .int zps_7_267])), (inp, .inl (E.2.2.1 0, 128, .inl zinp_f_268))]) B 4 rfl (in_lt (by decide) hv0 (o_2 c31_264)) rfl dX6_foretell_56 ?_
        refine g_aload_n B dX6_foretell_57 rfl 0 rfl ?_
        refine g_get B 6 4 fl_X6_28 rfl rfl dX6_foretell_58 ?_
        refine g_iload B dX6_foretell_61 4 rfl ?_
        refine g_aload_n B dX6_foretell_63 rfl 0 rfl ?_
        refine g_iload B dX6_foretell_64 4 rfl ?_
        refine g_aload_n B dX6_foretell_66 rfl 0 rfl ?_
        refine g_get B 6 7 fl_X6_38 rfl rfl dX6_foretell_67 ?_
        refine g_callV (st := [.int l4, .ref gu]) (As := [.int l4, .int zps_7_267]) (wr := [(p, .inr (7, [.ref te, .ref de, .int (nI p_2)])), (te, .inl (E.2.2.1 0, 8, .inl te_f)), (de, .inl (E.2.2.1 0, 8, .inl de_f)), (ba, .inl (E.2.2.1 0, 8, .inl (upd ba_f (Int32.toNatClampNeg l4) zr_269))), (gu, .inl (E.2.2.1 0, 8, .inl gu_f)), (inp, .inl (E.2.2.1 0, 128, .inl zinp_f_268))]) (nc' := 0) (ns' := 0) B cl_X6_57 w_im_X6_weightOf w_se_X6_weightOf (wk_X6_weightOf E ps p we inp ba gu zps_5_265 zps_6_266 zps_7_267 we_f l4 zps_7_267 ) rfl [6, 3] [0, 1, 2, 4, 5, 7] rfl rfl (by decide) (by decide) (by decide) 0 rfl (fun q h => by cases h; rfl) rfl ⟨by decide, by decide⟩ rfl rfl (by decide) (by decide) rfl (Nat.le_of_ble_eq_true rfl) dX6_foretell_70 (fun v w hq => ?_)
        obtain ⟨zps_5_270, zps_6_271, zps_7_272, zwe_f_273, zr_274, rfl, rfl⟩ := hq
        show G E X 5 [(p, .inr (7, [.ref te, .ref de, .int (nI p_2)])), (te, .inl (E.2.2.1 0, 8, .inl te_f)), (de, .inl (E.2.2.1 0, 8, .inl de_f)), (ba, .inl (E.2.2.1 0, 8, .inl (upd ba_f (Int32.toNatClampNeg l4) zr_269))), (gu, .inl (E.2.2.1 0, 8, .inl gu_f)), (inp, .inl (E.2.2.1 0, 128, .inl zinp_f_268)), (ps, .inr (6, [.ref p, .ref we, .ref inp, .ref ba, .ref gu, .int zps_5_270, .int zps_6_271, .int zps_7_272])), (we, .inl (E.2.2.1 0, 16, .inl zwe_f_273))] 0 0 [(0, .ref ps), (1, .int l1), (2, .int l2), (3, .int l3), (4, .int l4)] 73 [.int zr_274, .int l4, .ref gu]
        refine g_i2l B dX6_foretell_73 ?_
        refine g_aload_n B dX6_foretell_74 rfl 0 rfl ?_
        refine g_get B 6 3 fl_X6_25 rfl rfl dX6_foretell_75 ?_
        refine g_iload B dX6_foretell_78 4 rfl ?_
        refine g_iald B 3 rfl (in_lt (by decide) hv0 (o_2 c31_264)) dX6_foretell_80 ?_
        refine g_i2l B dX6_foretell_81 ?_
        refine g_lmul B dX6_foretell_82 ?_
        refine g_ldc2 (v := 512) B w_k_X6_60 dX6_foretell_83 ?_
        refine g_ladd B dX6_foretell_86 ?_
        refine g_bipush (v := 10) B dX6_foretell_87 (by decide) ?_
        refine g_lshr B dX6_foretell_89 ?_
        refine g_l2i B dX6_foretell_90 ?_
        refine g_iast (ws' := [(p, .inr (7, [.ref te, .ref de, .int (nI p_2)])), (te, .inl (E.2.2.1 0, 8, .inl te_f)), (de, .inl (E.2.2.1 0, 8, .inl de_f)), (ba, .inl (E.2.2.1 0, 8, .inl (upd ba_f (Int32.toNatClampNeg l4) zr_269))), (gu, .inl (E.2.2.1 0, 8, .inl (upd gu_f (Int32.toNatClampNeg l4) (Int64.toInt32 ((((Int32.toInt64 zr_274) * (Int32.toInt64 ((upd ba_f (Int32.toNatClampNeg l4) zr_269) (Int32.toNatClampNeg l4)))) + 512) >>> (Int32.toInt64 10 &&& 63)))))), (inp, .inl (E.2.2.1 0, 128, .inl zinp_f_268)), (ps, .inr (6, [.ref p, .ref we, .ref inp, .ref ba, .ref gu, .int zps_5_270, .int zps_6_271, .int zps_7_272])), (we, .inl (E.2.2.1 0, 16, .inl zwe_f_273))]) B 4 rfl (in_lt (by decide) hv0 (o_2 c31_264)) rfl dX6_foretell_91 ?_
        refine g_iload_n B dX6_foretell_92 rfl 3 rfl ?_
        refine g_aload_n B dX6_foretell_93 rfl 0 rfl ?_
        refine g_get B 6 4 fl_X6_28 rfl rfl dX6_foretell_94 ?_
        refine g_iload B dX6_foretell_97 4 rfl ?_
        refine g_iald B 4 rfl (in_lt (by decide) hv0 (o_2 c31_264)) dX6_foretell_99 ?_
        refine g_iadd B dX6_foretell_100 ?_
        refine g_istore_n (lv' := [(3, .int (l3 + ((upd gu_f (Int32.toNatClampNeg l4) (Int64.toInt32 ((((Int32.toInt64 zr_274) * (Int32.toInt64 ((upd ba_f (Int32.toNatClampNeg l4) zr_269) (Int32.toNatClampNeg l4)))) + 512) >>> (Int32.toInt64 10 &&& 63)))) (Int32.toNatClampNeg l4)))), (0, .ref ps), (1, .int l1), (2, .int l2), (4, .int l4)]) B dX6_foretell_101 rfl (by decide) rfl ?_
        refine g_iinc (v := (l4 + 1)) (lv' := [(4, .int (l4 + 1)), (3, .int (l3 + ((upd gu_f (Int32.toNatClampNeg l4) (Int64.toInt32 ((((Int32.toInt64 zr_274) * (Int32.toInt64 ((upd ba_f (Int32.toNatClampNeg l4) zr_269) (Int32.toNatClampNeg l4)))) + 512) >>> (Int32.toInt64 10 &&& 63)))) (Int32.toNatClampNeg l4)))), (0, .ref ps), (1, .int l1), (2, .int l2)]) B dX6_foretell_102 4 rfl rfl (by decide) rfl ?_
        refine g_goto (tgt := 15) B dX6_foretell_105 (by decide) ?_
        refine g_sub (ws' := [(ps, .inr (6, [.ref p, .ref we, .ref inp, .ref ba, .ref gu, .int zps_5_270, .int zps_6_271, .int zps_7_272])), (p, .inr (7, [.ref te, .ref de, .int (nI p_2)])), (te, .inl (E.2.2.1 0, 8, .inl te_f)), (de, .inl (E.2.2.1 0, 8, .inl de_f)), (we, .inl (E.2.2.1 0, 16, .inl zwe_f_273)), (inp, .inl (E.2.2.1 0, 128, .inl zinp_f_268)), (ba, .inl (E.2.2.1 0, 8, .inl (upd ba_f (Int32.toNatClampNeg l4) zr_269))), (gu, .inl (E.2.2.1 0, 8, .inl (upd gu_f (Int32.toNatClampNeg l4) (Int64.toInt32 ((((Int32.toInt64 zr_274) * (Int32.toInt64 ((upd ba_f (Int32.toNatClampNeg l4) zr_269) (Int32.toNatClampNeg l4)))) + 512) >>> (Int32.toInt64 10 &&& 63))))))]) [6, 0, 1, 2, 7, 5, 3, 4] (by decide) rfl ?_
        refine g_lvsub (lv' := [(0, .ref ps), (1, .int l1), (2, .int l2), (3, .int (l3 + ((upd gu_f (Int32.toNatClampNeg l4) (Int64.toInt32 ((((Int32.toInt64 zr_274) * (Int32.toInt64 ((upd ba_f (Int32.toNatClampNeg l4) zr_269) (Int32.toNatClampNeg l4)))) + 512) >>> (Int32.toInt64 10 &&& 63)))) (Int32.toNatClampNeg l4)))), (4, .int (l4 + 1))]) [2, 3, 4, 1, 0] rfl ?_
        exact ih zps_5_270 zps_6_271 zps_7_272 p_2 te_f de_f zwe_f_273 zinp_f_268 (upd ba_f (Int32.toNatClampNeg l4) zr_269) (upd gu_f (Int32.toNatClampNeg l4) (Int64.toInt32 ((((Int32.toInt64 zr_274) * (Int32.toInt64 ((upd ba_f (Int32.toNatClampNeg l4) zr_269) (Int32.toNatClampNeg l4)))) + 512) >>> (Int32.toInt64 10 &&& 63)))) l1 l2 (l3 + ((upd gu_f (Int32.toNatClampNeg l4) (Int64.toInt32 ((((Int32.toInt64 zr_274) * (Int32.toInt64 ((upd ba_f (Int32.toNatClampNeg l4) zr_269) (Int32.toNatClampNeg l4)))) + 512) >>> (Int32.toInt64 10 &&& 63)))) (Int32.toNatClampNeg l4))) (l4 + 1) (by first | assumption | omega | decide) (inv_up hv0 (o_2 c31_264)) (Nat.lt_of_lt_of_le (st_up (o_2 c31_264)) (Nat.le_of_lt_succ hm))
theorem dX6_foretell_108 : decode cX6_foretell 108 = .ok (.iload_n 3, 1) := by decide +kernel
theorem dX6_foretell_109 : decode cX6_foretell 109 = .ok (.ireturn, 1) := by decide +kernel
set_option maxRecDepth 100000 in
set_option maxHeartbeats 4000000 in
theorem wk_X6_foretell (E : g_E) (ps : Nat) (p : Nat) (we : Nat) (inp : Nat) (ba : Nat) (gu : Nat) (te : Nat) (de : Nat) (ps_5 : Int32) (ps_6 : Int32) (ps_7 : Int32) (p_2 : Nat) (te_f : Nat → Int32) (de_f : Nat → Int32) (we_f : Nat → Int32) (inp_f : Nat → Int32) (ba_f : Nat → Int32) (gu_f : Nat → Int32) (fr_ : Int32) (ch_ : Int32) (hp0 : p_2 ≤ 8) : Ev E MX6_foretell 2 47 0 0 [.ref ps, .int fr_, .int ch_] [(ps, .inr (6, [.ref p, .ref we, .ref inp, .ref ba, .ref gu, .int ps_5, .int ps_6, .int ps_7])), (p, .inr (7, [.ref te, .ref de, .int (nI p_2)])), (te, .inl (E.2.2.1 0, 8, .inl te_f)), (de, .inl (E.2.2.1 0, 8, .inl de_f)), (we, .inl (E.2.2.1 0, 16, .inl we_f)), (inp, .inl (E.2.2.1 0, 128, .inl inp_f)), (ba, .inl (E.2.2.1 0, 8, .inl ba_f)), (gu, .inl (E.2.2.1 0, 8, .inl gu_f))] (fun v_ w_ => ∃ zps_5 : Int32, ∃ zps_6 : Int32, ∃ zps_7 : Int32, ∃ zp_2 : Nat, ∃ zte_f : Nat → Int32, ∃ zde_f : Nat → Int32, ∃ zwe_f : Nat → Int32, ∃ zinp_f : Nat → Int32, ∃ zba_f : Nat → Int32, ∃ zgu_f : Nat → Int32, ∃ zr : Int32, (zp_2 ≤ 8) ∧ v_ = some (.int zr) ∧ w_ = [(ps, .inr (6, [.ref p, .ref we, .ref inp, .ref ba, .ref gu, .int zps_5, .int zps_6, .int zps_7])), (p, .inr (7, [.ref te, .ref de, .int (nI zp_2)])), (te, .inl (E.2.2.1 0, 8, .inl zte_f)), (de, .inl (E.2.2.1 0, 8, .inl zde_f)), (we, .inl (E.2.2.1 0, 16, .inl zwe_f)), (inp, .inl (E.2.2.1 0, 128, .inl zinp_f)), (ba, .inl (E.2.2.1 0, 8, .inl zba_f)), (gu, .inl (E.2.2.1 0, 8, .inl zgu_f))]) := by
  refine Ev.intro (by decide) (Nat.le_of_ble_eq_true rfl) ?_
  intro X B hr hI
  have B : Bd E X cX6_foretell RX6 5 2 47 0 0 := B
  have hr : Rt E X (some .int) 0 0 (fun v_ w_ => ∃ zps_5 : Int32, ∃ zps_6 : Int32, ∃ zps_7 : Int32, ∃ zp_2 : Nat, ∃ zte_f : Nat → Int32, ∃ zde_f : Nat → Int32, ∃ zwe_f : Nat → Int32, ∃ zinp_f : Nat → Int32, ∃ zba_f : Nat → Int32, ∃ zgu_f : Nat → Int32, ∃ zr : Int32, (zp_2 ≤ 8) ∧ v_ = some (.int zr) ∧ w_ = [(ps, .inr (6, [.ref p, .ref we, .ref inp, .ref ba, .ref gu, .int zps_5, .int zps_6, .int zps_7])), (p, .inr (7, [.ref te, .ref de, .int (nI zp_2)])), (te, .inl (E.2.2.1 0, 8, .inl zte_f)), (de, .inl (E.2.2.1 0, 8, .inl zde_f)), (we, .inl (E.2.2.1 0, 16, .inl zwe_f)), (inp, .inl (E.2.2.1 0, 128, .inl zinp_f)), (ba, .inl (E.2.2.1 0, 8, .inl zba_f)), (gu, .inl (E.2.2.1 0, 8, .inl zgu_f))]) := hr
  show G E X 5 [(ps, .inr (6, [.ref p, .ref we, .ref inp, .ref ba, .ref gu, .int ps_5, .int ps_6, .int ps_7])), (p, .inr (7, [.ref te, .ref de, .int (nI p_2)])), (te, .inl (E.2.2.1 0, 8, .inl te_f)), (de, .inl (E.2.2.1 0, 8, .inl de_f)), (we, .inl (E.2.2.1 0, 16, .inl we_f)), (inp, .inl (E.2.2.1 0, 128, .inl inp_f)), (ba, .inl (E.2.2.1 0, 8, .inl ba_f)), (gu, .inl (E.2.2.1 0, 8, .inl gu_f))] 0 0 [(0, .ref ps), (1, .int fr_), (2, .int ch_)] 0 []
  refine g_aload_n B dX6_foretell_0 rfl 0 rfl ?_
  refine g_iload_n B dX6_foretell_1 rfl 1 rfl ?_
  refine g_put (ws' := [(ps, .inr (6, [.ref p, .ref we, .ref inp, .ref ba, .ref gu, .int ps_5, .int fr_, .int ps_7])), (p, .inr (7, [.ref te, .ref de, .int (nI p_2)])), (te, .inl (E.2.2.1 0, 8, .inl te_f)), (de, .inl (E.2.2.1 0, 8, .inl de_f)), (we, .inl (E.2.2.1 0, 16, .inl we_f)), (inp, .inl (E.2.2.1 0, 128, .inl inp_f)), (ba, .inl (E.2.2.1 0, 8, .inl ba_f)), (gu, .inl (E.2.2.1 0, 8, .inl gu_f))]) B 0 6 fl_X6_35 pf_X6_6 rfl (Nat.le_of_ble_eq_true rfl) rfl rfl rfl dX6_foretell_2 ?_
  refine g_aload_n B dX6_foretell_5 rfl 0 rfl ?_
  refine g_iload_n B dX6_foretell_6 rfl 2 rfl ?_
  refine g_put (ws' := [(ps, .inr (6, [.ref p, .ref we, .ref inp, .ref ba, .ref gu, .int ps_5, .int fr_, .int ch_])), (p, .inr (7, [.ref te, .ref de, .int (nI p_2)])), (te, .inl (E.2.2.1 0, 8, .inl te_f)), (de, .inl (E.2.2.1 0, 8, .inl de_f)), (we, .inl (E.2.2.1 0, 16, .inl we_f)), (inp, .inl (E.2.2.1 0, 128, .inl inp_f)), (ba, .inl (E.2.2.1 0, 8, .inl ba_f)), (gu, .inl (E.2.2.1 0, 8, .inl gu_f))]) B 0 7 fl_X6_38 pf_X6_7 rfl (Nat.le_of_ble_eq_true rfl) rfl rfl rfl dX6_foretell_7 ?_
  refine g_iconst (v := 0) B dX6_foretell_10 (by decide) ?_
  refine g_istore_n (lv' := [(3, .int 0), (0, .ref ps), (1, .int fr_), (2, .int ch_)]) B dX6_foretell_11 rfl (by decide) rfl ?_
  refine g_iconst (v := 0) B dX6_foretell_12 (by decide) ?_
  refine g_istore (lv' := [(4, .int 0), (3, .int 0), (0, .ref ps), (1, .int fr_), (2, .int ch_)]) B dX6_foretell_13 (by decide) rfl ?_
  refine g_lvsub (lv' := [(0, .ref ps), (1, .int fr_), (2, .int ch_), (3, .int 0), (4, .int 0)]) [2, 3, 4, 1, 0] rfl ?_
  refine lp_wk_X6_foretell_15 E ps p we inp ba gu te de  B hr (fun y_275ps_5 y_275ps_6 y_275ps_7 y_275p_2 y_275te_f y_275de_f y_275we_f y_275inp_f y_275ba_f y_275gu_f y_275l1 y_275l2 y_275l3 y_275l4 y_275h0 => ?_) _ ps_5 fr_ ch_ p_2 te_f de_f we_f inp_f ba_f gu_f fr_ ch_ 0 0 (by first | assumption | omega | decide) (by decide) (Nat.lt_succ_self _)
  refine g_iload_n B dX6_foretell_108 rfl 3 rfl ?_
  exact g_iret B hr dX6_foretell_109 (by decide) (by decide) ⟨y_275ps_5, y_275ps_6, y_275ps_7, y_275p_2, y_275te_f, y_275de_f, y_275we_f, y_275inp_f, y_275ba_f, y_275gu_f, y_275l3, (by first | assumption | omega | decide), rfl, rfl⟩
abbrev MX6_learn : g_M := (yX6_learn, cX6_learn, 5, (some .int))
theorem dX6_learn_0 : decode cX6_learn 0 = .ok (.iload_n 1, 1) := by decide +kernel
theorem dX6_learn_1 : decode cX6_learn 1 = .ok (.istore_n 2, 1) := by decide +kernel
theorem dX6_learn_2 : decode cX6_learn 2 = .ok (.aload_n 0, 1) := by decide +kernel
theorem dX6_learn_3 : decode cX6_learn 3 = .ok (.getfield 12, 3) := by decide +kernel
theorem dX6_learn_6 : decode cX6_learn 6 = .ok (.getfield 47, 3) := by decide +kernel
theorem dX6_learn_9 : decode cX6_learn 9 = .ok (.bipush 8, 2) := by decide +kernel
theorem dX6_learn_11 : decode cX6_learn 11 = .ok (.invokestatic 62, 3) := by decide +kernel
theorem dX6_learn_14 : decode cX6_learn 14 = .ok (.iconst 1, 1) := by decide +kernel
theorem dX6_learn_15 : decode cX6_learn 15 = .ok (.isub, 1) := by decide +kernel
theorem dX6_learn_16 : decode cX6_learn 16 = .ok (.istore_n 3, 1) := by decide +kernel
theorem dX6_learn_17 : decode cX6_learn 17 = .ok (.iload_n 3, 1) := by decide +kernel
theorem dX6_learn_18 : decode cX6_learn 18 = .ok (.ifCond .lt 112, 3) := by decide +kernel
theorem dX6_learn_21 : decode cX6_learn 21 = .ok (.aload_n 0, 1) := by decide +kernel
theorem dX6_learn_22 : decode cX6_learn 22 = .ok (.getfield 25, 3) := by decide +kernel
theorem dX6_learn_25 : decode cX6_learn 25 = .ok (.iload_n 3, 1) := by decide +kernel
theorem dX6_learn_26 : decode cX6_learn 26 = .ok (.iaload, 1) := by decide +kernel
theorem dX6_learn_27 : decode cX6_learn 27 = .ok (.ifCond .eq 72, 3) := by decide +kernel
theorem dX6_learn_99 : decode cX6_learn 99 = .ok (.iload_n 2, 1) := by decide +kernel
theorem dX6_learn_100 : decode cX6_learn 100 = .ok (.aload_n 0, 1) := by decide +kernel
theorem dX6_learn_101 : decode cX6_learn 101 = .ok (.getfield 28, 3) := by decide +kernel
theorem dX6_learn_104 : decode cX6_learn 104 = .ok (.iload_n 3, 1) := by decide +kernel
theorem dX6_learn_105 : decode cX6_learn 105 = .ok (.iaload, 1) := by decide +kernel
theorem dX6_learn_106 : decode cX6_learn 106 = .ok (.iadd, 1) := by decide +kernel
theorem dX6_learn_107 : decode cX6_learn 107 = .ok (.istore_n 2, 1) := by decide +kernel
theorem dX6_learn_108 : decode cX6_learn 108 = .ok (.aload_n 0, 1) := by decide +kernel
theorem dX6_learn_109 : decode cX6_learn 109 = .ok (.getfield 22, 3) := by decide +kernel
theorem dX6_learn_112 : decode cX6_learn 112 = .ok (.aload_n 0, 1) := by decide +kernel
theorem dX6_learn_113 : decode cX6_learn 113 = .ok (.iload_n 3, 1) := by decide +kernel
theorem dX6_learn_114 : decode cX6_learn 114 = .ok (.aload_n 0, 1) := by decide +kernel
theorem dX6_learn_115 : decode cX6_learn 115 = .ok (.getfield 38, 3) := by decide +kernel
theorem dX6_learn_118 : decode cX6_learn 118 = .ok (.iconst 0, 1) := by decide +kernel
theorem dX6_learn_119 : decode cX6_learn 119 = .ok (.invokevirtual 74, 3) := by decide +kernel
theorem dX6_learn_122 : decode cX6_learn 122 = .ok (.iload_n 2, 1) := by decide +kernel
theorem dX6_learn_123 : decode cX6_learn 123 = .ok (.iastore, 1) := by decide +kernel
theorem dX6_learn_124 : decode cX6_learn 124 = .ok (.iinc 3 (-1), 3) := by decide +kernel
theorem dX6_learn_127 : decode cX6_learn 127 = .ok (.goto (-110), 3) := by decide +kernel
theorem dX6_learn_30 : decode cX6_learn 30 = .ok (.iload_n 2, 1) := by decide +kernel
theorem dX6_learn_31 : decode cX6_learn 31 = .ok (.ifCond .eq 68, 3) := by decide +kernel
theorem dX6_learn_34 : decode cX6_learn 34 = .ok (.aload_n 0, 1) := by decide +kernel
theorem dX6_learn_35 : decode cX6_learn 35 = .ok (.getfield 25, 3) := by decide +kernel
theorem dX6_learn_38 : decode cX6_learn 38 = .ok (.iload_n 3, 1) := by decide +kernel
theorem dX6_learn_39 : decode cX6_learn 39 = .ok (.iaload, 1) := by decide +kernel
theorem dX6_learn_40 : decode cX6_learn 40 = .ok (.ifCond .ge 7, 3) := by decide +kernel
theorem dX6_learn_47 : decode cX6_learn 47 = .ok (.iconst 0, 1) := by decide +kernel
theorem dX6_learn_48 : decode cX6_learn 48 = .ok (.iload_n 2, 1) := by decide +kernel
theorem dX6_learn_49 : decode cX6_learn 49 = .ok (.ifCond .ge 7, 3) := by decide +kernel
theorem dX6_learn_56 : decode cX6_learn 56 = .ok (.iconst 0, 1) := by decide +kernel
theorem dX6_learn_57 : decode cX6_learn 57 = .ok (.if_icmp .ne 7, 3) := by decide +kernel
theorem dX6_learn_60 : decode cX6_learn 60 = .ok (.iconst 1, 1) := by decide +kernel
theorem dX6_learn_61 : decode cX6_learn 61 = .ok (.goto 4, 3) := by decide +kernel
theorem dX6_learn_65 : decode cX6_learn 65 = .ok (.istore 4, 2) := by decide +kernel
theorem dX6_learn_67 : decode cX6_learn 67 = .ok (.aload_n 0, 1) := by decide +kernel
theorem dX6_learn_68 : decode cX6_learn 68 = .ok (.iload_n 3, 1) := by decide +kernel
theorem dX6_learn_69 : decode cX6_learn 69 = .ok (.iload 4, 2) := by decide +kernel
theorem dX6_learn_71 : decode cX6_learn 71 = .ok (.ifCond .eq 15, 3) := by decide +kernel
theorem dX6_learn_74 : decode cX6_learn 74 = .ok (.aload_n 0, 1) := by decide +kernel
theorem dX6_learn_75 : decode cX6_learn 75 = .ok (.getfield 12, 3) := by decide +kernel
theorem dX6_learn_78 : decode cX6_learn 78 = .ok (.getfield 67, 3) := by decide +kernel
theorem w_fl_X6_67 : Cond.fieldLink RX6 67 (TX7 1).1 (TX7 1).2.1 (TX7 1).2.2.1 ∈ g_tbl := g_tbl_in 104 (by decide +kernel) (by decide +kernel)
theorem fl_X6_67 : FL RX6 67 7 1 := ⟨RX7, TX7, 3, rfl, by decide, inX_X7, w_fl_X6_67⟩
theorem dX6_learn_81 : decode cX6_learn 81 = .ok (.iload_n 3, 1) := by decide +kernel
theorem dX6_learn_82 : decode cX6_learn 82 = .ok (.iaload, 1) := by decide +kernel
theorem dX6_learn_83 : decode cX6_learn 83 = .ok (.goto 13, 3) := by decide +kernel
theorem dX6_learn_96 : decode cX6_learn 96 = .ok (.invokevirtual 70, 3) := by decide +kernel
theorem w_ml_X6_70 : Cond.methodLink RX6 70 yX6_moveWeight ∈ g_tbl := g_tbl_in 541 (by decide +kernel) (by decide +kernel)
theorem w_cd_X6_moveWeight : g_cw MX6_moveWeight ∈ g_tbl := g_tbl_in 544 (by decide +kernel) (by decide +kernel)
theorem cl_X6_70 : CL RX6 70 2 MX6_moveWeight := ⟨w_ml_X6_70, w_cd_X6_moveWeight, w_ini_X6, by decide +kernel, by decide +kernel, by decide +kernel⟩
theorem w_im_X6_moveWeight : Cond.instanceMethod yX6_moveWeight ∈ g_tbl := g_tbl_in 543 (by decide +kernel) (by decide +kernel)
theorem w_se_X6_moveWeight : Cond.selects RX6 yX6_moveWeight yX6_moveWeight ∈ g_tbl := g_tbl_in 8 (by decide +kernel) (by decide +kernel)
theorem dX6_learn_52 : decode cX6_learn 52 = .ok (.iconst 1, 1) := by decide +kernel
theorem dX6_learn_53 : decode cX6_learn 53 = .ok (.goto 4, 3) := by decide +kernel
theorem dX6_learn_64 : decode cX6_learn 64 = .ok (.iconst 0, 1) := by decide +kernel
theorem dX6_learn_86 : decode cX6_learn 86 = .ok (.aload_n 0, 1) := by decide +kernel
theorem dX6_learn_87 : decode cX6_learn 87 = .ok (.getfield 12, 3) := by decide +kernel
theorem dX6_learn_90 : decode cX6_learn 90 = .ok (.getfield 67, 3) := by decide +kernel
theorem dX6_learn_93 : decode cX6_learn 93 = .ok (.iload_n 3, 1) := by decide +kernel
theorem dX6_learn_94 : decode cX6_learn 94 = .ok (.iaload, 1) := by decide +kernel
theorem dX6_learn_95 : decode cX6_learn 95 = .ok (.ineg, 1) := by decide +kernel
theorem dX6_learn_43 : decode cX6_learn 43 = .ok (.iconst 1, 1) := by decide +kernel
theorem dX6_learn_44 : decode cX6_learn 44 = .ok (.goto 4, 3) := by decide +kernel
set_option maxRecDepth 100000 in
set_option maxHeartbeats 4000000 in
theorem lp_wk_X6_learn_17 (E : g_E) (ps : Nat) (p : Nat) (we : Nat) (inp : Nat) (ba : Nat) (gu : Nat) (te : Nat) (de : Nat)  {X : g_X} (B : Bd E X cX6_learn RX6 5 2 46 0 0) (hr : Rt E X (some .int) 0 0 (fun v_ w_ => ∃ zps_5 : Int32, ∃ zps_6 : Int32, ∃ zps_7 : Int32, ∃ zp_2 : Nat, ∃ zte_f : Nat → Int32, ∃ zde_f : Nat → Int32, ∃ zwe_f : Nat → Int32, ∃ zinp_f : Nat → Int32, ∃ zba_f : Nat → Int32, ∃ zgu_f : Nat → Int32, ∃ zr : Int32, (zp_2 ≤ 8) ∧ v_ = some (.int zr) ∧ w_ = [(ps, .inr (6, [.ref p, .ref we, .ref inp, .ref ba, .ref gu, .int zps_5, .int zps_6, .int zps_7])), (p, .inr (7, [.ref te, .ref de, .int (nI zp_2)])), (te, .inl (E.2.2.1 0, 8, .inl zte_f)), (de, .inl (E.2.2.1 0, 8, .inl zde_f)), (we, .inl (E.2.2.1 0, 16, .inl zwe_f)), (inp, .inl (E.2.2.1 0, 128, .inl zinp_f)), (ba, .inl (E.2.2.1 0, 8, .inl zba_f)), (gu, .inl (E.2.2.1 0, 8, .inl zgu_f))])) (K : ∀ (ps_5 : Int32) (ps_6 : Int32) (ps_7 : Int32) (p_2 : Nat) (te_f : Nat → Int32) (de_f : Nat → Int32) (we_f : Nat → Int32) (inp_f : Nat → Int32) (ba_f : Nat → Int32) (gu_f : Nat → Int32) (l1 : Int32) (l2 : Int32) (l3 : Int32), p_2 ≤ 8 → G E X 5 [(ps, .inr (6, [.ref p, .ref we, .ref inp, .ref ba, .ref gu, .int ps_5, .int ps_6, .int ps_7])), (p, .inr (7, [.ref te, .ref de, .int (nI p_2)])), (te, .inl (E.2.2.1 0, 8, .inl te_f)), (de, .inl (E.2.2.1 0, 8, .inl de_f)), (we, .inl (E.2.2.1 0, 16, .inl we_f)), (inp, .inl (E.2.2.1 0, 128, .inl inp_f)), (ba, .inl (E.2.2.1 0, 8, .inl ba_f)), (gu, .inl (E.2.2.1 0, 8, .inl gu_f))] 0 0 [(0, .ref ps), (1, .int l1), (2, .int l2), (3, .int l3)] 130 []) : ∀ (n : Nat) (ps_5 : Int32) (ps_6 : Int32) (ps_7 : Int32) (p_2 : Nat) (te_f : Nat → Int32) (de_f : Nat → Int32) (we_f : Nat → Int32) (inp_f : Nat → Int32) (ba_f : Nat → Int32) (gu_f : Nat → Int32) (l1 : Int32) (l2 : Int32) (l3 : Int32), p_2 ≤ 8 → l3 < 8 → (Int32.toInt l3 + 1).toNat < n → G E X 5 [(ps, .inr (6, [.ref p, .ref we, .ref inp, .ref ba, .ref gu, .int ps_5, .int ps_6, .int ps_7])), (p, .inr (7, [.ref te, .ref de, .int (nI p_2)])), (te, .inl (E.2.2.1 0, 8, .inl te_f)), (de, .inl (E.2.2.1 0, 8, .inl de_f)), (we, .inl (E.2.2.1 0, 16, .inl we_f)), (inp, .inl (E.2.2.1 0, 128, .inl inp_f)), (ba, .inl (E.2.2.1 0, 8, .inl ba_f)), (gu, .inl (E.2.2.1 0, 8, .inl gu_f))] 0 0 [(0, .ref ps), (1, .int l1), (2, .int l2), (3, .int l3)] 17 [] := by
  intro n
  induction n with
  | zero => intro ps_5 ps_6 ps_7 p_2 te_f de_f we_f inp_f ba_f gu_f l1 l2 l3 _ _ h; exact absurd h (Nat.not_lt_zero _)
  | succ n ih =>
    intro ps_5 ps_6 ps_7 p_2 te_f de_f we_f inp_f ba_f gu_f l1 l2 l3 hs0 hv0 hm
    refine g_iload_n B dX6_learn_17 rfl 3 rfl ?_
    refine g_if_lt (tgt := 130) B dX6_learn_18 (by decide) (fun c18_276 => ?_) (fun c18_276 => ?_)
    · exact K ps_5 ps_6 ps_7 p_2 te_f de_f we_f inp_f ba_f gu_f l1 l2 l3 (by first | assumption | omega | decide)
    · refine g_aload_n B dX6_learn_21 rfl 0 rfl ?_
      refine g_get B 0 3 fl_X6_25 rfl rfl dX6_learn_22 ?_
      refine g_iload_n B dX6_learn_25 rfl 3 rfl ?_
      refine g_iald B 6 rfl (in_lt (by decide) c18_276 hv0) dX6_learn_26 ?_
      refine g_if_eq (tgt := 99) B dX6_learn_27 (by decide) (fun c27_277 => ?_) (fun c27_277 => ?_)
      · refine g_iload_n B dX6_learn_99 rfl 2 rfl ?_
        refine g_aload_n B dX6_learn_100 rfl 0 rfl ?_
        refine g_get B 0 4 fl_X6_28 rfl rfl dX6_learn_101 ?_
        refine g_iload_n B dX6_learn_104 rfl 3 rfl ?_
        refine g_iald B 7 rfl (in_lt (by decide) c18_276 hv0) dX6_learn_105 ?_
        refine g_iadd B dX6_learn_106 ?_
        refine g_istore_n (lv' := [(2, .int (l2 + (gu_f (Int32.toNatClampNeg l3)))), (0, .ref ps), (1, .int l1), (3, .int l3)]) B dX6_learn_107 rfl (by decide) rfl ?_
        refine g_aload_n B dX6_learn_108 rfl 1 rfl ?_
        refine g_get B 0 2 fl_X6_22 rfl rfl dX6_learn_109 ?_
        refine g_aload_n B dX6_learn_112 rfl 1 rfl ?_
        refine g_iload_n B dX6_learn_113 rfl 3 rfl ?_
        refine g_aload_n B dX6_learn_114 rfl 1 rfl ?_
        refine g_get B 0 7 fl_X6_38 rfl rfl dX6_learn_115 ?_
        refine g_iconst (v := 0) B dX6_learn_118 (by decide) ?_
        refine g_callV (st := [.ref inp]) (As := [.int l3, .int ps_7, .int 0]) (wr := [(p, .inr (7, [.ref te, .ref de, .int (nI p_2)])), (te, .inl (E.2.2.1 0, 8, .inl te_f)), (de, .inl (E.2.2.1 0, 8, .inl de_f)), (we, .inl (E.2.2.1 0, 16, .inl we_f)), (inp, .inl (E.2.2.1 0, 128, .inl inp_f)), (ba, .inl (E.2.2.1 0, 8, .inl ba_f)), (gu, .inl (E.2.2.1 0, 8, .inl gu_f))]) (nc' := 0) (ns' := 0) B cl_X6_74 w_im_X6_slot w_se_X6_slot (ev_X6_slot E ps p we inp ba gu ps_5 ps_6 ps_7 l3 ps_7 0 ) rfl [0] [1, 2, 3, 4, 5, 6, 7] rfl rfl (by decide) (by decide) (by decide) 0 rfl (fun q h => by cases h; rfl) rfl ⟨by decide, by decide⟩ rfl rfl (by decide) (by decide) rfl (Nat.le_of_ble_eq_true rfl) dX6_learn_119 (fun v w hq => ?_)
        obtain ⟨rfl, rfl⟩ := hq
        show G E X 5 [(p, .inr (7, [.ref te, .ref de, .int (nI p_2)])), (te, .inl (E.2.2.1 0, 8, .inl te_f)), (de, .inl (E.2.2.1 0, 8, .inl de_f)), (we, .inl (E.2.2.1 0, 16, .inl we_f)), (inp, .inl (E.2.2.1 0, 128, .inl inp_f)), (ba, .inl (E.2.2.1 0, 8, .inl ba_f)), (gu, .inl (E.2.2.1 0, 8, .inl gu_f)), (ps, .inr (6, [.ref p, .ref we, .ref inp, .ref ba, .ref gu, .int ps_5, .int ps_6, .int ps_7]))] 0 0 [(2, .int (l2 + (gu_f (Int32.toNatClampNeg l3)))), (0, .ref ps), (1, .int l1), (3, .int l3)] 122 [.int ((((l3 &&& 7) * 16) + ((ps_7 &&& 1) * 8)) + ((ps_6 - 0) &&& 7)), .ref inp]
        refine g_iload_n B dX6_learn_122 rfl 0 rfl ?_
        refine g_iast (ws' := [(p, .inr (7, [.ref te, .ref de, .int (nI p_2)])), (te, .inl (E.2.2.1 0, 8, .inl te_f)), (de, .inl (E.2.2.1 0, 8, .inl de_f)), (we, .inl (E.2.2.1 0, 16, .inl we_f)), (inp, .inl (E.2.2.1 0, 128, .inl (upd inp_f (Int32.toNatClampNeg ((((l3 &&& 7) * 16) + ((ps_7 &&& 1) * 8)) + ((ps_6 - 0) &&& 7))) (l2 + (gu_f (Int32.toNatClampNeg l3)))))), (ba, .inl (E.2.2.1 0, 8, .inl ba_f)), (gu, .inl (E.2.2.1 0, 8, .inl gu_f)), (ps, .inr (6, [.ref p, .ref we, .ref inp, .ref ba, .ref gu, .int ps_5, .int ps_6, .int ps_7]))]) B 4 rfl (in_sl _ _ _) rfl dX6_learn_123 ?_
        refine g_iinc (v := (l3 + (-1))) (lv' := [(3, .int (l3 + (-1))), (2, .int (l2 + (gu_f (Int32.toNatClampNeg l3)))), (0, .ref ps), (1, .int l1)]) B dX6_learn_124 3 rfl rfl (by decide) rfl ?_
        refine g_goto (tgt := 17) B dX6_learn_127 (by decide) ?_
        refine g_sub (ws' := [(ps, .inr (6, [.ref p, .ref we, .ref inp, .ref ba, .ref gu, .int ps_5, .int ps_6, .int ps_7])), (p, .inr (7, [.ref te, .ref de, .int (nI p_2)])), (te, .inl (E.2.2.1 0, 8, .inl te_f)), (de, .inl (E.2.2.1 0, 8, .inl de_f)), (we, .inl (E.2.2.1 0, 16, .inl we_f)), (inp, .inl (E.2.2.1 0, 128, .inl (upd inp_f (Int32.toNatClampNeg ((((l3 &&& 7) * 16) + ((ps_7 &&& 1) * 8)) + ((ps_6 - 0) &&& 7))) (l2 + (gu_f (Int32.toNatClampNeg l3)))))), (ba, .inl (E.2.2.1 0, 8, .inl ba_f)), (gu, .inl (E.2.2.1 0, 8, .inl gu_f))]) [7, 0, 1, 2, 3, 4, 5, 6] (by decide) rfl ?_
        refine g_lvsub (lv' := [(0, .ref ps), (1, .int l1), (2, .int (l2 + (gu_f (Int32.toNatClampNeg l3)))), (3, .int (l3 + (-1)))]) [2, 3, 1, 0] rfl ?_
        exact ih ps_5 ps_6 ps_7 p_2 te_f de_f we_f (upd inp_f (Int32.toNatClampNeg ((((l3 &&& 7) * 16) + ((ps_7 &&& 1) * 8)) + ((ps_6 - 0) &&& 7))) (l2 + (gu_f (Int32.toNatClampNeg l3)))) ba_f gu_f l1 (l2 + (gu_f (Int32.toNatClampNeg l3))) (l3 + (-1)) (by first | assumption | omega | decide) (lr_s c18_276 hv0) (Nat.lt_of_lt_of_le (st_dn c18_276) (Nat.le_of_lt_succ hm))
      · refine g_iload_n B dX6_learn_30 rfl 2 rfl ?_
        refine g_if_eq (tgt := 99) B dX6_learn_31 (by decide) (fun c31_278 => ?_) (fun c31_278 => ?_)
        · refine g_iload_n B dX6_learn_99 rfl 2 rfl ?_
          refine g_aload_n B dX6_learn_100 rfl 0 rfl ?_
          refine g_get B 0 4 fl_X6_28 rfl rfl dX6_learn_101 ?_
          refine g_iload_n B dX6_learn_104 rfl 3 rfl ?_
          refine g_iald B 7 rfl (in_lt (by decide) c18_276 hv0) dX6_learn_105 ?_
          refine g_iadd B dX6_learn_106 ?_
          refine g_istore_n (lv' := [(2, .int (l2 + (gu_f (Int32.toNatClampNeg l3)))), (0, .ref ps), (1, .int l1), (3, .int l3)]) B dX6_learn_107 rfl (by decide) rfl ?_
          refine g_aload_n B dX6_learn_108 rfl 1 rfl ?_
          refine g_get B 0 2 fl_X6_22 rfl rfl dX6_learn_109 ?_
          refine g_aload_n B dX6_learn_112 rfl 1 rfl ?_
          refine g_iload_n B dX6_learn_113 rfl 3 rfl ?_
          refine g_aload_n B dX6_learn_114 rfl 1 rfl ?_
          refine g_get B 0 7 fl_X6_38 rfl rfl dX6_learn_115 ?_
          refine g_iconst (v := 0) B dX6_learn_118 (by decide) ?_
          refine g_callV (st := [.ref inp]) (As := [.int l3, .int ps_7, .int 0]) (wr := [(p, .inr (7, [.ref te, .ref de, .int (nI p_2)])), (te, .inl (E.2.2.1 0, 8, .inl te_f)), (de, .inl (E.2.2.1 0, 8, .inl de_f)), (we, .inl (E.2.2.1 0, 16, .inl we_f)), (inp, .inl (E.2.2.1 0, 128, .inl inp_f)), (ba, .inl (E.2.2.1 0, 8, .inl ba_f)), (gu, .inl (E.2.2.1 0, 8, .inl gu_f))]) (nc' := 0) (ns' := 0) B cl_X6_74 w_im_X6_slot w_se_X6_slot (ev_X6_slot E ps p we inp ba gu ps_5 ps_6 ps_7 l3 ps_7 0 ) rfl [0] [1, 2, 3, 4, 5, 6, 7] rfl rfl (by decide) (by decide) (by decide) 0 rfl (fun q h => by cases h; rfl) rfl ⟨by decide, by decide⟩ rfl rfl (by decide) (by decide) rfl (Nat.le_of_ble_eq_true rfl) dX6_learn_119 (fun v w hq => ?_)
          obtain ⟨rfl, rfl⟩ := hq
          show G E X 5 [(p, .inr (7, [.ref te, .ref de, .int (nI p_2)])), (te, .inl (E.2.2.1 0, 8, .inl te_f)), (de, .inl (E.2.2.1 0, 8, .inl de_f)), (we, .inl (E.2.2.1 0, 16, .inl we_f)), (inp, .inl (E.2.2.1 0, 128, .inl inp_f)), (ba, .inl (E.2.2.1 0, 8, .inl ba_f)), (gu, .inl (E.2.2.1 0, 8, .inl gu_f)), (ps, .inr (6, [.ref p, .ref we, .ref inp, .ref ba, .ref gu, .int ps_5, .int ps_6, .int ps_7]))] 0 0 [(2, .int (l2 + (gu_f (Int32.toNatClampNeg l3)))), (0, .ref ps), (1, .int l1), (3, .int l3)] 122 [.int ((((l3 &&& 7) * 16) + ((ps_7 &&& 1) * 8)) + ((ps_6 - 0) &&& 7)), .ref inp]
          refine g_iload_n B dX6_learn_122 rfl 0 rfl ?_
          refine g_iast (ws' := [(p, .inr (7, [.ref te, .ref de, .int (nI p_2)])), (te, .inl (E.2.2.1 0, 8, .inl te_f)), (de, .inl (E.2.2.1 0, 8, .inl de_f)), (we, .inl (E.2.2.1 0, 16, .inl we_f)), (inp, .inl (E.2.2.1 0, 128, .inl (upd inp_f (Int32.toNatClampNeg ((((l3 &&& 7) * 16) + ((ps_7 &&& 1) * 8)) + ((ps_6 - 0) &&& 7))) (l2 + (gu_f (Int32.toNatClampNeg l3)))))), (ba, .inl (E.2.2.1 0, 8, .inl ba_f)), (gu, .inl (E.2.2.1 0, 8, .inl gu_f)), (ps, .inr (6, [.ref p, .ref we, .ref inp, .ref ba, .ref gu, .int ps_5, .int ps_6, .int ps_7]))]) B 4 rfl (in_sl _ _ _) rfl dX6_learn_123 ?_
          refine g_iinc (v := (l3 + (-1))) (lv' := [(3, .int (l3 + (-1))), (2, .int (l2 + (gu_f (Int32.toNatClampNeg l3)))), (0, .ref ps), (1, .int l1)]) B dX6_learn_124 3 rfl rfl (by decide) rfl ?_
          refine g_goto (tgt := 17) B dX6_learn_127 (by decide) ?_
          refine g_sub (ws' := [(ps, .inr (6, [.ref p, .ref we, .ref inp, .ref ba, .ref gu, .int ps_5, .int ps_6, .int ps_7])), (p, .inr (7, [.ref te, .ref de, .int (nI p_2)])), (te, .inl (E.2.2.1 0, 8, .inl te_f)), (de, .inl (E.2.2.1 0, 8, .inl de_f)), (we, .inl (E.2.2.1 0, 16, .inl we_f)), (inp, .inl (E.2.2.1 0, 128, .inl (upd inp_f (Int32.toNatClampNeg ((((l3 &&& 7) * 16) + ((ps_7 &&& 1) * 8)) + ((ps_6 - 0) &&& 7))) (l2 + (gu_f (Int32.toNatClampNeg l3)))))), (ba, .inl (E.2.2.1 0, 8, .inl ba_f)), (gu, .inl (E.2.2.1 0, 8, .inl gu_f))]) [7, 0, 1, 2, 3, 4, 5, 6] (by decide) rfl ?_
          refine g_lvsub (lv' := [(0, .ref ps), (1, .int l1), (2, .int (l2 + (gu_f (Int32.toNatClampNeg l3)))), (3, .int (l3 + (-1)))]) [2, 3, 1, 0] rfl ?_
          exact ih ps_5 ps_6 ps_7 p_2 te_f de_f we_f (upd inp_f (Int32.toNatClampNeg ((((l3 &&& 7) * 16) + ((ps_7 &&& 1) * 8)) + ((ps_6 - 0) &&& 7))) (l2 + (gu_f (Int32.toNatClampNeg l3)))) ba_f gu_f l1 (l2 + (gu_f (Int32.toNatClampNeg l3))) (l3 + (-1)) (by first | assumption | omega | decide) (lr_s c18_276 hv0) (Nat.lt_of_lt_of_le (st_dn c18_276) (Nat.le_of_lt_succ hm))
        · refine g_aload_n B dX6_learn_34 rfl 0 rfl ?_
          refine g_get B 0 3 fl_X6_25 rfl rfl dX6_learn_35 ?_
          refine g_iload_n B dX6_learn_38 rfl 3 rfl ?_
          refine g_iald B 6 rfl (in_lt (by decide) c18_276 hv0) dX6_learn_39 ?_
          refine g_if_ge (tgt := 47) B dX6_learn_40 (by decide) (fun c40_279 => ?_) (fun c40_279 => ?_)
          · refine g_iconst (v := 0) B dX6_learn_47 (by decide) ?_
            refine g_iload_n B dX6_learn_48 rfl 2 rfl ?_
            refine g_if_ge (tgt := 56) B dX6_learn_49 (by decide) (fun c49_280 => ?_) (fun c49_280 => ?_)
            · refine g_iconst (v := 0) B dX6_learn_56 (by decide) ?_
              refine g_icmp_ne (tgt := 64) B dX6_learn_57 (by decide) (fun h => absurd (by decide) h) (fun c57 => ?_)
              refine g_iconst (v := 1) B dX6_learn_60 (by decide) ?_
              refine g_goto (tgt := 65) B dX6_learn_61 (by decide) ?_
              refine g_istore (lv' := [(4, .int 1), (0, .ref ps), (1, .int l1), (2, .int l2), (3, .int l3)]) B dX6_learn_65 (by decide) rfl ?_
              refine g_aload_n B dX6_learn_67 rfl 1 rfl ?_
              refine g_iload_n B dX6_learn_68 rfl 4 rfl ?_
              refine g_iload B dX6_learn_69 0 rfl ?_
              refine g_if_eq (tgt := 86) B dX6_learn_71 (by decide) (fun h => absurd h (by decide)) (fun c71 => ?_)
              refine g_aload_n B dX6_learn_74 rfl 1 rfl ?_
              refine g_get B 0 0 fl_X6_12 rfl rfl dX6_learn_75 ?_
              refine g_get B 1 1 fl_X6_67 rfl rfl dX6_learn_78 ?_
              refine g_iload_n B dX6_learn_81 rfl 4 rfl ?_
              refine g_iald B 3 rfl (in_lt (by decide) c18_276 hv0) dX6_learn_82 ?_
              refine g_goto (tgt := 96) B dX6_learn_83 (by decide) ?_
              refine g_callV (st := []) (As := [.int l3, .int (de_f (Int32.toNatClampNeg l3))]) (wr := [(p, .inr (7, [.ref te, .ref de, .int (nI p_2)])), (te, .inl (E.2.2.1 0, 8, .inl te_f)), (de, .inl (E.2.2.1 0, 8, .inl de_f)), (inp, .inl (E.2.2.1 0, 128, .inl inp_f)), (ba, .inl (E.2.2.1 0, 8, .inl ba_f)), (gu, .inl (E.2.2.1 0, 8, .inl gu_f))]) (nc' := 0) (ns' := 0) B cl_X6_70 w_im_X6_moveWeight w_se_X6_moveWeight (wk_X6_moveWeight E ps p we inp ba gu ps_5 ps_6 ps_7 we_f l3 (de_f (Int32.toNatClampNeg l3)) ) rfl [0, 4] [1, 2, 3, 5, 6, 7] rfl rfl (by decide) (by decide) (by decide) 0 rfl (fun q h => by cases h; rfl) rfl ⟨by decide, by decide⟩ rfl rfl (by decide) (by decide) rfl (Nat.le_of_ble_eq_true rfl) dX6_learn_96 (fun v w hq => ?_)
              obtain ⟨zps_5_281, zps_6_282, zps_7_283, zwe_f_284, rfl, rfl⟩ := hq
              show G E X 5 [(p, .inr (7, [.ref te, .ref de, .int (nI p_2)])), (te, .inl (E.2.2.1 0, 8, .inl te_f)), (de, .inl (E.2.2.1 0, 8, .inl de_f)), (inp, .inl (E.2.2.1 0, 128, .inl inp_f)), (ba, .inl (E.2.2.1 0, 8, .inl ba_f)), (gu, .inl (E.2.2.1 0, 8, .inl gu_f)), (ps, .inr (6, [.ref p, .ref we, .ref inp, .ref ba, .ref gu, .int zps_5_281, .int zps_6_282, .int zps_7_283])), (we, .inl (E.2.2.1 0, 16, .inl zwe_f_284))] 0 0 [(4, .int 1), (0, .ref ps), (1, .int l1), (2, .int l2), (3, .int l3)] 99 []
              refine g_iload_n B dX6_learn_99 rfl 3 rfl ?_
              refine g_aload_n B dX6_learn_100 rfl 1 rfl ?_
              refine g_get B 6 4 fl_X6_28 rfl rfl dX6_learn_101 ?_
              refine g_iload_n B dX6_learn_104 rfl 4 rfl ?_
              refine g_iald B 5 rfl (in_lt (by decide) c18_276 hv0) dX6_learn_105 ?_
              refine g_iadd B dX6_learn_106 ?_
              refine g_istore_n (lv' := [(2, .int (l2 + (gu_f (Int32.toNatClampNeg l3)))), (4, .int 1), (0, .ref ps), (1, .int l1), (3, .int l3)]) B dX6_learn_107 rfl (by decide) rfl ?_
              refine g_aload_n B dX6_learn_108 rfl 2 rfl ?_
              refine g_get B 6 2 fl_X6_22 rfl rfl dX6_learn_109 ?_
              refine g_aload_n B dX6_learn_112 rfl 2 rfl ?_
              refine g_iload_n B dX6_learn_113 rfl 4 rfl ?_
              refine g_aload_n B dX6_learn_114 rfl 2 rfl ?_
              refine g_get B 6 7 fl_X6_38 rfl rfl dX6_learn_115 ?_
              refine g_iconst (v := 0) B dX6_learn_118 (by decide) ?_
              refine g_callV (st := [.ref inp]) (As := [.int l3, .int zps_7_283, .int 0]) (wr := [(p, .inr (7, [.ref te, .ref de, .int (nI p_2)])), (te, .inl (E.2.2.1 0, 8, .inl te_f)), (de, .inl (E.2.2.1 0, 8, .inl de_f)), (inp, .inl (E.2.2.1 0, 128, .inl inp_f)), (ba, .inl (E.2.2.1 0, 8, .inl ba_f)), (gu, .inl (E.2.2.1 0, 8, .inl gu_f)), (we, .inl (E.2.2.1 0, 16, .inl zwe_f_284))]) (nc' := 0) (ns' := 0) B cl_X6_74 w_im_X6_slot w_se_X6_slot (ev_X6_slot E ps p we inp ba gu zps_5_281 zps_6_282 zps_7_283 l3 zps_7_283 0 ) rfl [6] [0, 1, 2, 3, 4, 5, 7] rfl rfl (by decide) (by decide) (by decide) 0 rfl (fun q h => by cases h; rfl) rfl ⟨by decide, by decide⟩ rfl rfl (by decide) (by decide) rfl (Nat.le_of_ble_eq_true rfl) dX6_learn_119 (fun v w hq => ?_)
              obtain ⟨rfl, rfl⟩ := hq
              show G E X 5 [(p, .inr (7, [.ref te, .ref de, .int (nI p_2)])), (te, .inl (E.2.2.1 0, 8, .inl te_f)), (de, .inl (E.2.2.1 0, 8, .inl de_f)), (inp, .inl (E.2.2.1 0, 128, .inl inp_f)), (ba, .inl (E.2.2.1 0, 8, .inl ba_f)), (gu, .inl (E.2.2.1 0, 8, .inl gu_f)), (we, .inl (E.2.2.1 0, 16, .inl zwe_f_284)), (ps, .inr (6, [.ref p, .ref we, .ref inp, .ref ba, .ref gu, .int zps_5_281, .int zps_6_282, .int zps_7_283]))] 0 0 [(2, .int (l2 + (gu_f (Int32.toNatClampNeg l3)))), (4, .int 1), (0, .ref ps), (1, .int l1), (3, .int l3)] 122 [.int ((((l3 &&& 7) * 16) + ((zps_7_283 &&& 1) * 8)) + ((zps_6_282 - 0) &&& 7)), .ref inp]
              refine g_iload_n B dX6_learn_122 rfl 0 rfl ?_
              refine g_iast (ws' := [(p, .inr (7, [.ref te, .ref de, .int (nI p_2)])), (te, .inl (E.2.2.1 0, 8, .inl te_f)), (de, .inl (E.2.2.1 0, 8, .inl de_f)), (inp, .inl (E.2.2.1 0, 128, .inl (upd inp_f (Int32.toNatClampNeg ((((l3 &&& 7) * 16) + ((zps_7_283 &&& 1) * 8)) + ((zps_6_282 - 0) &&& 7))) (l2 + (gu_f (Int32.toNatClampNeg l3)))))), (ba, .inl (E.2.2.1 0, 8, .inl ba_f)), (gu, .inl (E.2.2.1 0, 8, .inl gu_f)), (we, .inl (E.2.2.1 0, 16, .inl zwe_f_284)), (ps, .inr (6, [.ref p, .ref we, .ref inp, .ref ba, .ref gu, .int zps_5_281, .int zps_6_282, .int zps_7_283]))]) B 3 rfl (in_sl _ _ _) rfl dX6_learn_123 ?_
              refine g_iinc (v := (l3 + (-1))) (lv' := [(3, .int (l3 + (-1))), (2, .int (l2 + (gu_f (Int32.toNatClampNeg l3)))), (4, .int 1), (0, .ref ps), (1, .int l1)]) B dX6_learn_124 4 rfl rfl (by decide) rfl ?_
              refine g_goto (tgt := 17) B dX6_learn_127 (by decide) ?_
              refine g_sub (ws' := [(ps, .inr (6, [.ref p, .ref we, .ref inp, .ref ba, .ref gu, .int zps_5_281, .int zps_6_282, .int zps_7_283])), (p, .inr (7, [.ref te, .ref de, .int (nI p_2)])), (te, .inl (E.2.2.1 0, 8, .inl te_f)), (de, .inl (E.2.2.1 0, 8, .inl de_f)), (we, .inl (E.2.2.1 0, 16, .inl zwe_f_284)), (inp, .inl (E.2.2.1 0, 128, .inl (upd inp_f (Int32.toNatClampNeg ((((l3 &&& 7) * 16) + ((zps_7_283 &&& 1) * 8)) + ((zps_6_282 - 0) &&& 7))) (l2 + (gu_f (Int32.toNatClampNeg l3)))))), (ba, .inl (E.2.2.1 0, 8, .inl ba_f)), (gu, .inl (E.2.2.1 0, 8, .inl gu_f))]) [7, 0, 1, 2, 6, 3, 4, 5] (by decide) rfl ?_
              refine g_lvsub (lv' := [(0, .ref ps), (1, .int l1), (2, .int (l2 + (gu_f (Int32.toNatClampNeg l3)))), (3, .int (l3 + (-1)))]) [3, 4, 1, 0] rfl ?_
              exact ih zps_5_281 zps_6_282 zps_7_283 p_2 te_f de_f zwe_f_284 (upd inp_f (Int32.toNatClampNeg ((((l3 &&& 7) * 16) + ((zps_7_283 &&& 1) * 8)) + ((zps_6_282 - 0) &&& 7))) (l2 + (gu_f (Int32.toNatClampNeg l3)))) ba_f gu_f l1 (l2 + (gu_f (Int32.toNatClampNeg l3))) (l3 + (-1)) (by first | assumption | omega | decide) (lr_s c18_276 hv0) (Nat.lt_of_lt_of_le (st_dn c18_276) (Nat.le_of_lt_succ hm))
            · refine g_iconst (v := 1) B dX6_learn_52 (by decide) ?_
              refine g_goto (tgt := 57) B dX6_learn_53 (by decide) ?_
              refine g_icmp_ne (tgt := 64) B dX6_learn_57 (by decide) (fun c57 => ?_) (fun h => absurd h (by decide))
              refine g_iconst (v := 0) B dX6_learn_64 (by decide) ?_
              refine g_istore (lv' := [(4, .int 0), (0, .ref ps), (1, .int l1), (2, .int l2), (3, .int l3)]) B dX6_learn_65 (by decide) rfl ?_
              refine g_aload_n B dX6_learn_67 rfl 1 rfl ?_
              refine g_iload_n B dX6_learn_68 rfl 4 rfl ?_
              refine g_iload B dX6_learn_69 0 rfl ?_
              refine g_if_eq (tgt := 86) B dX6_learn_71 (by decide) (fun c71 => ?_) (fun h => absurd (by decide) h)
              refine g_aload_n B dX6_learn_86 rfl 1 rfl ?_
              refine g_get B 0 0 fl_X6_12 rfl rfl dX6_learn_87 ?_
              refine g_get B 1 1 fl_X6_67 rfl rfl dX6_learn_90 ?_
              refine g_iload_n B dX6_learn_93 rfl 4 rfl ?_
              refine g_iald B 3 rfl (in_lt (by decide) c18_276 hv0) dX6_learn_94 ?_
              refine g_ineg B dX6_learn_95 ?_
              refine g_callV (st := []) (As := [.int l3, .int (-(de_f (Int32.toNatClampNeg l3)))]) (wr := [(p, .inr (7, [.ref te, .ref de, .int (nI p_2)])), (te, .inl (E.2.2.1 0, 8, .inl te_f)), (de, .inl (E.2.2.1 0, 8, .inl de_f)), (inp, .inl (E.2.2.1 0, 128, .inl inp_f)), (ba, .inl (E.2.2.1 0, 8, .inl ba_f)), (gu, .inl (E.2.2.1 0, 8, .inl gu_f))]) (nc' := 0) (ns' := 0) B cl_X6_70 w_im_X6_moveWeight w_se_X6_moveWeight (wk_X6_moveWeight E ps p we inp ba gu ps_5 ps_6 ps_7 we_f l3 (-(de_f (Int32.toNatClampNeg l3))) ) rfl [0, 4] [1, 2, 3, 5, 6, 7] rfl rfl (by decide) (by decide) (by decide) 0 rfl (fun q h => by cases h; rfl) rfl ⟨by decide, by decide⟩ rfl rfl (by decide) (by decide) rfl (Nat.le_of_ble_eq_true rfl) dX6_learn_96 (fun v w hq => ?_)
              obtain ⟨zps_5_285, zps_6_286, zps_7_287, zwe_f_288, rfl, rfl⟩ := hq
              show G E X 5 [(p, .inr (7, [.ref te, .ref de, .int (nI p_2)])), (te, .inl (E.2.2.1 0, 8, .inl te_f)), (de, .inl (E.2.2.1 0, 8, .inl de_f)), (inp, .inl (E.2.2.1 0, 128, .inl inp_f)), (ba, .inl (E.2.2.1 0, 8, .inl ba_f)), (gu, .inl (E.2.2.1 0, 8, .inl gu_f)), (ps, .inr (6, [.ref p, .ref we, .ref inp, .ref ba, .ref gu, .int zps_5_285, .int zps_6_286, .int zps_7_287])), (we, .inl (E.2.2.1 0, 16, .inl zwe_f_288))] 0 0 [(4, .int 0), (0, .ref ps), (1, .int l1), (2, .int l2), (3, .int l3)] 99 []
              refine g_iload_n B dX6_learn_99 rfl 3 rfl ?_
              refine g_aload_n B dX6_learn_100 rfl 1 rfl ?_
              refine g_get B 6 4 fl_X6_28 rfl rfl dX6_learn_101 ?_
              refine g_iload_n B dX6_learn_104 rfl 4 rfl ?_
              refine g_iald B 5 rfl (in_lt (by decide) c18_276 hv0) dX6_learn_105 ?_
              refine g_iadd B dX6_learn_106 ?_
              refine g_istore_n (lv' := [(2, .int (l2 + (gu_f (Int32.toNatClampNeg l3)))), (4, .int 0), (0, .ref ps), (1, .int l1), (3, .int l3)]) B dX6_learn_107 rfl (by decide) rfl ?_
              refine g_aload_n B dX6_learn_108 rfl 2 rfl ?_
              refine g_get B 6 2 fl_X6_22 rfl rfl dX6_learn_109 ?_
              refine g_aload_n B dX6_learn_112 rfl 2 rfl ?_
              refine g_iload_n B dX6_learn_113 rfl 4 rfl ?_
              refine g_aload_n B dX6_learn_114 rfl 2 rfl ?_
              refine g_get B 6 7 fl_X6_38 rfl rfl dX6_learn_115 ?_
              refine g_iconst (v := 0) B dX6_learn_118 (by decide) ?_
              refine g_callV (st := [.ref inp]) (As := [.int l3, .int zps_7_287, .int 0]) (wr := [(p, .inr (7, [.ref te, .ref de, .int (nI p_2)])), (te, .inl (E.2.2.1 0, 8, .inl te_f)), (de, .inl (E.2.2.1 0, 8, .inl de_f)), (inp, .inl (E.2.2.1 0, 128, .inl inp_f)), (ba, .inl (E.2.2.1 0, 8, .inl ba_f)), (gu, .inl (E.2.2.1 0, 8, .inl gu_f)), (we, .inl (E.2.2.1 0, 16, .inl zwe_f_288))]) (nc' := 0) (ns' := 0) B cl_X6_74 w_im_X6_slot w_se_X6_slot (ev_X6_slot E ps p we inp ba gu zps_5_285 zps_6_286 zps_7_287 l3 zps_7_287 0 ) rfl [6] [0, 1, 2, 3, 4, 5, 7] rfl rfl (by decide) (by decide) (by decide) 0 rfl (fun q h => by cases h; rfl) rfl ⟨by decide, by decide⟩ rfl rfl (by decide) (by decide) rfl (Nat.le_of_ble_eq_true rfl) dX6_learn_119 (fun v w hq => ?_)
              obtain ⟨rfl, rfl⟩ := hq
              show G E X 5 [(p, .inr (7, [.ref te, .ref de, .int (nI p_2)])), (te, .inl (E.2.2.1 0, 8, .inl te_f)), (de, .inl (E.2.2.1 0, 8, .inl de_f)), (inp, .inl (E.2.2.1 0, 128, .inl inp_f)), (ba, .inl (E.2.2.1 0, 8, .inl ba_f)), (gu, .inl (E.2.2.1 0, 8, .inl gu_f)), (we, .inl (E.2.2.1 0, 16, .inl zwe_f_288)), (ps, .inr (6, [.ref p, .ref we, .ref inp, .ref ba, .ref gu, .int zps_5_285, .int zps_6_286, .int zps_7_287]))] 0 0 [(2, .int (l2 + (gu_f (Int32.toNatClampNeg l3)))), (4, .int 0), (0, .ref ps), (1, .int l1), (3, .int l3)] 122 [.int ((((l3 &&& 7) * 16) + ((zps_7_287 &&& 1) * 8)) + ((zps_6_286 - 0) &&& 7)), .ref inp]
              refine g_iload_n B dX6_learn_122 rfl 0 rfl ?_
              refine g_iast (ws' := [(p, .inr (7, [.ref te, .ref de, .int (nI p_2)])), (te, .inl (E.2.2.1 0, 8, .inl te_f)), (de, .inl (E.2.2.1 0, 8, .inl de_f)), (inp, .inl (E.2.2.1 0, 128, .inl (upd inp_f (Int32.toNatClampNeg ((((l3 &&& 7) * 16) + ((zps_7_287 &&& 1) * 8)) + ((zps_6_286 - 0) &&& 7))) (l2 + (gu_f (Int32.toNatClampNeg l3)))))), (ba, .inl (E.2.2.1 0, 8, .inl ba_f)), (gu, .inl (E.2.2.1 0, 8, .inl gu_f)), (we, .inl (E.2.2.1 0, 16, .inl zwe_f_288)), (ps, .inr (6, [.ref p, .ref we, .ref inp, .ref ba, .ref gu, .int zps_5_285, .int zps_6_286, .int zps_7_287]))]) B 3 rfl (in_sl _ _ _) rfl dX6_learn_123 ?_
              refine g_iinc (v := (l3 + (-1))) (lv' := [(3, .int (l3 + (-1))), (2, .int (l2 + (gu_f (Int32.toNatClampNeg l3)))), (4, .int 0), (0, .ref ps), (1, .int l1)]) B dX6_learn_124 4 rfl rfl (by decide) rfl ?_
              refine g_goto (tgt := 17) B dX6_learn_127 (by decide) ?_
              refine g_sub (ws' := [(ps, .inr (6, [.ref p, .ref we, .ref inp, .ref ba, .ref gu, .int zps_5_285, .int zps_6_286, .int zps_7_287])), (p, .inr (7, [.ref te, .ref de, .int (nI p_2)])), (te, .inl (E.2.2.1 0, 8, .inl te_f)), (de, .inl (E.2.2.1 0, 8, .inl de_f)), (we, .inl (E.2.2.1 0, 16, .inl zwe_f_288)), (inp, .inl (E.2.2.1 0, 128, .inl (upd inp_f (Int32.toNatClampNeg ((((l3 &&& 7) * 16) + ((zps_7_287 &&& 1) * 8)) + ((zps_6_286 - 0) &&& 7))) (l2 + (gu_f (Int32.toNatClampNeg l3)))))), (ba, .inl (E.2.2.1 0, 8, .inl ba_f)), (gu, .inl (E.2.2.1 0, 8, .inl gu_f))]) [7, 0, 1, 2, 6, 3, 4, 5] (by decide) rfl ?_
              refine g_lvsub (lv' := [(0, .ref ps), (1, .int l1), (2, .int (l2 + (gu_f (Int32.toNatClampNeg l3)))), (3, .int (l3 + (-1)))]) [3, 4, 1, 0] rfl ?_
              exact ih zps_5_285 zps_6_286 zps_7_287 p_2 te_f de_f zwe_f_288 (upd inp_f (Int32.toNatClampNeg ((((l3 &&& 7) * 16) + ((zps_7_287 &&& 1) * 8)) + ((zps_6_286 - 0) &&& 7))) (l2 + (gu_f (Int32.toNatClampNeg l3)))) ba_f gu_f l1 (l2 + (gu_f (Int32.toNatClampNeg l3))) (l3 + (-1)) (by first | assumption | omega | decide) (lr_s c18_276 hv0) (Nat.lt_of_lt_of_le (st_dn c18_276) (Nat.le_of_lt_succ hm))
          · refine g_iconst (v := 1) B dX6_learn_43 (by decide) ?_
            refine g_goto (tgt := 48) B dX6_learn_44 (by decide) ?_
            refine g_iload_n B dX6_learn_48 rfl 2 rfl ?_
            refine g_if_ge (tgt := 56) B dX6_learn_49 (by decide) (fun c49_289 => ?_) (fun c49_289 => ?_)
            · refine g_iconst (v := 0) B dX6_learn_56 (by decide) ?_
              refine g_icmp_ne (tgt := 64) B dX6_learn_57 (by decide) (fun c57 => ?_) (fun h => absurd h (by decide))
              refine g_iconst (v := 0) B dX6_learn_64 (by decide) ?_
              refine g_istore (lv' := [(4, .int 0), (0, .ref ps), (1, .int l1), (2, .int l2), (3, .int l3)]) B dX6_learn_65 (by decide) rfl ?_
              refine g_aload_n B dX6_learn_67 rfl 1 rfl ?_
              refine g_iload_n B dX6_learn_68 rfl 4 rfl ?_
              refine g_iload B dX6_learn_69 0 rfl ?_
              refine g_if_eq (tgt := 86) B dX6_learn_71 (by decide) (fun c71 => ?_) (fun h => absurd (by decide) h)
              refine g_aload_n B dX6_learn_86 rfl 1 rfl ?_
              refine g_get B 0 0 fl_X6_12 rfl rfl dX6_learn_87 ?_
              refine g_get B 1 1 fl_X6_67 rfl rfl dX6_learn_90 ?_
              refine g_iload_n B dX6_learn_93 rfl 4 rfl ?_
              refine g_iald B 3 rfl (in_lt (by decide) c18_276 hv0) dX6_learn_94 ?_
              refine g_ineg B dX6_learn_95 ?_
              refine g_callV (st := []) (As := [.int l3, .int (-(de_f (Int32.toNatClampNeg l3)))]) (wr := [(p, .inr (7, [.ref te, .ref de, .int (nI p_2)])), (te, .inl (E.2.2.1 0, 8, .inl te_f)), (de, .inl (E.2.2.1 0, 8, .inl de_f)), (inp, .inl (E.2.2.1 0, 128, .inl inp_f)), (ba, .inl (E.2.2.1 0, 8, .inl ba_f)), (gu, .inl (E.2.2.1 0, 8, .inl gu_f))]) (nc' := 0) (ns' := 0) B cl_X6_70 w_im_X6_moveWeight w_se_X6_moveWeight (wk_X6_moveWeight E ps p we inp ba gu ps_5 ps_6 ps_7 we_f l3 (-(de_f (Int32.toNatClampNeg l3))) ) rfl [0, 4] [1, 2, 3, 5, 6, 7] rfl rfl (by decide) (by decide) (by decide) 0 rfl (fun q h => by cases h; rfl) rfl ⟨by decide, by decide⟩ rfl rfl (by decide) (by decide) rfl (Nat.le_of_ble_eq_true rfl) dX6_learn_96 (fun v w hq => ?_)
              obtain ⟨zps_5_290, zps_6_291, zps_7_292, zwe_f_293, rfl, rfl⟩ := hq
              show G E X 5 [(p, .inr (7, [.ref te, .ref de, .int (nI p_2)])), (te, .inl (E.2.2.1 0, 8, .inl te_f)), (de, .inl (E.2.2.1 0, 8, .inl de_f)), (inp, .inl (E.2.2.1 0, 128, .inl inp_f)), (ba, .inl (E.2.2.1 0, 8, .inl ba_f)), (gu, .inl (E.2.2.1 0, 8, .inl gu_f)), (ps, .inr (6, [.ref p, .ref we, .ref inp, .ref ba, .ref gu, .int zps_5_290, .int zps_6_291, .int zps_7_292])), (we, .inl (E.2.2.1 0, 16, .inl zwe_f_293))] 0 0 [(4, .int 0), (0, .ref ps), (1, .int l1), (2, .int l2), (3, .int l3)] 99 []
              refine g_iload_n B dX6_learn_99 rfl 3 rfl ?_
              refine g_aload_n B dX6_learn_100 rfl 1 rfl ?_
              refine g_get B 6 4 fl_X6_28 rfl rfl dX6_learn_101 ?_
              refine g_iload_n B dX6_learn_104 rfl 4 rfl ?_
              refine g_iald B 5 rfl (in_lt (by decide) c18_276 hv0) dX6_learn_105 ?_
              refine g_iadd B dX6_learn_106 ?_
              refine g_istore_n (lv' := [(2, .int (l2 + (gu_f (Int32.toNatClampNeg l3)))), (4, .int 0), (0, .ref ps), (1, .int l1), (3, .int l3)]) B dX6_learn_107 rfl (by decide) rfl ?_
              refine g_aload_n B dX6_learn_108 rfl 2 rfl ?_
              refine g_get B 6 2 fl_X6_22 rfl rfl dX6_learn_109 ?_
              refine g_aload_n B dX6_learn_112 rfl 2 rfl ?_
              refine g_iload_n B dX6_learn_113 rfl 4 rfl ?_
              refine g_aload_n B dX6_learn_114 rfl 2 rfl ?_
              refine g_get B 6 7 fl_X6_38 rfl rfl dX6_learn_115 ?_
              refine g_iconst (v := 0) B dX6_learn_118 (by decide) ?_
              refine g_callV (st := [.ref inp]) (As := [.int l3, .int zps_7_292, .int 0]) (wr := [(p, .inr (7, [.ref te, .ref de, .int (nI p_2)])), (te, .inl (E.2.2.1 0, 8, .inl te_f)), (de, .inl (E.2.2.1 0, 8, .inl de_f)), (inp, .inl (E.2.2.1 0, 128, .inl inp_f)), (ba, .inl (E.2.2.1 0, 8, .inl ba_f)), (gu, .inl (E.2.2.1 0, 8, .inl gu_f)), (we, .inl (E.2.2.1 0, 16, .inl zwe_f_293))]) (nc' := 0) (ns' := 0) B cl_X6_74 w_im_X6_slot w_se_X6_slot (ev_X6_slot E ps p we inp ba gu zps_5_290 zps_6_291 zps_7_292 l3 zps_7_292 0 ) rfl [6] [0, 1, 2, 3, 4, 5, 7] rfl rfl (by decide) (by decide) (by decide) 0 rfl (fun q h => by cases h; rfl) rfl ⟨by decide, by decide⟩ rfl rfl (by decide) (by decide) rfl (Nat.le_of_ble_eq_true rfl) dX6_learn_119 (fun v w hq => ?_)
              obtain ⟨rfl, rfl⟩ := hq
              show G E X 5 [(p, .inr (7, [.ref te, .ref de, .int (nI p_2)])), (te, .inl (E.2.2.1 0, 8, .inl te_f)), (de, .inl (E.2.2.1 0, 8, .inl de_f)), (inp, .inl (E.2.2.1 0, 128, .inl inp_f)), (ba, .inl (E.2.2.1 0, 8, .inl ba_f)), (gu, .inl (E.2.2.1 0, 8, .inl gu_f)), (we, .inl (E.2.2.1 0, 16, .inl zwe_f_293)), (ps, .inr (6, [.ref p, .ref we, .ref inp, .ref ba, .ref gu, .int zps_5_290, .int zps_6_291, .int zps_7_292]))] 0 0 [(2, .int (l2 + (gu_f (Int32.toNatClampNeg l3)))), (4, .int 0), (0, .ref ps), (1, .int l1), (3, .int l3)] 122 [.int ((((l3 &&& 7) * 16) + ((zps_7_292 &&& 1) * 8)) + ((zps_6_291 - 0) &&& 7)), .ref inp]
              refine g_iload_n B dX6_learn_122 rfl 0 rfl ?_
              refine g_iast (ws' := [(p, .inr (7, [.ref te, .ref de, .int (nI p_2)])), (te, .inl (E.2.2.1 0, 8, .inl te_f)), (de, .inl (E.2.2.1 0, 8, .inl de_f)), (inp, .inl (E.2.2.1 0, 128, .inl (upd inp_f (Int32.toNatClampNeg ((((l3 &&& 7) * 16) + ((zps_7_292 &&& 1) * 8)) + ((zps_6_291 - 0) &&& 7))) (l2 + (gu_f (Int32.toNatClampNeg l3)))))), (ba, .inl (E.2.2.1 0, 8, .inl ba_f)), (gu, .inl (E.2.2.1 0, 8, .inl gu_f)), (we, .inl (E.2.2.1 0, 16, .inl zwe_f_293)), (ps, .inr (6, [.ref p, .ref we, .ref inp, .ref ba, .ref gu, .int zps_5_290, .int zps_6_291, .int zps_7_292]))]) B 3 rfl (in_sl _ _ _) rfl dX6_learn_123 ?_
              refine g_iinc (v := (l3 + (-1))) (lv' := [(3, .int (l3 + (-1))), (2, .int (l2 + (gu_f (Int32.toNatClampNeg l3)))), (4, .int 0), (0, .ref ps), (1, .int l1)]) B dX6_learn_124 4 rfl rfl (by decide) rfl ?_
              refine g_goto (tgt := 17) B dX6_learn_127 (by decide) ?_
              refine g_sub (ws' := [(ps, .inr (6, [.ref p, .ref we, .ref inp, .ref ba, .ref gu, .int zps_5_290, .int zps_6_291, .int zps_7_292])), (p, .inr (7, [.ref te, .ref de, .int (nI p_2)])), (te, .inl (E.2.2.1 0, 8, .inl te_f)), (de, .inl (E.2.2.1 0, 8, .inl de_f)), (we, .inl (E.2.2.1 0, 16, .inl zwe_f_293)), (inp, .inl (E.2.2.1 0, 128, .inl (upd inp_f (Int32.toNatClampNeg ((((l3 &&& 7) * 16) + ((zps_7_292 &&& 1) * 8)) + ((zps_6_291 - 0) &&& 7))) (l2 + (gu_f (Int32.toNatClampNeg l3)))))), (ba, .inl (E.2.2.1 0, 8, .inl ba_f)), (gu, .inl (E.2.2.1 0, 8, .inl gu_f))]) [7, 0, 1, 2, 6, 3, 4, 5] (by decide) rfl ?_
              refine g_lvsub (lv' := [(0, .ref ps), (1, .int l1), (2, .int (l2 + (gu_f (Int32.toNatClampNeg l3)))), (3, .int (l3 + (-1)))]) [3, 4, 1, 0] rfl ?_
              exact ih zps_5_290 zps_6_291 zps_7_292 p_2 te_f de_f zwe_f_293 (upd inp_f (Int32.toNatClampNeg ((((l3 &&& 7) * 16) + ((zps_7_292 &&& 1) * 8)) + ((zps_6_291 - 0) &&& 7))) (l2 + (gu_f (Int32.toNatClampNeg l3)))) ba_f gu_f l1 (l2 + (gu_f (Int32.toNatClampNeg l3))) (l3 + (-1)) (by first | assumption | omega | decide) (lr_s c18_276 hv0) (Nat.lt_of_lt_of_le (st_dn c18_276) (Nat.le_of_lt_succ hm))
            · refine g_iconst (v := 1) B dX6_learn_52 (by decide) ?_
              refine g_goto (tgt := 57) B dX6_learn_53 (by decide) ?_
              refine g_icmp_ne (tgt := 64) B dX6_learn_57 (by decide) (fun h => absurd (by decide) h) (fun c57 => ?_)
              refine g_iconst (v := 1) B dX6_learn_60 (by decide) ?_
              refine g_goto (tgt := 65) B dX6_learn_61 (by decide) ?_
              refine g_istore (lv' := [(4, .int 1), (0, .ref ps), (1, .int l1), (2, .int l2), (3, .int l3)]) B dX6_learn_65 (by decide) rfl ?_
              refine g_aload_n B dX6_learn_67 rfl 1 rfl ?_
              refine g_iload_n B dX6_learn_68 rfl 4 rfl ?_
              refine g_iload B dX6_learn_69 0 rfl ?_
              refine g_if_eq (tgt := 86) B dX6_learn_71 (by decide) (fun h => absurd h (by decide)) (fun c71 => ?_)
              refine g_aload_n B dX6_learn_74 rfl 1 rfl ?_
              refine g_get B 0 0 fl_X6_12 rfl rfl dX6_learn_75 ?_
              refine g_get B 1 1 fl_X6_67 rfl rfl dX6_learn_78 ?_
              refine g_iload_n B dX6_learn_81 rfl 4 rfl ?_
              refine g_iald B 3 rfl (in_lt (by decide) c18_276 hv0) dX6_learn_82 ?_
              refine g_goto (tgt := 96) B dX6_learn_83 (by decide) ?_
              refine g_callV (st := []) (As := [.int l3, .int (de_f (Int32.toNatClampNeg l3))]) (wr := [(p, .inr (7, [.ref te, .ref de, .int (nI p_2)])), (te, .inl (E.2.2.1 0, 8, .inl te_f)), (de, .inl (E.2.2.1 0, 8, .inl de_f)), (inp, .inl (E.2.2.1 0, 128, .inl inp_f)), (ba, .inl (E.2.2.1 0, 8, .inl ba_f)), (gu, .inl (E.2.2.1 0, 8, .inl gu_f))]) (nc' := 0) (ns' := 0) B cl_X6_70 w_im_X6_moveWeight w_se_X6_moveWeight (wk_X6_moveWeight E ps p we inp ba gu ps_5 ps_6 ps_7 we_f l3 (de_f (Int32.toNatClampNeg l3)) ) rfl [0, 4] [1, 2, 3, 5, 6, 7] rfl rfl (by decide) (by decide) (by decide) 0 rfl (fun q h => by cases h; rfl) rfl ⟨by decide, by decide⟩ rfl rfl (by decide) (by decide) rfl (Nat.le_of_ble_eq_true rfl) dX6_learn_96 (fun v w hq => ?_)
              obtain ⟨zps_5_294, zps_6_295, zps_7_296, zwe_f_297, rfl, rfl⟩ := hq
              show G E X 5 [(p, .inr (7, [.ref te, .ref de, .int (nI p_2)])), (te, .inl (E.2.2.1 0, 8, .inl te_f)), (de, .inl (E.2.2.1 0, 8, .inl de_f)), (inp, .inl (E.2.2.1 0, 128, .inl inp_f)), (ba, .inl (E.2.2.1 0, 8, .inl ba_f)), (gu, .inl (E.2.2.1 0, 8, .inl gu_f)), (ps, .inr (6, [.ref p, .ref we, .ref inp, .ref ba, .ref gu, .int zps_5_294, .int zps_6_295, .int zps_7_296])), (we, .inl (E.2.2.1 0, 16, .inl zwe_f_297))] 0 0 [(4, .int 1), (0, .ref ps), (1, .int l1), (2, .int l2), (3, .int l3)] 99 []
              refine g_iload_n B dX6_learn_99 rfl 3 rfl ?_
              refine g_aload_n B dX6_learn_100 rfl 1 rfl ?_
              refine g_get B 6 4 fl_X6_28 rfl rfl dX6_learn_101 ?_
              refine g_iload_n B dX6_learn_104 rfl 4 rfl ?_
              refine g_iald B 5 rfl (in_lt (by decide) c18_276 hv0) dX6_learn_105 ?_
              refine g_iadd B dX6_learn_106 ?_
              refine g_istore_n (lv' := [(2, .int (l2 + (gu_f (Int32.toNatClampNeg l3)))), (4, .int 1), (0, .ref ps), (1, .int l1), (3, .int l3)]) B dX6_learn_107 rfl (by decide) rfl ?_
              refine g_aload_n B dX6_learn_108 rfl 2 rfl ?_
              refine g_get B 6 2 fl_X6_22 rfl rfl dX6_learn_109 ?_
              refine g_aload_n B dX6_learn_112 rfl 2 rfl ?_
              refine g_iload_n B dX6_learn_113 rfl 4 rfl ?_
              refine g_aload_n B dX6_learn_114 rfl 2 rfl ?_
              refine g_get B 6 7 fl_X6_38 rfl rfl dX6_learn_115 ?_
              refine g_iconst (v := 0) B dX6_learn_118 (by decide) ?_
              refine g_callV (st := [.ref inp]) (As := [.int l3, .int zps_7_296, .int 0]) (wr := [(p, .inr (7, [.ref te, .ref de, .int (nI p_2)])), (te, .inl (E.2.2.1 0, 8, .inl te_f)), (de, .inl (E.2.2.1 0, 8, .inl de_f)), (inp, .inl (E.2.2.1 0, 128, .inl inp_f)), (ba, .inl (E.2.2.1 0, 8, .inl ba_f)), (gu, .inl (E.2.2.1 0, 8, .inl gu_f)), (we, .inl (E.2.2.1 0, 16, .inl zwe_f_297))]) (nc' := 0) (ns' := 0) B cl_X6_74 w_im_X6_slot w_se_X6_slot (ev_X6_slot E ps p we inp ba gu zps_5_294 zps_6_295 zps_7_296 l3 zps_7_296 0 ) rfl [6] [0, 1, 2, 3, 4, 5, 7] rfl rfl (by decide) (by decide) (by decide) 0 rfl (fun q h => by cases h; rfl) rfl ⟨by decide, by decide⟩ rfl rfl (by decide) (by decide) rfl (Nat.le_of_ble_eq_true rfl) dX6_learn_119 (fun v w hq => ?_)
              obtain ⟨rfl, rfl⟩ := hq
              show G E X 5 [(p, .inr (7, [.ref te, .ref de, .int (nI p_2)])), (te, .inl (E.2.2.1 0, 8, .inl te_f)), (de, .inl (E.2.2.1 0, 8, .inl de_f)), (inp, .inl (E.2.2.1 0, 128, .inl inp_f)), (ba, .inl (E.2.2.1 0, 8, .inl ba_f)), (gu, .inl (E.2.2.1 0, 8, .inl gu_f)), (we, .inl (E.2.2.1 0, 16, .inl zwe_f_297)), (ps, .inr (6, [.ref p, .ref we, .ref inp, .ref ba, .ref gu, .int zps_5_294, .int zps_6_295, .int zps_7_296]))] 0 0 [(2, .int (l2 + (gu_f (Int32.toNatClampNeg l3)))), (4, .int 1), (0, .ref ps), (1, .int l1), (3, .int l3)] 122 [.int ((((l3 &&& 7) * 16) + ((zps_7_296 &&& 1) * 8)) + ((zps_6_295 - 0) &&& 7)), .ref inp]
              refine g_iload_n B dX6_learn_122 rfl 0 rfl ?_
              refine g_iast (ws' := [(p, .inr (7, [.ref te, .ref de, .int (nI p_2)])), (te, .inl (E.2.2.1 0, 8, .inl te_f)), (de, .inl (E.2.2.1 0, 8, .inl de_f)), (inp, .inl (E.2.2.1 0, 128, .inl (upd inp_f (Int32.toNatClampNeg ((((l3 &&& 7) * 16) + ((zps_7_296 &&& 1) * 8)) + ((zps_6_295 - 0) &&& 7))) (l2 + (gu_f (Int32.toNatClampNeg l3)))))), (ba, .inl (E.2.2.1 0, 8, .inl ba_f)), (gu, .inl (E.2.2.1 0, 8, .inl gu_f)), (we, .inl (E.2.2.1 0, 16, .inl zwe_f_297)), (ps, .inr (6, [.ref p, .ref we, .ref inp, .ref ba, .ref gu, .int zps_5_294, .int zps_6_295, .int zps_7_296]))]) B 3 rfl (in_sl _ _ _) rfl dX6_learn_123 ?_
              refine g_iinc (v := (l3 + (-1))) (lv' := [(3, .int (l3 + (-1))), (2, .int (l2 + (gu_f (Int32.toNatClampNeg l3)))), (4, .int 1), (0, .ref ps), (1, .int l1)]) B dX6_learn_124 4 rfl rfl (by decide) rfl ?_
              refine g_goto (tgt := 17) B dX6_learn_127 (by decide) ?_
              refine g_sub (ws' := [(ps, .inr (6, [.ref p, .ref we, .ref inp, .ref ba, .ref gu, .int zps_5_294, .int zps_6_295, .int zps_7_296])), (p, .inr (7, [.ref te, .ref de, .int (nI p_2)])), (te, .inl (E.2.2.1 0, 8, .inl te_f)), (de, .inl (E.2.2.1 0, 8, .inl de_f)), (we, .inl (E.2.2.1 0, 16, .inl zwe_f_297)), (inp, .inl (E.2.2.1 0, 128, .inl (upd inp_f (Int32.toNatClampNeg ((((l3 &&& 7) * 16) + ((zps_7_296 &&& 1) * 8)) + ((zps_6_295 - 0) &&& 7))) (l2 + (gu_f (Int32.toNatClampNeg l3)))))), (ba, .inl (E.2.2.1 0, 8, .inl ba_f)), (gu, .inl (E.2.2.1 0, 8, .inl gu_f))]) [7, 0, 1, 2, 6, 3, 4, 5] (by decide) rfl ?_
              refine g_lvsub (lv' := [(0, .ref ps), (1, .int l1), (2, .int (l2 + (gu_f (Int32.toNatClampNeg l3)))), (3, .int (l3 + (-1)))]) [3, 4, 1, 0] rfl ?_
              exact ih zps_5_294 zps_6_295 zps_7_296 p_2 te_f de_f zwe_f_297 (upd inp_f (Int32.toNatClampNeg ((((l3 &&& 7) * 16) + ((zps_7_296 &&& 1) * 8)) + ((zps_6_295 - 0) &&& 7))) (l2 + (gu_f (Int32.toNatClampNeg l3)))) ba_f gu_f l1 (l2 + (gu_f (Int32.toNatClampNeg l3))) (l3 + (-1)) (by first | assumption | omega | decide) (lr_s c18_276 hv0) (Nat.lt_of_lt_of_le (st_dn c18_276) (Nat.le_of_lt_succ hm))
theorem dX6_learn_130 : decode cX6_learn 130 = .ok (.iload_n 2, 1) := by decide +kernel
theorem dX6_learn_131 : decode cX6_learn 131 = .ok (.ireturn, 1) := by decide +kernel
set_option maxRecDepth 100000 in
set_option maxHeartbeats 4000000 in
theorem wk_X6_learn (E : g_E) (ps : Nat) (p : Nat) (we : Nat) (inp : Nat) (ba : Nat) (gu : Nat) (te : Nat) (de : Nat) (ps_5 : Int32) (ps_6 : Int32) (ps_7 : Int32) (p_2 : Nat) (te_f : Nat → Int32) (de_f : Nat → Int32) (we_f : Nat → Int32) (inp_f : Nat → Int32) (ba_f : Nat → Int32) (gu_f : Nat → Int32) (re : Int32) (hp0 : p_2 ≤ 8) : Ev E MX6_learn 2 46 0 0 [.ref ps, .int re] [(ps, .inr (6, [.ref p, .ref we, .ref inp, .ref ba, .ref gu, .int ps_5, .int ps_6, .int ps_7])), (p, .inr (7, [.ref te, .ref de, .int (nI p_2)])), (te, .inl (E.2.2.1 0, 8, .inl te_f)), (de, .inl (E.2.2.1 0, 8, .inl de_f)), (we, .inl (E.2.2.1 0, 16, .inl we_f)), (inp, .inl (E.2.2.1 0, 128, .inl inp_f)), (ba, .inl (E.2.2.1 0, 8, .inl ba_f)), (gu, .inl (E.2.2.1 0, 8, .inl gu_f))] (fun v_ w_ => ∃ zps_5 : Int32, ∃ zps_6 : Int32, ∃ zps_7 : Int32, ∃ zp_2 : Nat, ∃ zte_f : Nat → Int32, ∃ zde_f : Nat → Int32, ∃ zwe_f : Nat → Int32, ∃ zinp_f : Nat → Int32, ∃ zba_f : Nat → Int32, ∃ zgu_f : Nat → Int32, ∃ zr : Int32, (zp_2 ≤ 8) ∧ v_ = some (.int zr) ∧ w_ = [(ps, .inr (6, [.ref p, .ref we, .ref inp, .ref ba, .ref gu, .int zps_5, .int zps_6, .int zps_7])), (p, .inr (7, [.ref te, .ref de, .int (nI zp_2)])), (te, .inl (E.2.2.1 0, 8, .inl zte_f)), (de, .inl (E.2.2.1 0, 8, .inl zde_f)), (we, .inl (E.2.2.1 0, 16, .inl zwe_f)), (inp, .inl (E.2.2.1 0, 128, .inl zinp_f)), (ba, .inl (E.2.2.1 0, 8, .inl zba_f)), (gu, .inl (E.2.2.1 0, 8, .inl zgu_f))]) := by
  refine Ev.intro (by decide) (Nat.le_of_ble_eq_true rfl) ?_
  intro X B hr hI
  have B : Bd E X cX6_learn RX6 5 2 46 0 0 := B
  have hr : Rt E X (some .int) 0 0 (fun v_ w_ => ∃ zps_5 : Int32, ∃ zps_6 : Int32, ∃ zps_7 : Int32, ∃ zp_2 : Nat, ∃ zte_f : Nat → Int32, ∃ zde_f : Nat → Int32, ∃ zwe_f : Nat → Int32, ∃ zinp_f : Nat → Int32, ∃ zba_f : Nat → Int32, ∃ zgu_f : Nat → Int32, ∃ zr : Int32, (zp_2 ≤ 8) ∧ v_ = some (.int zr) ∧ w_ = [(ps, .inr (6, [.ref p, .ref we, .ref inp, .ref ba, .ref gu, .int zps_5, .int zps_6, .int zps_7])), (p, .inr (7, [.ref te, .ref de, .int (nI zp_2)])), (te, .inl (E.2.2.1 0, 8, .inl zte_f)), (de, .inl (E.2.2.1 0, 8, .inl zde_f)), (we, .inl (E.2.2.1 0, 16, .inl zwe_f)), (inp, .inl (E.2.2.1 0, 128, .inl zinp_f)), (ba, .inl (E.2.2.1 0, 8, .inl zba_f)), (gu, .inl (E.2.2.1 0, 8, .inl zgu_f))]) := hr
  show G E X 5 [(ps, .inr (6, [.ref p, .ref we, .ref inp, .ref ba, .ref gu, .int ps_5, .int ps_6, .int ps_7])), (p, .inr (7, [.ref te, .ref de, .int (nI p_2)])), (te, .inl (E.2.2.1 0, 8, .inl te_f)), (de, .inl (E.2.2.1 0, 8, .inl de_f)), (we, .inl (E.2.2.1 0, 16, .inl we_f)), (inp, .inl (E.2.2.1 0, 128, .inl inp_f)), (ba, .inl (E.2.2.1 0, 8, .inl ba_f)), (gu, .inl (E.2.2.1 0, 8, .inl gu_f))] 0 0 [(0, .ref ps), (1, .int re)] 0 []
  refine g_iload_n B dX6_learn_0 rfl 1 rfl ?_
  refine g_istore_n (lv' := [(2, .int re), (0, .ref ps), (1, .int re)]) B dX6_learn_1 rfl (by decide) rfl ?_
  refine g_aload_n B dX6_learn_2 rfl 1 rfl ?_
  refine g_get B 0 0 fl_X6_12 rfl rfl dX6_learn_3 ?_
  refine g_get B 1 2 fl_X6_47 rfl rfl dX6_learn_6 ?_
  refine g_bipush (v := 8) B dX6_learn_9 (by decide) ?_
  refine g_mmin B w_mlm_X6_62 w_smm_min_II_I w_ini_Math w_cdm_min_II_I (by decide) (Nat.le_of_ble_eq_true rfl) (by decide) (by decide) dX6_learn_11 ?_
  refine g_iconst (v := 1) B dX6_learn_14 (by decide) ?_
  refine g_isub B dX6_learn_15 ?_
  refine g_istore_n (lv' := [(3, .int ((if 8 < nI p_2 then 8 else nI p_2) - 1)), (2, .int re), (0, .ref ps), (1, .int re)]) B dX6_learn_16 rfl (by decide) rfl ?_
  refine g_lvsub (lv' := [(0, .ref ps), (1, .int re), (2, .int re), (3, .int ((if 8 < nI p_2 then 8 else nI p_2) - 1))]) [2, 3, 1, 0] rfl ?_
  refine lp_wk_X6_learn_17 E ps p we inp ba gu te de  B hr (fun y_298ps_5 y_298ps_6 y_298ps_7 y_298p_2 y_298te_f y_298de_f y_298we_f y_298inp_f y_298ba_f y_298gu_f y_298l1 y_298l2 y_298l3 y_298h0 => ?_) _ ps_5 ps_6 ps_7 p_2 te_f de_f we_f inp_f ba_f gu_f re re ((if 8 < nI p_2 then 8 else nI p_2) - 1) (by first | assumption | omega | decide) (lr_0 hp0) (Nat.lt_succ_self _)
  refine g_iload_n B dX6_learn_130 rfl 2 rfl ?_
  exact g_iret B hr dX6_learn_131 (by decide) (by decide) ⟨y_298ps_5, y_298ps_6, y_298ps_7, y_298p_2, y_298te_f, y_298de_f, y_298we_f, y_298inp_f, y_298ba_f, y_298gu_f, y_298l2, (by first | assumption | omega | decide), rfl, rfl⟩
end
section
abbrev MX5_begin : g_M := (yX5_begin, cX5_begin, 1, none)
theorem dX5_begin_0 : decode cX5_begin 0 = .ok (.aload_n 0, 1) := by decide +kernel
theorem dX5_begin_1 : decode cX5_begin 1 = .ok (.getfield 9, 3) := by decide +kernel
theorem dX5_begin_4 : decode cX5_begin 4 = .ok (.lconst 0, 1) := by decide +kernel
theorem dX5_begin_5 : decode cX5_begin 5 = .ok (.invokestatic 22, 3) := by decide +kernel
theorem w_ml_X5_22 : Cond.methodLink RX5 22 yJ7_fill_d0a16 ∈ g_tbl := g_tbl_in 473 (by decide +kernel) (by decide +kernel)
theorem w_cd_J7_fill_d0a16 : g_cw MJ7_fill_d0a16 ∈ g_tbl := g_tbl_in 475 (by decide +kernel) (by decide +kernel)
theorem cl_X5_22 : CL RX5 22 2 MJ7_fill_d0a16 := ⟨w_ml_X5_22, w_cd_J7_fill_d0a16, w_ini_J7, by decide +kernel, by decide +kernel, by decide +kernel⟩
theorem w_sm_J7_fill_d0a16 : Cond.static yJ7_fill_d0a16 ∈ g_tbl := g_tbl_in 474 (by decide +kernel) (by decide +kernel)
theorem dX5_begin_8 : decode cX5_begin 8 = .ok (.aload_n 0, 1) := by decide +kernel
theorem dX5_begin_9 : decode cX5_begin 9 = .ok (.lconst 0, 1) := by decide +kernel
theorem dX5_begin_10 : decode cX5_begin 10 = .ok (.putfield 15, 3) := by decide +kernel
theorem dX5_begin_13 : decode cX5_begin 13 = .ok (.aload_n 0, 1) := by decide +kernel
theorem dX5_begin_14 : decode cX5_begin 14 = .ok (.lconst 0, 1) := by decide +kernel
theorem dX5_begin_15 : decode cX5_begin 15 = .ok (.putfield 19, 3) := by decide +kernel
theorem dX5_begin_18 : decode cX5_begin 18 = .ok (.return_, 1) := by decide +kernel
set_option maxRecDepth 100000 in
set_option maxHeartbeats 4000000 in
theorem wk_X5_begin (E : g_E) (md : Nat) (mi : Nat) (md_1 : Int64) (md_2 : Int64) (mi_f : Nat → Int64)  : Ev E MX5_begin 1 24 0 0 [.ref md] [(md, .inr (5, [.ref mi, .long md_1, .long md_2])), (mi, .inl (E.2.2.1 3, 6, .inr (.inl mi_f)))] (fun v_ w_ => ∃ zmd_1 : Int64, ∃ zmd_2 : Int64, ∃ zmi_f : Nat → Int64, v_ = none ∧ w_ = [(md, .inr (5, [.ref mi, .long zmd_1, .long zmd_2])), (mi, .inl (E.2.2.1 3, 6, .inr (.inl zmi_f)))]) := by
  refine Ev.intro (by decide) (Nat.le_of_ble_eq_true rfl) ?_
  intro X B hr hI
  have B : Bd E X cX5_begin RX5 1 1 24 0 0 := B
  have hr : Rt E X none 0 0 (fun v_ w_ => ∃ zmd_1 : Int64, ∃ zmd_2 : Int64, ∃ zmi_f : Nat → Int64, v_ = none ∧ w_ = [(md, .inr (5, [.ref mi, .long zmd_1, .long zmd_2])), (mi, .inl (E.2.2.1 3, 6, .inr (.inl zmi_f)))]) := hr
  show G E X 1 [(md, .inr (5, [.ref mi, .long md_1, .long md_2])), (mi, .inl (E.2.2.1 3, 6, .inr (.inl mi_f)))] 0 0 [(0, .ref md)] 0 []
  refine g_aload_n B dX5_begin_0 rfl 0 rfl ?_
  refine g_get B 0 0 fl_X5_9 rfl rfl dX5_begin_1 ?_
  refine g_lconst (v := 0) B dX5_begin_4 (by decide) ?_
  refine g_callS (st := []) (As := [.ref mi, .long 0]) (wr := [(md, .inr (5, [.ref mi, .long md_1, .long md_2]))]) (nc' := 0) (ns' := 0) B cl_X5_22 w_sm_J7_fill_d0a16 (wk_J7_fill_d0a16 E mi 6 mi_f 0 (by first | assumption | omega | decide)) rfl [1] [0] rfl rfl (by decide) (by decide) (by decide) ⟨by decide, by decide⟩ rfl rfl (by decide) (by decide) rfl (Nat.le_of_ble_eq_true rfl) dX5_begin_5 (fun v w hq => ?_)
  obtain ⟨za_f_299, rfl, rfl⟩ := hq
  show G E X 1 [(md, .inr (5, [.ref mi, .long md_1, .long md_2])), (mi, .inl (E.2.2.1 3, 6, .inr (.inl za_f_299)))] 0 0 [(0, .ref md)] 8 []
  refine g_aload_n B dX5_begin_8 rfl 0 rfl ?_
  refine g_lconst (v := 0) B dX5_begin_9 (by decide) ?_
  refine g_put (ws' := [(md, .inr (5, [.ref mi, .long 0, .long md_2])), (mi, .inl (E.2.2.1 3, 6, .inr (.inl za_f_299)))]) B 0 1 fl_X5_15 pf_X5_1 rfl (Nat.le_of_ble_eq_true rfl) rfl rfl rfl dX5_begin_10 ?_
  refine g_aload_n B dX5_begin_13 rfl 0 rfl ?_
  refine g_lconst (v := 0) B dX5_begin_14 (by decide) ?_
  refine g_put (ws' := [(md, .inr (5, [.ref mi, .long 0, .long 0])), (mi, .inl (E.2.2.1 3, 6, .inr (.inl za_f_299)))]) B 0 2 fl_X5_19 pf_X5_2 rfl (Nat.le_of_ble_eq_true rfl) rfl rfl rfl dX5_begin_15 ?_
  exact g_vret B hr dX5_begin_18 (by decide) (by decide) ⟨0, 0, za_f_299, rfl, rfl⟩
abbrev MX5_middleOf : g_M := (yX5_middleOf, cX5_middleOf, 4, (some .long))
theorem dX5_middleOf_0 : decode cX5_middleOf 0 = .ok (.iload_n 1, 1) := by decide +kernel
theorem dX5_middleOf_1 : decode cX5_middleOf 1 = .ok (.iconst 1, 1) := by decide +kernel
theorem dX5_middleOf_2 : decode cX5_middleOf 2 = .ok (.iand, 1) := by decide +kernel
theorem dX5_middleOf_3 : decode cX5_middleOf 3 = .ok (.iconst 3, 1) := by decide +kernel
theorem dX5_middleOf_4 : decode cX5_middleOf 4 = .ok (.imul, 1) := by decide +kernel
theorem dX5_middleOf_5 : decode cX5_middleOf 5 = .ok (.iload_n 2, 1) := by decide +kernel
theorem dX5_middleOf_6 : decode cX5_middleOf 6 = .ok (.iadd, 1) := by decide +kernel
theorem dX5_middleOf_7 : decode cX5_middleOf 7 = .ok (.istore_n 3, 1) := by decide +kernel
theorem dX5_middleOf_8 : decode cX5_middleOf 8 = .ok (.iload_n 3, 1) := by decide +kernel
theorem dX5_middleOf_9 : decode cX5_middleOf 9 = .ok (.ifCond .lt 21, 3) := by decide +kernel
theorem dX5_middleOf_30 : decode cX5_middleOf 30 = .ok (.lconst 0, 1) := by decide +kernel
theorem dX5_middleOf_31 : decode cX5_middleOf 31 = .ok (.lreturn, 1) := by decide +kernel
theorem dX5_middleOf_12 : decode cX5_middleOf 12 = .ok (.iload_n 3, 1) := by decide +kernel
theorem dX5_middleOf_13 : decode cX5_middleOf 13 = .ok (.aload_n 0, 1) := by decide +kernel
theorem dX5_middleOf_14 : decode cX5_middleOf 14 = .ok (.getfield 9, 3) := by decide +kernel
theorem dX5_middleOf_17 : decode cX5_middleOf 17 = .ok (.arraylength, 1) := by decide +kernel
theorem dX5_middleOf_18 : decode cX5_middleOf 18 = .ok (.if_icmp .ge 12, 3) := by decide +kernel
theorem dX5_middleOf_21 : decode cX5_middleOf 21 = .ok (.aload_n 0, 1) := by decide +kernel
theorem dX5_middleOf_22 : decode cX5_middleOf 22 = .ok (.getfield 9, 3) := by decide +kernel
theorem dX5_middleOf_25 : decode cX5_middleOf 25 = .ok (.iload_n 3, 1) := by decide +kernel
theorem dX5_middleOf_26 : decode cX5_middleOf 26 = .ok (.laload, 1) := by decide +kernel
theorem dX5_middleOf_27 : decode cX5_middleOf 27 = .ok (.goto 4, 3) := by decide +kernel
set_option maxRecDepth 100000 in
set_option maxHeartbeats 4000000 in
theorem wk_X5_middleOf (E : g_E) (md : Nat) (mi : Nat) (md_1 : Int64) (md_2 : Int64) (mi_f : Nat → Int64) (ch : Int32) (k : Int32)  : Ev E MX5_middleOf 0 0 0 0 [.ref md, .int ch, .int k] [(md, .inr (5, [.ref mi, .long md_1, .long md_2])), (mi, .inl (E.2.2.1 3, 6, .inr (.inl mi_f)))] (fun v_ w_ => ∃ zmd_1 : Int64, ∃ zmd_2 : Int64, ∃ zmi_f : Nat → Int64, ∃ zr : Int64, v_ = some (.long zr) ∧ w_ = [(md, .inr (5, [.ref mi, .long zmd_1, .long zmd_2])), (mi, .inl (E.2.2.1 3, 6, .inr (.inl zmi_f)))]) := by
  refine Ev.intro (by decide) (Nat.le_of_ble_eq_true rfl) ?_
  intro X B hr hI
  have B : Bd E X cX5_middleOf RX5 4 0 0 0 0 := B
  have hr : Rt E X (some .long) 0 0 (fun v_ w_ => ∃ zmd_1 : Int64, ∃ zmd_2 : Int64, ∃ zmi_f : Nat → Int64, ∃ zr : Int64, v_ = some (.long zr) ∧ w_ = [(md, .inr (5, [.ref mi, .long zmd_1, .long zmd_2])), (mi, .inl (E.2.2.1 3, 6, .inr (.inl zmi_f)))]) := hr
  show G E X 4 [(md, .inr (5, [.ref mi, .long md_1, .long md_2])), (mi, .inl (E.2.2.1 3, 6, .inr (.inl mi_f)))] 0 0 [(0, .ref md), (1, .int ch), (2, .int k)] 0 []
  refine g_iload_n B dX5_middleOf_0 rfl 1 rfl ?_
  refine g_iconst (v := 1) B dX5_middleOf_1 (by decide) ?_
  refine g_iand B dX5_middleOf_2 ?_
  refine g_iconst (v := 3) B dX5_middleOf_3 (by decide) ?_
  refine g_imul B dX5_middleOf_4 ?_
  refine g_iload_n B dX5_middleOf_5 rfl 2 rfl ?_
  refine g_iadd B dX5_middleOf_6 ?_
  refine g_istore_n (lv' := [(3, .int (((ch &&& 1) * 3) + k)), (0, .ref md), (1, .int ch), (2, .int k)]) B dX5_middleOf_7 rfl (by decide) rfl ?_
  refine g_iload_n B dX5_middleOf_8 rfl 0 rfl ?_
  refine g_if_lt (tgt := 30) B dX5_middleOf_9 (by decide) (fun c9_300 => ?_) (fun c9_300 => ?_)
  · refine g_lconst (v := 0) B dX5_middleOf_30 (by decide) ?_
    exact g_lret B hr dX5_middleOf_31 (by decide) (by decide) ⟨md_1, md_2, mi_f, 0, rfl, rfl⟩
  · refine g_iload_n B dX5_middleOf_12 rfl 0 rfl ?_
    refine g_aload_n B dX5_middleOf_13 rfl 1 rfl ?_
    refine g_get B 0 0 fl_X5_9 rfl rfl dX5_middleOf_14 ?_
    refine g_alen (v := nI 6) B 1 (by decide) rfl rfl dX5_middleOf_17 ?_
    refine g_ri (x' := 6) (by decide) ?_
    refine g_icmp_ge (tgt := 30) B dX5_middleOf_18 (by decide) (fun c18_301 => ?_) (fun c18_301 => ?_)
    · refine g_lconst (v := 0) B dX5_middleOf_30 (by decide) ?_
      exact g_lret B hr dX5_middleOf_31 (by decide) (by decide) ⟨md_1, md_2, mi_f, 0, rfl, rfl⟩
    · refine g_aload_n B dX5_middleOf_21 rfl 1 rfl ?_
      refine g_get B 0 0 fl_X5_9 rfl rfl dX5_middleOf_22 ?_
      refine g_iload_n B dX5_middleOf_25 rfl 0 rfl ?_
      refine g_lald B 1 rfl (in_lt (by decide) c9_300 (o_2 c18_301)) dX5_middleOf_26 ?_
      refine g_goto (tgt := 31) B dX5_middleOf_27 (by decide) ?_
      exact g_lret B hr dX5_middleOf_31 (by decide) (by decide) ⟨md_1, md_2, mi_f, (mi_f (Int32.toNatClampNeg (((ch &&& 1) * 3) + k))), rfl, rfl⟩
abbrev MX5_isQuiet : g_M := (yX5_isQuiet, cX5_isQuiet, 2, (some .boolean))
theorem dX5_isQuiet_0 : decode cX5_isQuiet 0 = .ok (.aload_n 0, 1) := by decide +kernel
theorem dX5_isQuiet_1 : decode cX5_isQuiet 1 = .ok (.iconst 0, 1) := by decide +kernel
theorem dX5_isQuiet_2 : decode cX5_isQuiet 2 = .ok (.iconst 0, 1) := by decide +kernel
theorem dX5_isQuiet_3 : decode cX5_isQuiet 3 = .ok (.invokevirtual 28, 3) := by decide +kernel
theorem w_ml_X5_28 : Cond.methodLink RX5 28 yX5_middleOf ∈ g_tbl := g_tbl_in 558 (by decide +kernel) (by decide +kernel)
theorem w_cd_X5_middleOf : g_cw MX5_middleOf ∈ g_tbl := g_tbl_in 561 (by decide +kernel) (by decide +kernel)
theorem cl_X5_28 : CL RX5 28 2 MX5_middleOf := ⟨w_ml_X5_28, w_cd_X5_middleOf, w_ini_X5, by decide +kernel, by decide +kernel, by decide +kernel⟩
theorem w_im_X5_middleOf : Cond.instanceMethod yX5_middleOf ∈ g_tbl := g_tbl_in 559 (by decide +kernel) (by decide +kernel)
theorem w_se_X5_middleOf : Cond.selects RX5 yX5_middleOf yX5_middleOf ∈ g_tbl := g_tbl_in 560 (by decide +kernel) (by decide +kernel)
theorem dX5_isQuiet_6 : decode cX5_isQuiet 6 = .ok (.lconst 0, 1) := by decide +kernel
theorem dX5_isQuiet_7 : decode cX5_isQuiet 7 = .ok (.lcmp, 1) := by decide +kernel
theorem dX5_isQuiet_8 : decode cX5_isQuiet 8 = .ok (.ifCond .ne 23, 3) := by decide +kernel
theorem dX5_isQuiet_31 : decode cX5_isQuiet 31 = .ok (.iconst 0, 1) := by decide +kernel
theorem dX5_isQuiet_32 : decode cX5_isQuiet 32 = .ok (.ireturn, 1) := by decide +kernel
theorem dX5_isQuiet_11 : decode cX5_isQuiet 11 = .ok (.iload_n 1, 1) := by decide +kernel
theorem dX5_isQuiet_12 : decode cX5_isQuiet 12 = .ok (.iconst 2, 1) := by decide +kernel
theorem dX5_isQuiet_13 : decode cX5_isQuiet 13 = .ok (.if_icmp .lt 14, 3) := by decide +kernel
theorem dX5_isQuiet_27 : decode cX5_isQuiet 27 = .ok (.iconst 1, 1) := by decide +kernel
theorem dX5_isQuiet_28 : decode cX5_isQuiet 28 = .ok (.goto 4, 3) := by decide +kernel
theorem dX5_isQuiet_16 : decode cX5_isQuiet 16 = .ok (.aload_n 0, 1) := by decide +kernel
theorem dX5_isQuiet_17 : decode cX5_isQuiet 17 = .ok (.iconst 1, 1) := by decide +kernel
theorem dX5_isQuiet_18 : decode cX5_isQuiet 18 = .ok (.iconst 0, 1) := by decide +kernel
theorem dX5_isQuiet_19 : decode cX5_isQuiet 19 = .ok (.invokevirtual 28, 3) := by decide +kernel
theorem dX5_isQuiet_22 : decode cX5_isQuiet 22 = .ok (.lconst 0, 1) := by decide +kernel
theorem dX5_isQuiet_23 : decode cX5_isQuiet 23 = .ok (.lcmp, 1) := by decide +kernel
theorem dX5_isQuiet_24 : decode cX5_isQuiet 24 = .ok (.ifCond .ne 7, 3) := by decide +kernel
set_option maxRecDepth 100000 in
set_option maxHeartbeats 4000000 in
theorem wk_X5_isQuiet (E : g_E) (md : Nat) (mi : Nat) (md_1 : Int64) (md_2 : Int64) (mi_f : Nat → Int64) (co : Int32)  : Ev E MX5_isQuiet 1 23 0 0 [.ref md, .int co] [(md, .inr (5, [.ref mi, .long md_1, .long md_2])), (mi, .inl (E.2.2.1 3, 6, .inr (.inl mi_f)))] (fun v_ w_ => ∃ zmd_1 : Int64, ∃ zmd_2 : Int64, ∃ zmi_f : Nat → Int64, ∃ zr : Int32, (zr = 0 ∨ zr = 1) ∧ v_ = some (.int zr) ∧ w_ = [(md, .inr (5, [.ref mi, .long zmd_1, .long zmd_2])), (mi, .inl (E.2.2.1 3, 6, .inr (.inl zmi_f)))]) := by
  refine Ev.intro (by decide) (Nat.le_of_ble_eq_true rfl) ?_
  intro X B hr hI
  have B : Bd E X cX5_isQuiet RX5 2 1 23 0 0 := B
  have hr : Rt E X (some .boolean) 0 0 (fun v_ w_ => ∃ zmd_1 : Int64, ∃ zmd_2 : Int64, ∃ zmi_f : Nat → Int64, ∃ zr : Int32, (zr = 0 ∨ zr = 1) ∧ v_ = some (.int zr) ∧ w_ = [(md, .inr (5, [.ref mi, .long zmd_1, .long zmd_2])), (mi, .inl (E.2.2.1 3, 6, .inr (.inl zmi_f)))]) := hr
  show G E X 2 [(md, .inr (5, [.ref mi, .long md_1, .long md_2])), (mi, .inl (E.2.2.1 3, 6, .inr (.inl mi_f)))] 0 0 [(0, .ref md), (1, .int co)] 0 []
  refine g_aload_n B dX5_isQuiet_0 rfl 0 rfl ?_
  refine g_iconst (v := 0) B dX5_isQuiet_1 (by decide) ?_
  refine g_iconst (v := 0) B dX5_isQuiet_2 (by decide) ?_
  refine g_callV (st := []) (As := [.int 0, .int 0]) (wr := []) (nc' := 0) (ns' := 0) B cl_X5_28 w_im_X5_middleOf w_se_X5_middleOf (wk_X5_middleOf E md mi md_1 md_2 mi_f 0 0 ) rfl [0, 1] [] rfl rfl (by decide) (by decide) (by decide) 0 rfl (fun q h => by cases h; rfl) rfl ⟨by decide, by decide⟩ rfl rfl (by decide) (by decide) rfl (Nat.le_of_ble_eq_true rfl) dX5_isQuiet_3 (fun v w hq => ?_)
  obtain ⟨zmd_1_302, zmd_2_303, zmi_f_304, zr_305, rfl, rfl⟩ := hq
  show G E X 2 [(md, .inr (5, [.ref mi, .long zmd_1_302, .long zmd_2_303])), (mi, .inl (E.2.2.1 3, 6, .inr (.inl zmi_f_304)))] 0 0 [(0, .ref md), (1, .int co)] 6 [.long zr_305]
  refine g_lconst (v := 0) B dX5_isQuiet_6 (by decide) ?_
  refine g_lcmp B dX5_isQuiet_7 ?_
  refine g_if_ne (tgt := 31) B dX5_isQuiet_8 (by decide) (fun c8_306 => ?_) (fun c8_306 => ?_)
  · refine g_iconst (v := 0) B dX5_isQuiet_31 (by decide) ?_
    exact g_zret B hr (by decide) dX5_isQuiet_32 (by decide) (by decide) ⟨zmd_1_302, zmd_2_303, zmi_f_304, 0, (Or.inl rfl), rfl, rfl⟩
  · refine g_iload_n B dX5_isQuiet_11 rfl 1 rfl ?_
    refine g_iconst (v := 2) B dX5_isQuiet_12 (by decide) ?_
    refine g_icmp_lt (tgt := 27) B dX5_isQuiet_13 (by decide) (fun c13_307 => ?_) (fun c13_307 => ?_)
    · refine g_iconst (v := 1) B dX5_isQuiet_27 (by decide) ?_
      refine g_goto (tgt := 32) B dX5_isQuiet_28 (by decide) ?_
      exact g_zret B hr (by decide) dX5_isQuiet_32 (by decide) (by decide) ⟨zmd_1_302, zmd_2_303, zmi_f_304, 1, (Or.inr rfl), rfl, rfl⟩
    · refine g_aload_n B dX5_isQuiet_16 rfl 0 rfl ?_
      refine g_iconst (v := 1) B dX5_isQuiet_17 (by decide) ?_
      refine g_iconst (v := 0) B dX5_isQuiet_18 (by decide) ?_
      refine g_callV (st := []) (As := [.int 1, .int 0]) (wr := []) (nc' := 0) (ns' := 0) B cl_X5_28 w_im_X5_middleOf w_se_X5_middleOf (wk_X5_middleOf E md mi zmd_1_302 zmd_2_303 zmi_f_304 1 0 ) rfl [0, 1] [] rfl rfl (by decide) (by decide) (by decide) 0 rfl (fun q h => by cases h; rfl) rfl ⟨by decide, by decide⟩ rfl rfl (by decide) (by decide) rfl (Nat.le_of_ble_eq_true rfl) dX5_isQuiet_19 (fun v w hq => ?_)
      obtain ⟨zmd_1_308, zmd_2_309, zmi_f_310, zr_311, rfl, rfl⟩ := hq
      show G E X 2 [(md, .inr (5, [.ref mi, .long zmd_1_308, .long zmd_2_309])), (mi, .inl (E.2.2.1 3, 6, .inr (.inl zmi_f_310)))] 0 0 [(0, .ref md), (1, .int co)] 22 [.long zr_311]
      refine g_lconst (v := 0) B dX5_isQuiet_22 (by decide) ?_
      refine g_lcmp B dX5_isQuiet_23 ?_
      refine g_if_ne (tgt := 31) B dX5_isQuiet_24 (by decide) (fun c24_312 => ?_) (fun c24_312 => ?_)
      · refine g_iconst (v := 0) B dX5_isQuiet_31 (by decide) ?_
        exact g_zret B hr (by decide) dX5_isQuiet_32 (by decide) (by decide) ⟨zmd_1_308, zmd_2_309, zmi_f_310, 0, (Or.inl rfl), rfl, rfl⟩
      · refine g_iconst (v := 1) B dX5_isQuiet_27 (by decide) ?_
        refine g_goto (tgt := 32) B dX5_isQuiet_28 (by decide) ?_
        exact g_zret B hr (by decide) dX5_isQuiet_32 (by decide) (by decide) ⟨zmd_1_308, zmd_2_309, zmi_f_310, 1, (Or.inr rfl), rfl, rfl⟩
abbrev MX5_share : g_M := (yX5_share, cX5_share, 3, (some .long))
theorem dX5_share_0 : decode cX5_share 0 = .ok (.aload_n 0, 1) := by decide +kernel
theorem dX5_share_1 : decode cX5_share 1 = .ok (.iload_n 1, 1) := by decide +kernel
theorem dX5_share_2 : decode cX5_share 2 = .ok (.iload_n 2, 1) := by decide +kernel
theorem dX5_share_3 : decode cX5_share 3 = .ok (.invokevirtual 28, 3) := by decide +kernel
theorem dX5_share_6 : decode cX5_share 6 = .ok (.iconst 4, 1) := by decide +kernel
theorem dX5_share_7 : decode cX5_share 7 = .ok (.lshr, 1) := by decide +kernel
theorem dX5_share_8 : decode cX5_share 8 = .ok (.lconst 1, 1) := by decide +kernel
theorem dX5_share_9 : decode cX5_share 9 = .ok (.ladd, 1) := by decide +kernel
theorem dX5_share_10 : decode cX5_share 10 = .ok (.lreturn, 1) := by decide +kernel
set_option maxRecDepth 100000 in
set_option maxHeartbeats 4000000 in
theorem wk_X5_share (E : g_E) (md : Nat) (mi : Nat) (md_1 : Int64) (md_2 : Int64) (mi_f : Nat → Int64) (ch : Int32) (k : Int32)  : Ev E MX5_share 1 23 0 0 [.ref md, .int ch, .int k] [(md, .inr (5, [.ref mi, .long md_1, .long md_2])), (mi, .inl (E.2.2.1 3, 6, .inr (.inl mi_f)))] (fun v_ w_ => ∃ zmd_1 : Int64, ∃ zmd_2 : Int64, ∃ zmi_f : Nat → Int64, ∃ zr : Int64, v_ = some (.long zr) ∧ w_ = [(md, .inr (5, [.ref mi, .long zmd_1, .long zmd_2])), (mi, .inl (E.2.2.1 3, 6, .inr (.inl zmi_f)))]) := by
  refine Ev.intro (by decide) (Nat.le_of_ble_eq_true rfl) ?_
  intro X B hr hI
  have B : Bd E X cX5_share RX5 3 1 23 0 0 := B
  have hr : Rt E X (some .long) 0 0 (fun v_ w_ => ∃ zmd_1 : Int64, ∃ zmd_2 : Int64, ∃ zmi_f : Nat → Int64, ∃ zr : Int64, v_ = some (.long zr) ∧ w_ = [(md, .inr (5, [.ref mi, .long zmd_1, .long zmd_2])), (mi, .inl (E.2.2.1 3, 6, .inr (.inl zmi_f)))]) := hr
  show G E X 3 [(md, .inr (5, [.ref mi, .long md_1, .long md_2])), (mi, .inl (E.2.2.1 3, 6, .inr (.inl mi_f)))] 0 0 [(0, .ref md), (1, .int ch), (2, .int k)] 0 []
  refine g_aload_n B dX5_share_0 rfl 0 rfl ?_
  refine g_iload_n B dX5_share_1 rfl 1 rfl ?_
  refine g_iload_n B dX5_share_2 rfl 2 rfl ?_
  refine g_callV (st := []) (As := [.int ch, .int k]) (wr := []) (nc' := 0) (ns' := 0) B cl_X5_28 w_im_X5_middleOf w_se_X5_middleOf (wk_X5_middleOf E md mi md_1 md_2 mi_f ch k ) rfl [0, 1] [] rfl rfl (by decide) (by decide) (by decide) 0 rfl (fun q h => by cases h; rfl) rfl ⟨by decide, by decide⟩ rfl rfl (by decide) (by decide) rfl (Nat.le_of_ble_eq_true rfl) dX5_share_3 (fun v w hq => ?_)
  obtain ⟨zmd_1_313, zmd_2_314, zmi_f_315, zr_316, rfl, rfl⟩ := hq
  show G E X 3 [(md, .inr (5, [.ref mi, .long zmd_1_313, .long zmd_2_314])), (mi, .inl (E.2.2.1 3, 6, .inr (.inl zmi_f_315)))] 0 0 [(0, .ref md), (1, .int ch), (2, .int k)] 6 [.long zr_316]
  refine g_iconst (v := 4) B dX5_share_6 (by decide) ?_
  refine g_lshr B dX5_share_7 ?_
  refine g_lconst (v := 1) B dX5_share_8 (by decide) ?_
  refine g_ladd B dX5_share_9 ?_
  exact g_lret B hr dX5_share_10 (by decide) (by decide) ⟨zmd_1_313, zmd_2_314, zmi_f_315, ((zr_316 >>> (Int32.toInt64 4 &&& 63)) + 1), rfl, rfl⟩
abbrev MX5_onesOf : g_M := (yX5_onesOf, cX5_onesOf, 10, (some .long))
theorem dX5_onesOf_0 : decode cX5_onesOf 0 = .ok (.aload_n 0, 1) := by decide +kernel
theorem dX5_onesOf_1 : decode cX5_onesOf 1 = .ok (.iload_n 1, 1) := by decide +kernel
theorem dX5_onesOf_2 : decode cX5_onesOf 2 = .ok (.iconst 0, 1) := by decide +kernel
theorem dX5_onesOf_3 : decode cX5_onesOf 3 = .ok (.invokevirtual 32, 3) := by decide +kernel
theorem w_ml_X5_32 : Cond.methodLink RX5 32 yX5_share ∈ g_tbl := g_tbl_in 603 (by decide +kernel) (by decide +kernel)
theorem w_cd_X5_share : g_cw MX5_share ∈ g_tbl := g_tbl_in 606 (by decide +kernel) (by decide +kernel)
theorem cl_X5_32 : CL RX5 32 2 MX5_share := ⟨w_ml_X5_32, w_cd_X5_share, w_ini_X5, by decide +kernel, by decide +kernel, by decide +kernel⟩
theorem w_im_X5_share : Cond.instanceMethod yX5_share ∈ g_tbl := g_tbl_in 605 (by decide +kernel) (by decide +kernel)
theorem w_se_X5_share : Cond.selects RX5 yX5_share yX5_share ∈ g_tbl := g_tbl_in 13 (by decide +kernel) (by decide +kernel)
theorem dX5_onesOf_6 : decode cX5_onesOf 6 = .ok (.lstore 4, 2) := by decide +kernel
theorem dX5_onesOf_8 : decode cX5_onesOf 8 = .ok (.lload 4, 2) := by decide +kernel
theorem dX5_onesOf_10 : decode cX5_onesOf 10 = .ok (.aload_n 0, 1) := by decide +kernel
theorem dX5_onesOf_11 : decode cX5_onesOf 11 = .ok (.iload_n 1, 1) := by decide +kernel
theorem dX5_onesOf_12 : decode cX5_onesOf 12 = .ok (.iconst 1, 1) := by decide +kernel
theorem dX5_onesOf_13 : decode cX5_onesOf 13 = .ok (.invokevirtual 32, 3) := by decide +kernel
theorem dX5_onesOf_16 : decode cX5_onesOf 16 = .ok (.ladd, 1) := by decide +kernel
theorem dX5_onesOf_17 : decode cX5_onesOf 17 = .ok (.lstore 6, 2) := by decide +kernel
theorem dX5_onesOf_19 : decode cX5_onesOf 19 = .ok (.lload_n 2, 1) := by decide +kernel
theorem dX5_onesOf_20 : decode cX5_onesOf 20 = .ok (.lload 4, 2) := by decide +kernel
theorem dX5_onesOf_22 : decode cX5_onesOf 22 = .ok (.lcmp, 1) := by decide +kernel
theorem dX5_onesOf_23 : decode cX5_onesOf 23 = .ok (.ifCond .ge 5, 3) := by decide +kernel
theorem dX5_onesOf_28 : decode cX5_onesOf 28 = .ok (.lload_n 2, 1) := by decide +kernel
theorem dX5_onesOf_29 : decode cX5_onesOf 29 = .ok (.lload 6, 2) := by decide +kernel
theorem dX5_onesOf_31 : decode cX5_onesOf 31 = .ok (.lcmp, 1) := by decide +kernel
theorem dX5_onesOf_32 : decode cX5_onesOf 32 = .ok (.ifCond .ge 5, 3) := by decide +kernel
theorem dX5_onesOf_37 : decode cX5_onesOf 37 = .ok (.aload_n 0, 1) := by decide +kernel
theorem dX5_onesOf_38 : decode cX5_onesOf 38 = .ok (.iload_n 1, 1) := by decide +kernel
theorem dX5_onesOf_39 : decode cX5_onesOf 39 = .ok (.iconst 2, 1) := by decide +kernel
theorem dX5_onesOf_40 : decode cX5_onesOf 40 = .ok (.invokevirtual 32, 3) := by decide +kernel
theorem dX5_onesOf_43 : decode cX5_onesOf 43 = .ok (.lstore 8, 2) := by decide +kernel
theorem dX5_onesOf_45 : decode cX5_onesOf 45 = .ok (.lload 8, 2) := by decide +kernel
theorem dX5_onesOf_47 : decode cX5_onesOf 47 = .ok (.lconst 0, 1) := by decide +kernel
theorem dX5_onesOf_48 : decode cX5_onesOf 48 = .ok (.lcmp, 1) := by decide +kernel
theorem dX5_onesOf_49 : decode cX5_onesOf 49 = .ok (.ifCond .le 17, 3) := by decide +kernel
theorem dX5_onesOf_66 : decode cX5_onesOf 66 = .ok (.ldc2_w 35, 3) := by decide +kernel
theorem w_k_X5_35 : Cond.constantLong RX5 35 2 ∈ g_tbl := g_tbl_in 607 (by decide +kernel) (by decide +kernel)
theorem dX5_onesOf_69 : decode cX5_onesOf 69 = .ok (.lreturn, 1) := by decide +kernel
theorem dX5_onesOf_52 : decode cX5_onesOf 52 = .ok (.ldc2_w 35, 3) := by decide +kernel
theorem dX5_onesOf_55 : decode cX5_onesOf 55 = .ok (.lload_n 2, 1) := by decide +kernel
theorem dX5_onesOf_56 : decode cX5_onesOf 56 = .ok (.lload 6, 2) := by decide +kernel
theorem dX5_onesOf_58 : decode cX5_onesOf 58 = .ok (.lsub, 1) := by decide +kernel
theorem dX5_onesOf_59 : decode cX5_onesOf 59 = .ok (.lload 8, 2) := by decide +kernel
theorem dX5_onesOf_61 : decode cX5_onesOf 61 = .ok (.ldiv, 1) := by decide +kernel
theorem dX5_onesOf_62 : decode cX5_onesOf 62 = .ok (.ladd, 1) := by decide +kernel
theorem dX5_onesOf_63 : decode cX5_onesOf 63 = .ok (.goto 6, 3) := by decide +kernel
theorem dX5_onesOf_35 : decode cX5_onesOf 35 = .ok (.lconst 1, 1) := by decide +kernel
theorem dX5_onesOf_36 : decode cX5_onesOf 36 = .ok (.lreturn, 1) := by decide +kernel
theorem dX5_onesOf_26 : decode cX5_onesOf 26 = .ok (.lconst 0, 1) := by decide +kernel
theorem dX5_onesOf_27 : decode cX5_onesOf 27 = .ok (.lreturn, 1) := by decide +kernel
set_option maxRecDepth 100000 in
set_option maxHeartbeats 4000000 in
theorem wk_X5_onesOf (E : g_E) (md : Nat) (mi : Nat) (md_1 : Int64) (md_2 : Int64) (mi_f : Nat → Int64) (ch : Int32) (v : Int64)  : Ev E MX5_onesOf 2 45 0 0 [.ref md, .int ch, .long v] [(md, .inr (5, [.ref mi, .long md_1, .long md_2])), (mi, .inl (E.2.2.1 3, 6, .inr (.inl mi_f)))] (fun v_ w_ => ∃ zmd_1 : Int64, ∃ zmd_2 : Int64, ∃ zmi_f : Nat → Int64, ∃ zr : Int64, v_ = some (.long zr) ∧ w_ = [(md, .inr (5, [.ref mi, .long zmd_1, .long zmd_2])), (mi, .inl (E.2.2.1 3, 6, .inr (.inl zmi_f)))]) := by
  refine Ev.intro (by decide) (Nat.le_of_ble_eq_true rfl) ?_
  intro X B hr hI
  have B : Bd E X cX5_onesOf RX5 10 2 45 0 0 := B
  have hr : Rt E X (some .long) 0 0 (fun v_ w_ => ∃ zmd_1 : Int64, ∃ zmd_2 : Int64, ∃ zmi_f : Nat → Int64, ∃ zr : Int64, v_ = some (.long zr) ∧ w_ = [(md, .inr (5, [.ref mi, .long zmd_1, .long zmd_2])), (mi, .inl (E.2.2.1 3, 6, .inr (.inl zmi_f)))]) := hr
  show G E X 10 [(md, .inr (5, [.ref mi, .long md_1, .long md_2])), (mi, .inl (E.2.2.1 3, 6, .inr (.inl mi_f)))] 0 0 [(0, .ref md), (1, .int ch), (2, .long v)] 0 []
  refine g_aload_n B dX5_onesOf_0 rfl 0 rfl ?_
  refine g_iload_n B dX5_onesOf_1 rfl 1 rfl ?_
  refine g_iconst (v := 0) B dX5_onesOf_2 (by decide) ?_
  refine g_callV (st := []) (As := [.int ch, .int 0]) (wr := []) (nc' := 0) (ns' := 0) B cl_X5_32 w_im_X5_share w_se_X5_share (wk_X5_share E md mi md_1 md_2 mi_f ch 0 ) rfl [0, 1] [] rfl rfl (by decide) (by decide) (by decide) 0 rfl (fun q h => by cases h; rfl) rfl ⟨by decide, by decide⟩ rfl rfl (by decide) (by decide) rfl (Nat.le_of_ble_eq_true rfl) dX5_onesOf_3 (fun v w hq => ?_)
  obtain ⟨zmd_1_317, zmd_2_318, zmi_f_319, zr_320, rfl, rfl⟩ := hq
  show G E X 10 [(md, .inr (5, [.ref mi, .long zmd_1_317, .long zmd_2_318])), (mi, .inl (E.2.2.1 3, 6, .inr (.inl zmi_f_319)))] 0 0 [(0, .ref md), (1, .int ch), (2, .long v)] 6 [.long zr_320]
  refine g_lstore (lv' := [(4, .long zr_320), (0, .ref md), (1, .int ch), (2, .long v)]) B dX5_onesOf_6 (by decide) rfl ?_
  refine g_lload B dX5_onesOf_8 0 rfl ?_
  refine g_aload_n B dX5_onesOf_10 rfl 1 rfl ?_
  refine g_iload_n B dX5_onesOf_11 rfl 2 rfl ?_
  refine g_iconst (v := 1) B dX5_onesOf_12 (by decide) ?_
  refine g_callV (st := [.long zr_320]) (As := [.int ch, .int 1]) (wr := []) (nc' := 0) (ns' := 0) B cl_X5_32 w_im_X5_share w_se_X5_share (wk_X5_share E md mi zmd_1_317 zmd_2_318 zmi_f_319 ch 1 ) rfl [0, 1] [] rfl rfl (by decide) (by decide) (by decide) 0 rfl (fun q h => by cases h; rfl) rfl ⟨by decide, by decide⟩ rfl rfl (by decide) (by decide) rfl (Nat.le_of_ble_eq_true rfl) dX5_onesOf_13 (fun v w hq => ?_)
  obtain ⟨zmd_1_321, zmd_2_322, zmi_f_323, zr_324, rfl, rfl⟩ := hq
  show G E X 10 [(md, .inr (5, [.ref mi, .long zmd_1_321, .long zmd_2_322])), (mi, .inl (E.2.2.1 3, 6, .inr (.inl zmi_f_323)))] 0 0 [(4, .long zr_320), (0, .ref md), (1, .int ch), (2, .long v)] 16 [.long zr_324, .long zr_320]
  refine g_ladd B dX5_onesOf_16 ?_
  refine g_lstore (lv' := [(6, .long (zr_320 + zr_324)), (4, .long zr_320), (0, .ref md), (1, .int ch), (2, .long v)]) B dX5_onesOf_17 (by decide) rfl ?_
  refine g_lload_n B dX5_onesOf_19 rfl 4 rfl ?_
  refine g_lload B dX5_onesOf_20 1 rfl ?_
  refine g_lcmp B dX5_onesOf_22 ?_
  refine g_if_ge (tgt := 28) B dX5_onesOf_23 (by decide) (fun c23_325 => ?_) (fun c23_325 => ?_)
  · refine g_lload_n B dX5_onesOf_28 rfl 4 rfl ?_
    refine g_lload B dX5_onesOf_29 0 rfl ?_
    refine g_lcmp B dX5_onesOf_31 ?_
    refine g_if_ge (tgt := 37) B dX5_onesOf_32 (by decide) (fun c32_326 => ?_) (fun c32_326 => ?_)
    · refine g_aload_n B dX5_onesOf_37 rfl 2 rfl ?_
      refine g_iload_n B dX5_onesOf_38 rfl 3 rfl ?_
      refine g_iconst (v := 2) B dX5_onesOf_39 (by decide) ?_
      refine g_callV (st := []) (As := [.int ch, .int 2]) (wr := []) (nc' := 0) (ns' := 0) B cl_X5_32 w_im_X5_share w_se_X5_share (wk_X5_share E md mi zmd_1_321 zmd_2_322 zmi_f_323 ch 2 ) rfl [0, 1] [] rfl rfl (by decide) (by decide) (by decide) 0 rfl (fun q h => by cases h; rfl) rfl ⟨by decide, by decide⟩ rfl rfl (by decide) (by decide) rfl (Nat.le_of_ble_eq_true rfl) dX5_onesOf_40 (fun v w hq => ?_)
      obtain ⟨zmd_1_327, zmd_2_328, zmi_f_329, zr_330, rfl, rfl⟩ := hq
      show G E X 10 [(md, .inr (5, [.ref mi, .long zmd_1_327, .long zmd_2_328])), (mi, .inl (E.2.2.1 3, 6, .inr (.inl zmi_f_329)))] 0 0 [(6, .long (zr_320 + zr_324)), (4, .long zr_320), (0, .ref md), (1, .int ch), (2, .long v)] 43 [.long zr_330]
      refine g_lstore (lv' := [(8, .long zr_330), (6, .long (zr_320 + zr_324)), (4, .long zr_320), (0, .ref md), (1, .int ch), (2, .long v)]) B dX5_onesOf_43 (by decide) rfl ?_
      refine g_lload B dX5_onesOf_45 0 rfl ?_
      refine g_lconst (v := 0) B dX5_onesOf_47 (by decide) ?_
      refine g_lcmp B dX5_onesOf_48 ?_
      refine g_if_le (tgt := 66) B dX5_onesOf_49 (by decide) (fun c49_331 => ?_) (fun c49_331 => ?_)
      · refine g_ldc2 (v := 2) B w_k_X5_35 dX5_onesOf_66 ?_
        exact g_lret B hr dX5_onesOf_69 (by decide) (by decide) ⟨zmd_1_327, zmd_2_328, zmi_f_329, 2, rfl, rfl⟩
      · refine g_ldc2 (v := 2) B w_k_X5_35 dX5_onesOf_52 ?_
        refine g_lload_n B dX5_onesOf_55 rfl 5 rfl ?_
        refine g_lload B dX5_onesOf_56 1 rfl ?_
        refine g_lsub B dX5_onesOf_58 ?_
        refine g_lload B dX5_onesOf_59 0 rfl ?_
        refine g_ldiv B dX5_onesOf_61 (cmp_ne c49_331) ?_
        refine g_ladd B dX5_onesOf_62 ?_
        refine g_goto (tgt := 69) B dX5_onesOf_63 (by decide) ?_
        exact g_lret B hr dX5_onesOf_69 (by decide) (by decide) ⟨zmd_1_327, zmd_2_328, zmi_f_329, (2 + ((v - (zr_320 + zr_324)) / zr_330)), rfl, rfl⟩
    · refine g_lconst (v := 1) B dX5_onesOf_35 (by decide) ?_
      exact g_lret B hr dX5_onesOf_36 (by decide) (by decide) ⟨zmd_1_321, zmd_2_322, zmi_f_323, 1, rfl, rfl⟩
  · refine g_lconst (v := 0) B dX5_onesOf_26 (by decide) ?_
    exact g_lret B hr dX5_onesOf_27 (by decide) (by decide) ⟨zmd_1_321, zmd_2_322, zmi_f_323, 0, rfl, rfl⟩
abbrev MX5_mid : g_M := (yX5_mid, cX5_mid, 1, (some .long))
theorem dX5_mid_0 : decode cX5_mid 0 = .ok (.aload_n 0, 1) := by decide +kernel
theorem dX5_mid_1 : decode cX5_mid 1 = .ok (.getfield 15, 3) := by decide +kernel
theorem dX5_mid_4 : decode cX5_mid 4 = .ok (.aload_n 0, 1) := by decide +kernel
theorem dX5_mid_5 : decode cX5_mid 5 = .ok (.getfield 19, 3) := by decide +kernel
theorem dX5_mid_8 : decode cX5_mid 8 = .ok (.ladd, 1) := by decide +kernel
theorem dX5_mid_9 : decode cX5_mid 9 = .ok (.lconst 1, 1) := by decide +kernel
theorem dX5_mid_10 : decode cX5_mid 10 = .ok (.ladd, 1) := by decide +kernel
theorem dX5_mid_11 : decode cX5_mid 11 = .ok (.iconst 1, 1) := by decide +kernel
theorem dX5_mid_12 : decode cX5_mid 12 = .ok (.lshr, 1) := by decide +kernel
theorem dX5_mid_13 : decode cX5_mid 13 = .ok (.lreturn, 1) := by decide +kernel
set_option maxRecDepth 100000 in
set_option maxHeartbeats 4000000 in
theorem wk_X5_mid (E : g_E) (md : Nat) (mi : Nat) (md_1 : Int64) (md_2 : Int64) (mi_f : Nat → Int64)  : Ev E MX5_mid 0 0 0 0 [.ref md] [(md, .inr (5, [.ref mi, .long md_1, .long md_2])), (mi, .inl (E.2.2.1 3, 6, .inr (.inl mi_f)))] (fun v_ w_ => ∃ zmd_1 : Int64, ∃ zmd_2 : Int64, ∃ zmi_f : Nat → Int64, ∃ zr : Int64, v_ = some (.long zr) ∧ w_ = [(md, .inr (5, [.ref mi, .long zmd_1, .long zmd_2])), (mi, .inl (E.2.2.1 3, 6, .inr (.inl zmi_f)))]) := by
  refine Ev.intro (by decide) (Nat.le_of_ble_eq_true rfl) ?_
  intro X B hr hI
  have B : Bd E X cX5_mid RX5 1 0 0 0 0 := B
  have hr : Rt E X (some .long) 0 0 (fun v_ w_ => ∃ zmd_1 : Int64, ∃ zmd_2 : Int64, ∃ zmi_f : Nat → Int64, ∃ zr : Int64, v_ = some (.long zr) ∧ w_ = [(md, .inr (5, [.ref mi, .long zmd_1, .long zmd_2])), (mi, .inl (E.2.2.1 3, 6, .inr (.inl zmi_f)))]) := hr
  show G E X 1 [(md, .inr (5, [.ref mi, .long md_1, .long md_2])), (mi, .inl (E.2.2.1 3, 6, .inr (.inl mi_f)))] 0 0 [(0, .ref md)] 0 []
  refine g_aload_n B dX5_mid_0 rfl 0 rfl ?_
  refine g_get B 0 1 fl_X5_15 rfl rfl dX5_mid_1 ?_
  refine g_aload_n B dX5_mid_4 rfl 0 rfl ?_
  refine g_get B 0 2 fl_X5_19 rfl rfl dX5_mid_5 ?_
  refine g_ladd B dX5_mid_8 ?_
  refine g_lconst (v := 1) B dX5_mid_9 (by decide) ?_
  refine g_ladd B dX5_mid_10 ?_
  refine g_iconst (v := 1) B dX5_mid_11 (by decide) ?_
  refine g_lshr B dX5_mid_12 ?_
  exact g_lret B hr dX5_mid_13 (by decide) (by decide) ⟨md_1, md_2, mi_f, (((md_1 + md_2) + 1) >>> (Int32.toInt64 1 &&& 63)), rfl, rfl⟩
abbrev MX5_halve : g_M := (yX5_halve, cX5_halve, 2, none)
theorem dX5_halve_0 : decode cX5_halve 0 = .ok (.iload_n 1, 1) := by decide +kernel
theorem dX5_halve_1 : decode cX5_halve 1 = .ok (.ifCond .eq 14, 3) := by decide +kernel
theorem dX5_halve_15 : decode cX5_halve 15 = .ok (.aload_n 0, 1) := by decide +kernel
theorem dX5_halve_16 : decode cX5_halve 16 = .ok (.aload_n 0, 1) := by decide +kernel
theorem dX5_halve_17 : decode cX5_halve 17 = .ok (.invokevirtual 41, 3) := by decide +kernel
theorem w_ml_X5_41 : Cond.methodLink RX5 41 yX5_mid ∈ g_tbl := g_tbl_in 646 (by decide +kernel) (by decide +kernel)
theorem w_cd_X5_mid : g_cw MX5_mid ∈ g_tbl := g_tbl_in 640 (by decide +kernel) (by decide +kernel)
theorem cl_X5_41 : CL RX5 41 0 MX5_mid := ⟨w_ml_X5_41, w_cd_X5_mid, w_ini_X5, by decide +kernel, by decide +kernel, by decide +kernel⟩
theorem w_im_X5_mid : Cond.instanceMethod yX5_mid ∈ g_tbl := g_tbl_in 638 (by decide +kernel) (by decide +kernel)
theorem w_se_X5_mid : Cond.selects RX5 yX5_mid yX5_mid ∈ g_tbl := g_tbl_in 639 (by decide +kernel) (by decide +kernel)
theorem dX5_halve_20 : decode cX5_halve 20 = .ok (.lconst 1, 1) := by decide +kernel
theorem dX5_halve_21 : decode cX5_halve 21 = .ok (.lsub, 1) := by decide +kernel
theorem dX5_halve_22 : decode cX5_halve 22 = .ok (.putfield 19, 3) := by decide +kernel
theorem dX5_halve_25 : decode cX5_halve 25 = .ok (.return_, 1) := by decide +kernel
theorem dX5_halve_4 : decode cX5_halve 4 = .ok (.aload_n 0, 1) := by decide +kernel
theorem dX5_halve_5 : decode cX5_halve 5 = .ok (.aload_n 0, 1) := by decide +kernel
theorem dX5_halve_6 : decode cX5_halve 6 = .ok (.invokevirtual 41, 3) := by decide +kernel
theorem dX5_halve_9 : decode cX5_halve 9 = .ok (.putfield 15, 3) := by decide +kernel
theorem dX5_halve_12 : decode cX5_halve 12 = .ok (.goto 13, 3) := by decide +kernel
set_option maxRecDepth 100000 in
set_option maxHeartbeats 4000000 in
theorem wk_X5_halve (E : g_E) (md : Nat) (mi : Nat) (md_1 : Int64) (md_2 : Int64) (mi_f : Nat → Int64) (u : Int32)  : Ev E MX5_halve 1 20 0 0 [.ref md, .int u] [(md, .inr (5, [.ref mi, .long md_1, .long md_2])), (mi, .inl (E.2.2.1 3, 6, .inr (.inl mi_f)))] (fun v_ w_ => ∃ zmd_1 : Int64, ∃ zmd_2 : Int64, ∃ zmi_f : Nat → Int64, v_ = none ∧ w_ = [(md, .inr (5, [.ref mi, .long zmd_1, .long zmd_2])), (mi, .inl (E.2.2.1 3, 6, .inr (.inl zmi_f)))]) := by
  refine Ev.intro (by decide) (Nat.le_of_ble_eq_true rfl) ?_
  intro X B hr hI
  have B : Bd E X cX5_halve RX5 2 1 20 0 0 := B
  have hr : Rt E X none 0 0 (fun v_ w_ => ∃ zmd_1 : Int64, ∃ zmd_2 : Int64, ∃ zmi_f : Nat → Int64, v_ = none ∧ w_ = [(md, .inr (5, [.ref mi, .long zmd_1, .long zmd_2])), (mi, .inl (E.2.2.1 3, 6, .inr (.inl zmi_f)))]) := hr
  show G E X 2 [(md, .inr (5, [.ref mi, .long md_1, .long md_2])), (mi, .inl (E.2.2.1 3, 6, .inr (.inl mi_f)))] 0 0 [(0, .ref md), (1, .int u)] 0 []
  refine g_iload_n B dX5_halve_0 rfl 1 rfl ?_
  refine g_if_eq (tgt := 15) B dX5_halve_1 (by decide) (fun c1_332 => ?_) (fun c1_332 => ?_)
  · refine g_aload_n B dX5_halve_15 rfl 0 rfl ?_
    refine g_aload_n B dX5_halve_16 rfl 0 rfl ?_
    refine g_callV (st := [.ref md]) (As := []) (wr := []) (nc' := 0) (ns' := 0) B cl_X5_41 w_im_X5_mid w_se_X5_mid (wk_X5_mid E md mi md_1 md_2 mi_f ) rfl [0, 1] [] rfl rfl (by decide) (by decide) (by decide) 0 rfl (fun q h => by cases h; rfl) rfl ⟨by decide, by decide⟩ rfl rfl (by decide) (by decide) rfl (Nat.le_of_ble_eq_true rfl) dX5_halve_17 (fun v w hq => ?_)
    obtain ⟨zmd_1_333, zmd_2_334, zmi_f_335, zr_336, rfl, rfl⟩ := hq
    show G E X 2 [(md, .inr (5, [.ref mi, .long zmd_1_333, .long zmd_2_334])), (mi, .inl (E.2.2.1 3, 6, .inr (.inl zmi_f_335)))] 0 0 [(0, .ref md), (1, .int u)] 20 [.long zr_336, .ref md]
    refine g_lconst (v := 1) B dX5_halve_20 (by decide) ?_
    refine g_lsub B dX5_halve_21 ?_
    refine g_put (ws' := [(md, .inr (5, [.ref mi, .long zmd_1_333, .long (zr_336 - 1)])), (mi, .inl (E.2.2.1 3, 6, .inr (.inl zmi_f_335)))]) B 0 2 fl_X5_19 pf_X5_2 rfl (Nat.le_of_ble_eq_true rfl) rfl rfl rfl dX5_halve_22 ?_
    exact g_vret B hr dX5_halve_25 (by decide) (by decide) ⟨zmd_1_333, (zr_336 - 1), zmi_f_335, rfl, rfl⟩
  · refine g_aload_n B dX5_halve_4 rfl 0 rfl ?_
    refine g_aload_n B dX5_halve_5 rfl 0 rfl ?_
    refine g_callV (st := [.ref md]) (As := []) (wr := []) (nc' := 0) (ns' := 0) B cl_X5_41 w_im_X5_mid w_se_X5_mid (wk_X5_mid E md mi md_1 md_2 mi_f ) rfl [0, 1] [] rfl rfl (by decide) (by decide) (by decide) 0 rfl (fun q h => by cases h; rfl) rfl ⟨by decide, by decide⟩ rfl rfl (by decide) (by decide) rfl (Nat.le_of_ble_eq_true rfl) dX5_halve_6 (fun v w hq => ?_)
    obtain ⟨zmd_1_337, zmd_2_338, zmi_f_339, zr_340, rfl, rfl⟩ := hq
    show G E X 2 [(md, .inr (5, [.ref mi, .long zmd_1_337, .long zmd_2_338])), (mi, .inl (E.2.2.1 3, 6, .inr (.inl zmi_f_339)))] 0 0 [(0, .ref md), (1, .int u)] 9 [.long zr_340, .ref md]
    refine g_put (ws' := [(md, .inr (5, [.ref mi, .long zr_340, .long zmd_2_338])), (mi, .inl (E.2.2.1 3, 6, .inr (.inl zmi_f_339)))]) B 0 1 fl_X5_15 pf_X5_1 rfl (Nat.le_of_ble_eq_true rfl) rfl rfl rfl dX5_halve_9 ?_
    refine g_goto (tgt := 25) B dX5_halve_12 (by decide) ?_
    exact g_vret B hr dX5_halve_25 (by decide) (by decide) ⟨zr_340, zmd_2_338, zmi_f_339, rfl, rfl⟩
abbrev MX5_near : g_M := (yX5_near, cX5_near, 3, (some .int))
theorem dX5_near_0 : decode cX5_near 0 = .ok (.aload_n 0, 1) := by decide +kernel
theorem dX5_near_1 : decode cX5_near 1 = .ok (.invokevirtual 41, 3) := by decide +kernel
theorem dX5_near_4 : decode cX5_near 4 = .ok (.ldc2_w 45, 3) := by decide +kernel
theorem w_k_X5_45 : Cond.constantLong RX5 45 2147483647 ∈ g_tbl := g_tbl_in 655 (by decide +kernel) (by decide +kernel)
theorem dX5_near_7 : decode cX5_near 7 = .ok (.invokestatic 47, 3) := by decide +kernel
theorem w_mlm_X5_47 : Cond.methodLink RX5 47 Lib.MathLoose.min_long.x ∈ g_tbl := g_tbl_in 656 (by decide +kernel) (by decide +kernel)
theorem w_smm_min_JJ_J : Cond.static Lib.MathLoose.min_long.x ∈ g_tbl := g_tbl_in 614 (by decide +kernel) (by decide +kernel)
theorem w_cdm_min_JJ_J : Cond.code Lib.MathLoose.min_long.x Lib.MathLoose.min_long.code 4 (some .long) ∈ g_tbl := g_tbl_in 615 (by decide +kernel) (by decide +kernel)
theorem dX5_near_10 : decode cX5_near 10 = .ok (.l2i, 1) := by decide +kernel
theorem dX5_near_11 : decode cX5_near 11 = .ok (.istore_n 2, 1) := by decide +kernel
theorem dX5_near_12 : decode cX5_near 12 = .ok (.iload_n 1, 1) := by decide +kernel
theorem dX5_near_13 : decode cX5_near 13 = .ok (.ifCond .eq 9, 3) := by decide +kernel
theorem dX5_near_22 : decode cX5_near 22 = .ok (.iload_n 2, 1) := by decide +kernel
theorem dX5_near_23 : decode cX5_near 23 = .ok (.ireturn, 1) := by decide +kernel
theorem dX5_near_16 : decode cX5_near 16 = .ok (.iconst (-1), 1) := by decide +kernel
theorem dX5_near_17 : decode cX5_near 17 = .ok (.iload_n 2, 1) := by decide +kernel
theorem dX5_near_18 : decode cX5_near 18 = .ok (.isub, 1) := by decide +kernel
theorem dX5_near_19 : decode cX5_near 19 = .ok (.goto 4, 3) := by decide +kernel
set_option maxRecDepth 100000 in
set_option maxHeartbeats 4000000 in
theorem wk_X5_near (E : g_E) (md : Nat) (mi : Nat) (md_1 : Int64) (md_2 : Int64) (mi_f : Nat → Int64) (be : Int32)  : Ev E MX5_near 1 23 0 0 [.ref md, .int be] [(md, .inr (5, [.ref mi, .long md_1, .long md_2])), (mi, .inl (E.2.2.1 3, 6, .inr (.inl mi_f)))] (fun v_ w_ => ∃ zmd_1 : Int64, ∃ zmd_2 : Int64, ∃ zmi_f : Nat → Int64, ∃ zr : Int32, v_ = some (.int zr) ∧ w_ = [(md, .inr (5, [.ref mi, .long zmd_1, .long zmd_2])), (mi, .inl (E.2.2.1 3, 6, .inr (.inl zmi_f)))]) := by
  refine Ev.intro (by decide) (Nat.le_of_ble_eq_true rfl) ?_
  intro X B hr hI
  have B : Bd E X cX5_near RX5 3 1 23 0 0 := B
  have hr : Rt E X (some .int) 0 0 (fun v_ w_ => ∃ zmd_1 : Int64, ∃ zmd_2 : Int64, ∃ zmi_f : Nat → Int64, ∃ zr : Int32, v_ = some (.int zr) ∧ w_ = [(md, .inr (5, [.ref mi, .long zmd_1, .long zmd_2])), (mi, .inl (E.2.2.1 3, 6, .inr (.inl zmi_f)))]) := hr
  show G E X 3 [(md, .inr (5, [.ref mi, .long md_1, .long md_2])), (mi, .inl (E.2.2.1 3, 6, .inr (.inl mi_f)))] 0 0 [(0, .ref md), (1, .int be)] 0 []
  refine g_aload_n B dX5_near_0 rfl 0 rfl ?_
  refine g_callV (st := []) (As := []) (wr := []) (nc' := 0) (ns' := 0) B cl_X5_41 w_im_X5_mid w_se_X5_mid (wk_X5_mid E md mi md_1 md_2 mi_f ) rfl [0, 1] [] rfl rfl (by decide) (by decide) (by decide) 0 rfl (fun q h => by cases h; rfl) rfl ⟨by decide, by decide⟩ rfl rfl (by decide) (by decide) rfl (Nat.le_of_ble_eq_true rfl) dX5_near_1 (fun v w hq => ?_)
  obtain ⟨zmd_1_341, zmd_2_342, zmi_f_343, zr_344, rfl, rfl⟩ := hq
  show G E X 3 [(md, .inr (5, [.ref mi, .long zmd_1_341, .long zmd_2_342])), (mi, .inl (E.2.2.1 3, 6, .inr (.inl zmi_f_343)))] 0 0 [(0, .ref md), (1, .int be)] 4 [.long zr_344]
  refine g_ldc2 (v := 2147483647) B w_k_X5_45 dX5_near_4 ?_
  refine g_mminl B w_mlm_X5_47 w_smm_min_JJ_J w_ini_Math w_cdm_min_JJ_J (by decide) (Nat.le_of_ble_eq_true rfl) (by decide) (by decide) dX5_near_7 ?_
  refine g_l2i B dX5_near_10 ?_
  refine g_istore_n (lv' := [(2, .int (Int64.toInt32 (if 2147483647 < zr_344 then 2147483647 else zr_344))), (0, .ref md), (1, .int be)]) B dX5_near_11 rfl (by decide) rfl ?_
  refine g_iload_n B dX5_near_12 rfl 2 rfl ?_
  refine g_if_eq (tgt := 22) B dX5_near_13 (by decide) (fun c13_345 => ?_) (fun c13_345 => ?_)
  · refine g_iload_n B dX5_near_22 rfl 0 rfl ?_
    exact g_iret B hr dX5_near_23 (by decide) (by decide) ⟨zmd_1_341, zmd_2_342, zmi_f_343, (Int64.toInt32 (if 2147483647 < zr_344 then 2147483647 else zr_344)), rfl, rfl⟩
  · refine g_iconst (v := (-1)) B dX5_near_16 (by decide) ?_
    refine g_iload_n B dX5_near_17 rfl 0 rfl ?_
    refine g_isub B dX5_near_18 ?_
    refine g_goto (tgt := 23) B dX5_near_19 (by decide) ?_
    exact g_iret B hr dX5_near_23 (by decide) (by decide) ⟨zmd_1_341, zmd_2_342, zmi_f_343, ((-1) - (Int64.toInt32 (if 2147483647 < zr_344 then 2147483647 else zr_344))), rfl, rfl⟩
abbrev MX5_move : g_M := (yX5_move, cX5_move, 7, none)
theorem dX5_move_0 : decode cX5_move 0 = .ok (.iload_n 1, 1) := by decide +kernel
theorem dX5_move_1 : decode cX5_move 1 = .ok (.iconst 1, 1) := by decide +kernel
theorem dX5_move_2 : decode cX5_move 2 = .ok (.iand, 1) := by decide +kernel
theorem dX5_move_3 : decode cX5_move 3 = .ok (.iconst 3, 1) := by decide +kernel
theorem dX5_move_4 : decode cX5_move 4 = .ok (.imul, 1) := by decide +kernel
theorem dX5_move_5 : decode cX5_move 5 = .ok (.iload_n 2, 1) := by decide +kernel
theorem dX5_move_6 : decode cX5_move 6 = .ok (.iadd, 1) := by decide +kernel
theorem dX5_move_7 : decode cX5_move 7 = .ok (.istore 4, 2) := by decide +kernel
theorem dX5_move_9 : decode cX5_move 9 = .ok (.iload 4, 2) := by decide +kernel
theorem dX5_move_11 : decode cX5_move 11 = .ok (.ifCond .lt 13, 3) := by decide +kernel
theorem dX5_move_24 : decode cX5_move 24 = .ok (.return_, 1) := by decide +kernel
theorem dX5_move_14 : decode cX5_move 14 = .ok (.iload 4, 2) := by decide +kernel
theorem dX5_move_16 : decode cX5_move 16 = .ok (.aload_n 0, 1) := by decide +kernel
theorem dX5_move_17 : decode cX5_move 17 = .ok (.getfield 9, 3) := by decide +kernel
theorem dX5_move_20 : decode cX5_move 20 = .ok (.arraylength, 1) := by decide +kernel
theorem dX5_move_21 : decode cX5_move 21 = .ok (.if_icmp .lt 4, 3) := by decide +kernel
theorem dX5_move_25 : decode cX5_move 25 = .ok (.sipush 128, 3) := by decide +kernel
theorem dX5_move_28 : decode cX5_move 28 = .ok (.iload_n 2, 1) := by decide +kernel
theorem dX5_move_29 : decode cX5_move 29 = .ok (.ishr, 1) := by decide +kernel
theorem dX5_move_30 : decode cX5_move 30 = .ok (.i2l, 1) := by decide +kernel
theorem dX5_move_31 : decode cX5_move 31 = .ok (.lstore 5, 2) := by decide +kernel
theorem dX5_move_33 : decode cX5_move 33 = .ok (.iload_n 3, 1) := by decide +kernel
theorem dX5_move_34 : decode cX5_move 34 = .ok (.ifCond .eq 35, 3) := by decide +kernel
theorem dX5_move_69 : decode cX5_move 69 = .ok (.aload_n 0, 1) := by decide +kernel
theorem dX5_move_70 : decode cX5_move 70 = .ok (.getfield 9, 3) := by decide +kernel
theorem dX5_move_73 : decode cX5_move 73 = .ok (.iload 4, 2) := by decide +kernel
theorem dX5_move_75 : decode cX5_move 75 = .ok (.dup2, 1) := by decide +kernel
theorem dX5_move_76 : decode cX5_move 76 = .ok (.laload, 1) := by decide +kernel
theorem dX5_move_77 : decode cX5_move 77 = .ok (.aload_n 0, 1) := by decide +kernel
theorem dX5_move_78 : decode cX5_move 78 = .ok (.getfield 9, 3) := by decide +kernel
theorem dX5_move_81 : decode cX5_move 81 = .ok (.iload 4, 2) := by decide +kernel
theorem dX5_move_83 : decode cX5_move 83 = .ok (.laload, 1) := by decide +kernel
theorem dX5_move_84 : decode cX5_move 84 = .ok (.lload 5, 2) := by decide +kernel
theorem dX5_move_86 : decode cX5_move 86 = .ok (.ladd, 1) := by decide +kernel
theorem dX5_move_87 : decode cX5_move 87 = .ok (.ldc2_w 35, 3) := by decide +kernel
theorem dX5_move_90 : decode cX5_move 90 = .ok (.lsub, 1) := by decide +kernel
theorem dX5_move_91 : decode cX5_move 91 = .ok (.bipush 7, 2) := by decide +kernel
theorem dX5_move_93 : decode cX5_move 93 = .ok (.iload_n 2, 1) := by decide +kernel
theorem dX5_move_94 : decode cX5_move 94 = .ok (.isub, 1) := by decide +kernel
theorem dX5_move_95 : decode cX5_move 95 = .ok (.lshr, 1) := by decide +kernel
theorem dX5_move_96 : decode cX5_move 96 = .ok (.ldc2_w 35, 3) := by decide +kernel
theorem dX5_move_99 : decode cX5_move 99 = .ok (.lmul, 1) := by decide +kernel
theorem dX5_move_100 : decode cX5_move 100 = .ok (.lsub, 1) := by decide +kernel
theorem dX5_move_101 : decode cX5_move 101 = .ok (.lastore, 1) := by decide +kernel
theorem dX5_move_102 : decode cX5_move 102 = .ok (.return_, 1) := by decide +kernel
theorem dX5_move_37 : decode cX5_move 37 = .ok (.aload_n 0, 1) := by decide +kernel
theorem dX5_move_38 : decode cX5_move 38 = .ok (.getfield 9, 3) := by decide +kernel
theorem dX5_move_41 : decode cX5_move 41 = .ok (.iload 4, 2) := by decide +kernel
theorem dX5_move_43 : decode cX5_move 43 = .ok (.dup2, 1) := by decide +kernel
theorem dX5_move_44 : decode cX5_move 44 = .ok (.laload, 1) := by decide +kernel
theorem dX5_move_45 : decode cX5_move 45 = .ok (.aload_n 0, 1) := by decide +kernel
theorem dX5_move_46 : decode cX5_move 46 = .ok (.getfield 9, 3) := by decide +kernel
theorem dX5_move_49 : decode cX5_move 49 = .ok (.iload 4, 2) := by decide +kernel
theorem dX5_move_51 : decode cX5_move 51 = .ok (.laload, 1) := by decide +kernel
theorem dX5_move_52 : decode cX5_move 52 = .ok (.lload 5, 2) := by decide +kernel
theorem dX5_move_54 : decode cX5_move 54 = .ok (.ladd, 1) := by decide +kernel
theorem dX5_move_55 : decode cX5_move 55 = .ok (.bipush 7, 2) := by decide +kernel
theorem dX5_move_57 : decode cX5_move 57 = .ok (.iload_n 2, 1) := by decide +kernel
theorem dX5_move_58 : decode cX5_move 58 = .ok (.isub, 1) := by decide +kernel
theorem dX5_move_59 : decode cX5_move 59 = .ok (.lshr, 1) := by decide +kernel
theorem dX5_move_60 : decode cX5_move 60 = .ok (.ldc2_w 53, 3) := by decide +kernel
theorem w_k_X5_53 : Cond.constantLong RX5 53 5 ∈ g_tbl := g_tbl_in 636 (by decide +kernel) (by decide +kernel)
theorem dX5_move_63 : decode cX5_move 63 = .ok (.lmul, 1) := by decide +kernel
theorem dX5_move_64 : decode cX5_move 64 = .ok (.ladd, 1) := by decide +kernel
theorem dX5_move_65 : decode cX5_move 65 = .ok (.lastore, 1) := by decide +kernel
theorem dX5_move_66 : decode cX5_move 66 = .ok (.goto 36, 3) := by decide +kernel
set_option maxRecDepth 100000 in
set_option maxHeartbeats 4000000 in
theorem wk_X5_move (E : g_E) (md : Nat) (mi : Nat) (md_1 : Int64) (md_2 : Int64) (mi_f : Nat → Int64) (ch : Int32) (k : Int32) (ri : Int32)  : Ev E MX5_move 0 0 0 0 [.ref md, .int ch, .int k, .int ri] [(md, .inr (5, [.ref mi, .long md_1, .long md_2])), (mi, .inl (E.2.2.1 3, 6, .inr (.inl mi_f)))] (fun v_ w_ => ∃ zmd_1 : Int64, ∃ zmd_2 : Int64, ∃ zmi_f : Nat → Int64, v_ = none ∧ w_ = [(md, .inr (5, [.ref mi, .long zmd_1, .long zmd_2])), (mi, .inl (E.2.2.1 3, 6, .inr (.inl zmi_f)))]) := by
  refine Ev.intro (by decide) (Nat.le_of_ble_eq_true rfl) ?_
  intro X B hr hI
  have B : Bd E X cX5_move RX5 7 0 0 0 0 := B
  have hr : Rt E X none 0 0 (fun v_ w_ => ∃ zmd_1 : Int64, ∃ zmd_2 : Int64, ∃ zmi_f : Nat → Int64, v_ = none ∧ w_ = [(md, .inr (5, [.ref mi, .long zmd_1, .long zmd_2])), (mi, .inl (E.2.2.1 3, 6, .inr (.inl zmi_f)))]) := hr
  show G E X 7 [(md, .inr (5, [.ref mi, .long md_1, .long md_2])), (mi, .inl (E.2.2.1 3, 6, .inr (.inl mi_f)))] 0 0 [(0, .ref md), (1, .int ch), (2, .int k), (3, .int ri)] 0 []
  refine g_iload_n B dX5_move_0 rfl 1 rfl ?_
  refine g_iconst (v := 1) B dX5_move_1 (by decide) ?_
  refine g_iand B dX5_move_2 ?_
  refine g_iconst (v := 3) B dX5_move_3 (by decide) ?_
  refine g_imul B dX5_move_4 ?_
  refine g_iload_n B dX5_move_5 rfl 2 rfl ?_
  refine g_iadd B dX5_move_6 ?_
  refine g_istore (lv' := [(4, .int (((ch &&& 1) * 3) + k)), (0, .ref md), (1, .int ch), (2, .int k), (3, .int ri)]) B dX5_move_7 (by decide) rfl ?_
  refine g_iload B dX5_move_9 0 rfl ?_
  refine g_if_lt (tgt := 24) B dX5_move_11 (by decide) (fun c11_346 => ?_) (fun c11_346 => ?_)
  · exact g_vret B hr dX5_move_24 (by decide) (by decide) ⟨md_1, md_2, mi_f, rfl, rfl⟩
  · refine g_iload B dX5_move_14 0 rfl ?_
    refine g_aload_n B dX5_move_16 rfl 1 rfl ?_
    refine g_get B 0 0 fl_X5_9 rfl rfl dX5_move_17 ?_
    refine g_alen (v := nI 6) B 1 (by decide) rfl rfl dX5_move_20 ?_
    refine g_ri (x' := 6) (by decide) ?_
    refine g_icmp_lt (tgt := 25) B dX5_move_21 (by decide) (fun c21_347 => ?_) (fun c21_347 => ?_)
    · refine g_sipush (v := 128) B dX5_move_25 (by decide) ?_
      refine g_iload_n B dX5_move_28 rfl 3 rfl ?_
      refine g_ishr B dX5_move_29 ?_
      refine g_i2l B dX5_move_30 ?_
      refine g_lstore (lv' := [(5, .long (Int32.toInt64 (128 >>> (k &&& 31)))), (4, .int (((ch &&& 1) * 3) + k)), (0, .ref md), (1, .int ch), (2, .int k), (3, .int ri)]) B dX5_move_31 (by decide) rfl ?_
      refine g_iload_n B dX5_move_33 rfl 5 rfl ?_
      refine g_if_eq (tgt := 69) B dX5_move_34 (by decide) (fun c34_348 => ?_) (fun c34_348 => ?_)
      · refine g_aload_n B dX5_move_69 rfl 2 rfl ?_
        refine g_get B 0 0 fl_X5_9 rfl rfl dX5_move_70 ?_
        refine g_iload B dX5_move_73 1 rfl ?_
        refine g_dup2_11 B dX5_move_75 rfl rfl ?_
        refine g_lald B 1 rfl (in_lt (by decide) c11_346 c21_347) dX5_move_76 ?_
        refine g_aload_n B dX5_move_77 rfl 2 rfl ?_
        refine g_get B 0 0 fl_X5_9 rfl rfl dX5_move_78 ?_
        refine g_iload B dX5_move_81 1 rfl ?_
        refine g_lald B 1 rfl (in_lt (by decide) c11_346 c21_347) dX5_move_83 ?_
        refine g_lload B dX5_move_84 0 rfl ?_
        refine g_ladd B dX5_move_86 ?_
        refine g_ldc2 (v := 2) B w_k_X5_35 dX5_move_87 ?_
        refine g_lsub B dX5_move_90 ?_
        refine g_bipush (v := 7) B dX5_move_91 (by decide) ?_
        refine g_iload_n B dX5_move_93 rfl 4 rfl ?_
        refine g_isub B dX5_move_94 ?_
        refine g_lshr B dX5_move_95 ?_
        refine g_ldc2 (v := 2) B w_k_X5_35 dX5_move_96 ?_
        refine g_lmul B dX5_move_99 ?_
        refine g_lsub B dX5_move_100 ?_
        refine g_last (ws' := [(md, .inr (5, [.ref mi, .long md_1, .long md_2])), (mi, .inl (E.2.2.1 3, 6, .inr (.inl (vp_updL mi_f (Int32.toNatClampNeg (((ch &&& 1) * 3) + k)) ((mi_f (Int32.toNatClampNeg (((ch &&& 1) * 3) + k))) - (((((mi_f (Int32.toNatClampNeg (((ch &&& 1) * 3) + k))) + (Int32.toInt64 (128 >>> (k &&& 31)))) - 2) >>> (Int32.toInt64 (7 - k) &&& 63)) * 2))))))]) B 1 rfl (in_lt (by decide) c11_346 c21_347) rfl dX5_move_101 ?_
        exact g_vret B hr dX5_move_102 (by decide) (by decide) ⟨md_1, md_2, (vp_updL mi_f (Int32.toNatClampNeg (((ch &&& 1) * 3) + k)) ((mi_f (Int32.toNatClampNeg (((ch &&& 1) * 3) + k))) - (((((mi_f (Int32.toNatClampNeg (((ch &&& 1) * 3) + k))) + (Int32.toInt64 (128 >>> (k &&& 31)))) - 2) >>> (Int32.toInt64 (7 - k) &&& 63)) * 2))), rfl, rfl⟩
      · refine g_aload_n B dX5_move_37 rfl 2 rfl ?_
        refine g_get B 0 0 fl_X5_9 rfl rfl dX5_move_38 ?_
        refine g_iload B dX5_move_41 1 rfl ?_
        refine g_dup2_11 B dX5_move_43 rfl rfl ?_
        refine g_lald B 1 rfl (in_lt (by decide) c11_346 c21_347) dX5_move_44 ?_
        refine g_aload_n B dX5_move_45 rfl 2 rfl ?_
        refine g_get B 0 0 fl_X5_9 rfl rfl dX5_move_46 ?_
        refine g_iload B dX5_move_49 1 rfl ?_
        refine g_lald B 1 rfl (in_lt (by decide) c11_346 c21_347) dX5_move_51 ?_
        refine g_lload B dX5_move_52 0 rfl ?_
        refine g_ladd B dX5_move_54 ?_
        refine g_bipush (v := 7) B dX5_move_55 (by decide) ?_
        refine g_iload_n B dX5_move_57 rfl 4 rfl ?_
        refine g_isub B dX5_move_58 ?_
        refine g_lshr B dX5_move_59 ?_
        refine g_ldc2 (v := 5) B w_k_X5_53 dX5_move_60 ?_
        refine g_lmul B dX5_move_63 ?_
        refine g_ladd B dX5_move_64 ?_
        refine g_last (ws' := [(md, .inr (5, [.ref mi, .long md_1, .long md_2])), (mi, .inl (E.2.2.1 3, 6, .inr (.inl (vp_updL mi_f (Int32.toNatClampNeg (((ch &&& 1) * 3) + k)) ((mi_f (Int32.toNatClampNeg (((ch &&& 1) * 3) + k))) + ((((mi_f (Int32.toNatClampNeg (((ch &&& 1) * 3) + k))) + (Int32.toInt64 (128 >>> (k &&& 31)))) >>> (Int32.toInt64 (7 - k) &&& 63)) * 5))))))]) B 1 rfl (in_lt (by decide) c11_346 c21_347) rfl dX5_move_65 ?_
        refine g_goto (tgt := 102) B dX5_move_66 (by decide) ?_
        exact g_vret B hr dX5_move_102 (by decide) (by decide) ⟨md_1, md_2, (vp_updL mi_f (Int32.toNatClampNeg (((ch &&& 1) * 3) + k)) ((mi_f (Int32.toNatClampNeg (((ch &&& 1) * 3) + k))) + ((((mi_f (Int32.toNatClampNeg (((ch &&& 1) * 3) + k))) + (Int32.toInt64 (128 >>> (k &&& 31)))) >>> (Int32.toInt64 (7 - k) &&& 63)) * 5))), rfl, rfl⟩
    · exact g_vret B hr dX5_move_24 (by decide) (by decide) ⟨md_1, md_2, mi_f, rfl, rfl⟩
abbrev MX5_bound : g_M := (yX5_bound, cX5_bound, 11, none)
theorem dX5_bound_0 : decode cX5_bound 0 = .ok (.aload_n 0, 1) := by decide +kernel
theorem dX5_bound_1 : decode cX5_bound 1 = .ok (.iload_n 1, 1) := by decide +kernel
theorem dX5_bound_2 : decode cX5_bound 2 = .ok (.iconst 0, 1) := by decide +kernel
theorem dX5_bound_3 : decode cX5_bound 3 = .ok (.invokevirtual 32, 3) := by decide +kernel
theorem dX5_bound_6 : decode cX5_bound 6 = .ok (.lstore 4, 2) := by decide +kernel
theorem dX5_bound_8 : decode cX5_bound 8 = .ok (.lload 4, 2) := by decide +kernel
theorem dX5_bound_10 : decode cX5_bound 10 = .ok (.aload_n 0, 1) := by decide +kernel
theorem dX5_bound_11 : decode cX5_bound 11 = .ok (.iload_n 1, 1) := by decide +kernel
theorem dX5_bound_12 : decode cX5_bound 12 = .ok (.iconst 1, 1) := by decide +kernel
theorem dX5_bound_13 : decode cX5_bound 13 = .ok (.invokevirtual 32, 3) := by decide +kernel
theorem dX5_bound_16 : decode cX5_bound 16 = .ok (.ladd, 1) := by decide +kernel
theorem dX5_bound_17 : decode cX5_bound 17 = .ok (.lstore 6, 2) := by decide +kernel
theorem dX5_bound_19 : decode cX5_bound 19 = .ok (.aload_n 0, 1) := by decide +kernel
theorem dX5_bound_20 : decode cX5_bound 20 = .ok (.iload_n 1, 1) := by decide +kernel
theorem dX5_bound_21 : decode cX5_bound 21 = .ok (.iconst 2, 1) := by decide +kernel
theorem dX5_bound_22 : decode cX5_bound 22 = .ok (.invokevirtual 32, 3) := by decide +kernel
theorem dX5_bound_25 : decode cX5_bound 25 = .ok (.lstore 8, 2) := by decide +kernel
theorem dX5_bound_27 : decode cX5_bound 27 = .ok (.lload_n 2, 1) := by decide +kernel
theorem dX5_bound_28 : decode cX5_bound 28 = .ok (.lconst 0, 1) := by decide +kernel
theorem dX5_bound_29 : decode cX5_bound 29 = .ok (.lcmp, 1) := by decide +kernel
theorem dX5_bound_30 : decode cX5_bound 30 = .ok (.ifCond .ne 19, 3) := by decide +kernel
theorem dX5_bound_49 : decode cX5_bound 49 = .ok (.lload_n 2, 1) := by decide +kernel
theorem dX5_bound_50 : decode cX5_bound 50 = .ok (.lconst 1, 1) := by decide +kernel
theorem dX5_bound_51 : decode cX5_bound 51 = .ok (.lcmp, 1) := by decide +kernel
theorem dX5_bound_52 : decode cX5_bound 52 = .ok (.ifCond .ne 20, 3) := by decide +kernel
theorem dX5_bound_72 : decode cX5_bound 72 = .ok (.aload_n 0, 1) := by decide +kernel
theorem dX5_bound_73 : decode cX5_bound 73 = .ok (.lload 6, 2) := by decide +kernel
theorem dX5_bound_75 : decode cX5_bound 75 = .ok (.lload_n 2, 1) := by decide +kernel
theorem dX5_bound_76 : decode cX5_bound 76 = .ok (.ldc2_w 35, 3) := by decide +kernel
theorem dX5_bound_79 : decode cX5_bound 79 = .ok (.lsub, 1) := by decide +kernel
theorem dX5_bound_80 : decode cX5_bound 80 = .ok (.lload 8, 2) := by decide +kernel
theorem dX5_bound_82 : decode cX5_bound 82 = .ok (.lmul, 1) := by decide +kernel
theorem dX5_bound_83 : decode cX5_bound 83 = .ok (.ladd, 1) := by decide +kernel
theorem dX5_bound_84 : decode cX5_bound 84 = .ok (.putfield 15, 3) := by decide +kernel
theorem dX5_bound_87 : decode cX5_bound 87 = .ok (.aload_n 0, 1) := by decide +kernel
theorem dX5_bound_88 : decode cX5_bound 88 = .ok (.aload_n 0, 1) := by decide +kernel
theorem dX5_bound_89 : decode cX5_bound 89 = .ok (.getfield 15, 3) := by decide +kernel
theorem dX5_bound_92 : decode cX5_bound 92 = .ok (.lload 8, 2) := by decide +kernel
theorem dX5_bound_94 : decode cX5_bound 94 = .ok (.ladd, 1) := by decide +kernel
theorem dX5_bound_95 : decode cX5_bound 95 = .ok (.lconst 1, 1) := by decide +kernel
theorem dX5_bound_96 : decode cX5_bound 96 = .ok (.lsub, 1) := by decide +kernel
theorem dX5_bound_97 : decode cX5_bound 97 = .ok (.putfield 19, 3) := by decide +kernel
theorem dX5_bound_100 : decode cX5_bound 100 = .ok (.iconst 0, 1) := by decide +kernel
theorem dX5_bound_101 : decode cX5_bound 101 = .ok (.istore 10, 2) := by decide +kernel
theorem dX5_bound_103 : decode cX5_bound 103 = .ok (.iload 10, 2) := by decide +kernel
theorem dX5_bound_105 : decode cX5_bound 105 = .ok (.iconst 3, 1) := by decide +kernel
theorem dX5_bound_106 : decode cX5_bound 106 = .ok (.if_icmp .ge 37, 3) := by decide +kernel
theorem dX5_bound_109 : decode cX5_bound 109 = .ok (.iload 10, 2) := by decide +kernel
theorem dX5_bound_111 : decode cX5_bound 111 = .ok (.i2l, 1) := by decide +kernel
theorem dX5_bound_112 : decode cX5_bound 112 = .ok (.lload_n 2, 1) := by decide +kernel
theorem dX5_bound_113 : decode cX5_bound 113 = .ok (.lcmp, 1) := by decide +kernel
theorem dX5_bound_114 : decode cX5_bound 114 = .ok (.ifCond .gt 29, 3) := by decide +kernel
theorem dX5_bound_117 : decode cX5_bound 117 = .ok (.aload_n 0, 1) := by decide +kernel
theorem dX5_bound_118 : decode cX5_bound 118 = .ok (.iload_n 1, 1) := by decide +kernel
theorem dX5_bound_119 : decode cX5_bound 119 = .ok (.iload 10, 2) := by decide +kernel
theorem dX5_bound_121 : decode cX5_bound 121 = .ok (.lload_n 2, 1) := by decide +kernel
theorem dX5_bound_122 : decode cX5_bound 122 = .ok (.iload 10, 2) := by decide +kernel
theorem dX5_bound_124 : decode cX5_bound 124 = .ok (.i2l, 1) := by decide +kernel
theorem dX5_bound_125 : decode cX5_bound 125 = .ok (.lcmp, 1) := by decide +kernel
theorem dX5_bound_126 : decode cX5_bound 126 = .ok (.ifCond .le 7, 3) := by decide +kernel
theorem dX5_bound_133 : decode cX5_bound 133 = .ok (.iconst 0, 1) := by decide +kernel
theorem dX5_bound_134 : decode cX5_bound 134 = .ok (.invokevirtual 37, 3) := by decide +kernel
theorem w_ml_X5_37 : Cond.methodLink RX5 37 yX5_move ∈ g_tbl := g_tbl_in 632 (by decide +kernel) (by decide +kernel)
theorem w_cd_X5_move : g_cw MX5_move ∈ g_tbl := g_tbl_in 635 (by decide +kernel) (by decide +kernel)
theorem cl_X5_37 : CL RX5 37 3 MX5_move := ⟨w_ml_X5_37, w_cd_X5_move, w_ini_X5, by decide +kernel, by decide +kernel, by decide +kernel⟩
theorem w_im_X5_move : Cond.instanceMethod yX5_move ∈ g_tbl := g_tbl_in 634 (by decide +kernel) (by decide +kernel)
theorem w_se_X5_move : Cond.selects RX5 yX5_move yX5_move ∈ g_tbl := g_tbl_in 14 (by decide +kernel) (by decide +kernel)
theorem dX5_bound_137 : decode cX5_bound 137 = .ok (.iinc 10 1, 3) := by decide +kernel
theorem dX5_bound_140 : decode cX5_bound 140 = .ok (.goto (-37), 3) := by decide +kernel
theorem dX5_bound_129 : decode cX5_bound 129 = .ok (.iconst 1, 1) := by decide +kernel
theorem dX5_bound_130 : decode cX5_bound 130 = .ok (.goto 4, 3) := by decide +kernel
set_option maxRecDepth 100000 in
set_option maxHeartbeats 4000000 in
theorem lp_wk_X5_bound_103 (E : g_E) (md : Nat) (mi : Nat)  {X : g_X} (B : Bd E X cX5_bound RX5 11 2 45 0 0) (hr : Rt E X none 0 0 (fun v_ w_ => ∃ zmd_1 : Int64, ∃ zmd_2 : Int64, ∃ zmi_f : Nat → Int64, v_ = none ∧ w_ = [(md, .inr (5, [.ref mi, .long zmd_1, .long zmd_2])), (mi, .inl (E.2.2.1 3, 6, .inr (.inl zmi_f)))])) (K : ∀ (md_1 : Int64) (md_2 : Int64) (mi_f : Nat → Int64) (l1 : Int32) (l2 : Int64) (l4 : Int64) (l6 : Int64) (l8 : Int64) (l10 : Int32), G E X 11 [(md, .inr (5, [.ref mi, .long md_1, .long md_2])), (mi, .inl (E.2.2.1 3, 6, .inr (.inl mi_f)))] 0 0 [(0, .ref md), (1, .int l1), (2, .long l2), (4, .long l4), (6, .long l6), (8, .long l8), (10, .int l10)] 143 []) : ∀ (n : Nat) (md_1 : Int64) (md_2 : Int64) (mi_f : Nat → Int64) (l1 : Int32) (l2 : Int64) (l4 : Int64) (l6 : Int64) (l8 : Int64) (l10 : Int32), (Int32.toInt 3 - Int32.toInt l10).toNat < n → G E X 11 [(md, .inr (5, [.ref mi, .long md_1, .long md_2])), (mi, .inl (E.2.2.1 3, 6, .inr (.inl mi_f)))] 0 0 [(0, .ref md), (1, .int l1), (2, .long l2), (4, .long l4), (6, .long l6), (8, .long l8), (10, .int l10)] 103 [] := by
  intro n
  induction n with
  | zero => intro md_1 md_2 mi_f l1 l2 l4 l6 l8 l10 h; exact absurd h (Nat.not_lt_zero _)
  | succ n ih =>
    intro md_1 md_2 mi_f l1 l2 l4 l6 l8 l10 hm
    refine g_iload B dX5_bound_103 6 rfl ?_
    refine g_iconst (v := 3) B dX5_bound_105 (by decide) ?_
    refine g_icmp_ge (tgt := 143) B dX5_bound_106 (by decide) (fun c106_363 => ?_) (fun c106_363 => ?_)
    · exact K md_1 md_2 mi_f l1 l2 l4 l6 l8 l10
    · refine g_iload B dX5_bound_109 6 rfl ?_
      refine g_i2l B dX5_bound_111 ?_
      refine g_lload_n B dX5_bound_112 rfl 2 rfl ?_
      refine g_lcmp B dX5_bound_113 ?_
      refine g_if_gt (tgt := 143) B dX5_bound_114 (by decide) (fun c114_364 => ?_) (fun c114_364 => ?_)
      · exact K md_1 md_2 mi_f l1 l2 l4 l6 l8 l10
      · refine g_aload_n B dX5_bound_117 rfl 0 rfl ?_
        refine g_iload_n B dX5_bound_118 rfl 1 rfl ?_
        refine g_iload B dX5_bound_119 6 rfl ?_
        refine g_lload_n B dX5_bound_121 rfl 2 rfl ?_
        refine g_iload B dX5_bound_122 6 rfl ?_
        refine g_i2l B dX5_bound_124 ?_
        refine g_lcmp B dX5_bound_125 ?_
        refine g_if_le (tgt := 133) B dX5_bound_126 (by decide) (fun c126_365 => ?_) (fun c126_365 => ?_)
        · refine g_iconst (v := 0) B dX5_bound_133 (by decide) ?_
          refine g_callV (st := []) (As := [.int l1, .int l10, .int 0]) (wr := []) (nc' := 0) (ns' := 0) B cl_X5_37 w_im_X5_move w_se_X5_move (wk_X5_move E md mi md_1 md_2 mi_f l1 l10 0 ) rfl [0, 1] [] rfl rfl (by decide) (by decide) (by decide) 0 rfl (fun q h => by cases h; rfl) rfl ⟨by decide, by decide⟩ rfl rfl (by decide) (by decide) rfl (Nat.le_of_ble_eq_true rfl) dX5_bound_134 (fun v w hq => ?_)
          obtain ⟨zmd_1_366, zmd_2_367, zmi_f_368, rfl, rfl⟩ := hq
          show G E X 11 [(md, .inr (5, [.ref mi, .long zmd_1_366, .long zmd_2_367])), (mi, .inl (E.2.2.1 3, 6, .inr (.inl zmi_f_368)))] 0 0 [(0, .ref md), (1, .int l1), (2, .long l2), (4, .long l4), (6, .long l6), (8, .long l8), (10, .int l10)] 137 []
          refine g_iinc (v := (l10 + 1)) (lv' := [(10, .int (l10 + 1)), (0, .ref md), (1, .int l1), (2, .long l2), (4, .long l4), (6, .long l6), (8, .long l8)]) B dX5_bound_137 6 rfl rfl (by decide) rfl ?_
          refine g_goto (tgt := 103) B dX5_bound_140 (by decide) ?_
          refine g_lvsub (lv' := [(0, .ref md), (1, .int l1), (2, .long l2), (4, .long l4), (6, .long l6), (8, .long l8), (10, .int (l10 + 1))]) [1, 2, 3, 4, 5, 6, 0] rfl ?_
          exact ih zmd_1_366 zmd_2_367 zmi_f_368 l1 l2 l4 l6 l8 (l10 + 1)  (Nat.lt_of_lt_of_le (st_up (o_2 c106_363)) (Nat.le_of_lt_succ hm))
        · refine g_iconst (v := 1) B dX5_bound_129 (by decide) ?_
          refine g_goto (tgt := 134) B dX5_bound_130 (by decide) ?_
          refine g_callV (st := []) (As := [.int l1, .int l10, .int 1]) (wr := []) (nc' := 0) (ns' := 0) B cl_X5_37 w_im_X5_move w_se_X5_move (wk_X5_move E md mi md_1 md_2 mi_f l1 l10 1 ) rfl [0, 1] [] rfl rfl (by decide) (by decide) (by decide) 0 rfl (fun q h => by cases h; rfl) rfl ⟨by decide, by decide⟩ rfl rfl (by decide) (by decide) rfl (Nat.le_of_ble_eq_true rfl) dX5_bound_134 (fun v w hq => ?_)
          obtain ⟨zmd_1_369, zmd_2_370, zmi_f_371, rfl, rfl⟩ := hq
          show G E X 11 [(md, .inr (5, [.ref mi, .long zmd_1_369, .long zmd_2_370])), (mi, .inl (E.2.2.1 3, 6, .inr (.inl zmi_f_371)))] 0 0 [(0, .ref md), (1, .int l1), (2, .long l2), (4, .long l4), (6, .long l6), (8, .long l8), (10, .int l10)] 137 []
          refine g_iinc (v := (l10 + 1)) (lv' := [(10, .int (l10 + 1)), (0, .ref md), (1, .int l1), (2, .long l2), (4, .long l4), (6, .long l6), (8, .long l8)]) B dX5_bound_137 6 rfl rfl (by decide) rfl ?_
          refine g_goto (tgt := 103) B dX5_bound_140 (by decide) ?_
          refine g_lvsub (lv' := [(0, .ref md), (1, .int l1), (2, .long l2), (4, .long l4), (6, .long l6), (8, .long l8), (10, .int (l10 + 1))]) [1, 2, 3, 4, 5, 6, 0] rfl ?_
          exact ih zmd_1_369 zmd_2_370 zmi_f_371 l1 l2 l4 l6 l8 (l10 + 1)  (Nat.lt_of_lt_of_le (st_up (o_2 c106_363)) (Nat.le_of_lt_succ hm))
theorem dX5_bound_143 : decode cX5_bound 143 = .ok (.return_, 1) := by decide +kernel
theorem dX5_bound_55 : decode cX5_bound 55 = .ok (.aload_n 0, 1) := by decide +kernel
theorem dX5_bound_56 : decode cX5_bound 56 = .ok (.lload 4, 2) := by decide +kernel
theorem dX5_bound_58 : decode cX5_bound 58 = .ok (.putfield 15, 3) := by decide +kernel
theorem dX5_bound_61 : decode cX5_bound 61 = .ok (.aload_n 0, 1) := by decide +kernel
theorem dX5_bound_62 : decode cX5_bound 62 = .ok (.lload 6, 2) := by decide +kernel
theorem dX5_bound_64 : decode cX5_bound 64 = .ok (.lconst 1, 1) := by decide +kernel
theorem dX5_bound_65 : decode cX5_bound 65 = .ok (.lsub, 1) := by decide +kernel
theorem dX5_bound_66 : decode cX5_bound 66 = .ok (.putfield 19, 3) := by decide +kernel
theorem dX5_bound_69 : decode cX5_bound 69 = .ok (.goto 31, 3) := by decide +kernel
theorem dX5_bound_33 : decode cX5_bound 33 = .ok (.aload_n 0, 1) := by decide +kernel
theorem dX5_bound_34 : decode cX5_bound 34 = .ok (.lconst 0, 1) := by decide +kernel
theorem dX5_bound_35 : decode cX5_bound 35 = .ok (.putfield 15, 3) := by decide +kernel
theorem dX5_bound_38 : decode cX5_bound 38 = .ok (.aload_n 0, 1) := by decide +kernel
theorem dX5_bound_39 : decode cX5_bound 39 = .ok (.lload 4, 2) := by decide +kernel
theorem dX5_bound_41 : decode cX5_bound 41 = .ok (.lconst 1, 1) := by decide +kernel
theorem dX5_bound_42 : decode cX5_bound 42 = .ok (.lsub, 1) := by decide +kernel
theorem dX5_bound_43 : decode cX5_bound 43 = .ok (.putfield 19, 3) := by decide +kernel
theorem dX5_bound_46 : decode cX5_bound 46 = .ok (.goto 54, 3) := by decide +kernel
set_option maxRecDepth 100000 in
set_option maxHeartbeats 4000000 in
theorem wk_X5_bound (E : g_E) (md : Nat) (mi : Nat) (md_1 : Int64) (md_2 : Int64) (mi_f : Nat → Int64) (ch : Int32) (on : Int64)  : Ev E MX5_bound 2 45 0 0 [.ref md, .int ch, .long on] [(md, .inr (5, [.ref mi, .long md_1, .long md_2])), (mi, .inl (E.2.2.1 3, 6, .inr (.inl mi_f)))] (fun v_ w_ => ∃ zmd_1 : Int64, ∃ zmd_2 : Int64, ∃ zmi_f : Nat → Int64, v_ = none ∧ w_ = [(md, .inr (5, [.ref mi, .long zmd_1, .long zmd_2])), (mi, .inl (E.2.2.1 3, 6, .inr (.inl zmi_f)))]) := by
  refine Ev.intro (by decide) (Nat.le_of_ble_eq_true rfl) ?_
  intro X B hr hI
  have B : Bd E X cX5_bound RX5 11 2 45 0 0 := B
  have hr : Rt E X none 0 0 (fun v_ w_ => ∃ zmd_1 : Int64, ∃ zmd_2 : Int64, ∃ zmi_f : Nat → Int64, v_ = none ∧ w_ = [(md, .inr (5, [.ref mi, .long zmd_1, .long zmd_2])), (mi, .inl (E.2.2.1 3, 6, .inr (.inl zmi_f)))]) := hr
  show G E X 11 [(md, .inr (5, [.ref mi, .long md_1, .long md_2])), (mi, .inl (E.2.2.1 3, 6, .inr (.inl mi_f)))] 0 0 [(0, .ref md), (1, .int ch), (2, .long on)] 0 []
  refine g_aload_n B dX5_bound_0 rfl 0 rfl ?_
  refine g_iload_n B dX5_bound_1 rfl 1 rfl ?_
  refine g_iconst (v := 0) B dX5_bound_2 (by decide) ?_
  refine g_callV (st := []) (As := [.int ch, .int 0]) (wr := []) (nc' := 0) (ns' := 0) B cl_X5_32 w_im_X5_share w_se_X5_share (wk_X5_share E md mi md_1 md_2 mi_f ch 0 ) rfl [0, 1] [] rfl rfl (by decide) (by decide) (by decide) 0 rfl (fun q h => by cases h; rfl) rfl ⟨by decide, by decide⟩ rfl rfl (by decide) (by decide) rfl (Nat.le_of_ble_eq_true rfl) dX5_bound_3 (fun v w hq => ?_)
  obtain ⟨zmd_1_349, zmd_2_350, zmi_f_351, zr_352, rfl, rfl⟩ := hq
  show G E X 11 [(md, .inr (5, [.ref mi, .long zmd_1_349, .long zmd_2_350])), (mi, .inl (E.2.2.1 3, 6, .inr (.inl zmi_f_351)))] 0 0 [(0, .ref md), (1, .int ch), (2, .long on)] 6 [.long zr_352]
  refine g_lstore (lv' := [(4, .long zr_352), (0, .ref md), (1, .int ch), (2, .long on)]) B dX5_bound_6 (by decide) rfl ?_
  refine g_lload B dX5_bound_8 0 rfl ?_
  refine g_aload_n B dX5_bound_10 rfl 1 rfl ?_
  refine g_iload_n B dX5_bound_11 rfl 2 rfl ?_
  refine g_iconst (v := 1) B dX5_bound_12 (by decide) ?_
  refine g_callV (st := [.long zr_352]) (As := [.int ch, .int 1]) (wr := []) (nc' := 0) (ns' := 0) B cl_X5_32 w_im_X5_share w_se_X5_share (wk_X5_share E md mi zmd_1_349 zmd_2_350 zmi_f_351 ch 1 ) rfl [0, 1] [] rfl rfl (by decide) (by decide) (by decide) 0 rfl (fun q h => by cases h; rfl) rfl ⟨by decide, by decide⟩ rfl rfl (by decide) (by decide) rfl (Nat.le_of_ble_eq_true rfl) dX5_bound_13 (fun v w hq => ?_)
  obtain ⟨zmd_1_353, zmd_2_354, zmi_f_355, zr_356, rfl, rfl⟩ := hq
  show G E X 11 [(md, .inr (5, [.ref mi, .long zmd_1_353, .long zmd_2_354])), (mi, .inl (E.2.2.1 3, 6, .inr (.inl zmi_f_355)))] 0 0 [(4, .long zr_352), (0, .ref md), (1, .int ch), (2, .long on)] 16 [.long zr_356, .long zr_352]
  refine g_ladd B dX5_bound_16 ?_
  refine g_lstore (lv' := [(6, .long (zr_352 + zr_356)), (4, .long zr_352), (0, .ref md), (1, .int ch), (2, .long on)]) B dX5_bound_17 (by decide) rfl ?_
  refine g_aload_n B dX5_bound_19 rfl 2 rfl ?_
  refine g_iload_n B dX5_bound_20 rfl 3 rfl ?_
  refine g_iconst (v := 2) B dX5_bound_21 (by decide) ?_
  refine g_callV (st := []) (As := [.int ch, .int 2]) (wr := []) (nc' := 0) (ns' := 0) B cl_X5_32 w_im_X5_share w_se_X5_share (wk_X5_share E md mi zmd_1_353 zmd_2_354 zmi_f_355 ch 2 ) rfl [0, 1] [] rfl rfl (by decide) (by decide) (by decide) 0 rfl (fun q h => by cases h; rfl) rfl ⟨by decide, by decide⟩ rfl rfl (by decide) (by decide) rfl (Nat.le_of_ble_eq_true rfl) dX5_bound_22 (fun v w hq => ?_)
  obtain ⟨zmd_1_357, zmd_2_358, zmi_f_359, zr_360, rfl, rfl⟩ := hq
  show G E X 11 [(md, .inr (5, [.ref mi, .long zmd_1_357, .long zmd_2_358])), (mi, .inl (E.2.2.1 3, 6, .inr (.inl zmi_f_359)))] 0 0 [(6, .long (zr_352 + zr_356)), (4, .long zr_352), (0, .ref md), (1, .int ch), (2, .long on)] 25 [.long zr_360]
  refine g_lstore (lv' := [(8, .long zr_360), (6, .long (zr_352 + zr_356)), (4, .long zr_352), (0, .ref md), (1, .int ch), (2, .long on)]) B dX5_bound_25 (by decide) rfl ?_
  refine g_lload_n B dX5_bound_27 rfl 5 rfl ?_
  refine g_lconst (v := 0) B dX5_bound_28 (by decide) ?_
  refine g_lcmp B dX5_bound_29 ?_
  refine g_if_ne (tgt := 49) B dX5_bound_30 (by decide) (fun c30_361 => ?_) (fun c30_361 => ?_)
  · refine g_lload_n B dX5_bound_49 rfl 5 rfl ?_
    refine g_lconst (v := 1) B dX5_bound_50 (by decide) ?_
    refine g_lcmp B dX5_bound_51 ?_
    refine g_if_ne (tgt := 72) B dX5_bound_52 (by decide) (fun c52_362 => ?_) (fun c52_362 => ?_)
    · refine g_aload_n B dX5_bound_72 rfl 3 rfl ?_
      refine g_lload B dX5_bound_73 1 rfl ?_
      refine g_lload_n B dX5_bound_75 rfl 5 rfl ?_
      refine g_ldc2 (v := 2) B w_k_X5_35 dX5_bound_76 ?_
      refine g_lsub B dX5_bound_79 ?_
      refine g_lload B dX5_bound_80 0 rfl ?_
      refine g_lmul B dX5_bound_82 ?_
      refine g_ladd B dX5_bound_83 ?_
      refine g_put (ws' := [(md, .inr (5, [.ref mi, .long ((zr_352 + zr_356) + ((on - 2) * zr_360)), .long zmd_2_358])), (mi, .inl (E.2.2.1 3, 6, .inr (.inl zmi_f_359)))]) B 0 1 fl_X5_15 pf_X5_1 rfl (Nat.le_of_ble_eq_true rfl) rfl rfl rfl dX5_bound_84 ?_
      refine g_aload_n B dX5_bound_87 rfl 3 rfl ?_
      refine g_aload_n B dX5_bound_88 rfl 3 rfl ?_
      refine g_get B 0 1 fl_X5_15 rfl rfl dX5_bound_89 ?_
      refine g_lload B dX5_bound_92 0 rfl ?_
      refine g_ladd B dX5_bound_94 ?_
      refine g_lconst (v := 1) B dX5_bound_95 (by decide) ?_
      refine g_lsub B dX5_bound_96 ?_
      refine g_put (ws' := [(md, .inr (5, [.ref mi, .long ((zr_352 + zr_356) + ((on - 2) * zr_360)), .long ((((zr_352 + zr_356) + ((on - 2) * zr_360)) + zr_360) - 1)])), (mi, .inl (E.2.2.1 3, 6, .inr (.inl zmi_f_359)))]) B 0 2 fl_X5_19 pf_X5_2 rfl (Nat.le_of_ble_eq_true rfl) rfl rfl rfl dX5_bound_97 ?_
      refine g_iconst (v := 0) B dX5_bound_100 (by decide) ?_
      refine g_istore (lv' := [(10, .int 0), (8, .long zr_360), (6, .long (zr_352 + zr_356)), (4, .long zr_352), (0, .ref md), (1, .int ch), (2, .long on)]) B dX5_bound_101 (by decide) rfl ?_
      refine g_lvsub (lv' := [(0, .ref md), (1, .int ch), (2, .long on), (4, .long zr_352), (6, .long (zr_352 + zr_356)), (8, .long zr_360), (10, .int 0)]) [4, 5, 6, 3, 2, 1, 0] rfl ?_
      refine lp_wk_X5_bound_103 E md mi  B hr (fun y_372md_1 y_372md_2 y_372mi_f y_372l1 y_372l2 y_372l4 y_372l6 y_372l8 y_372l10 => ?_) _ ((zr_352 + zr_356) + ((on - 2) * zr_360)) ((((zr_352 + zr_356) + ((on - 2) * zr_360)) + zr_360) - 1) zmi_f_359 ch on zr_352 (zr_352 + zr_356) zr_360 0  (Nat.lt_succ_self _)
      exact g_vret B hr dX5_bound_143 (by decide) (by decide) ⟨y_372md_1, y_372md_2, y_372mi_f, rfl, rfl⟩
    · refine g_aload_n B dX5_bound_55 rfl 3 rfl ?_
      refine g_lload B dX5_bound_56 2 rfl ?_
      refine g_put (ws' := [(md, .inr (5, [.ref mi, .long zr_352, .long zmd_2_358])), (mi, .inl (E.2.2.1 3, 6, .inr (.inl zmi_f_359)))]) B 0 1 fl_X5_15 pf_X5_1 rfl (Nat.le_of_ble_eq_true rfl) rfl rfl rfl dX5_bound_58 ?_
      refine g_aload_n B dX5_bound_61 rfl 3 rfl ?_
      refine g_lload B dX5_bound_62 1 rfl ?_
      refine g_lconst (v := 1) B dX5_bound_64 (by decide) ?_
      refine g_lsub B dX5_bound_65 ?_
      refine g_put (ws' := [(md, .inr (5, [.ref mi, .long zr_352, .long ((zr_352 + zr_356) - 1)])), (mi, .inl (E.2.2.1 3, 6, .inr (.inl zmi_f_359)))]) B 0 2 fl_X5_19 pf_X5_2 rfl (Nat.le_of_ble_eq_true rfl) rfl rfl rfl dX5_bound_66 ?_
      refine g_goto (tgt := 100) B dX5_bound_69 (by decide) ?_
      refine g_iconst (v := 0) B dX5_bound_100 (by decide) ?_
      refine g_istore (lv' := [(10, .int 0), (8, .long zr_360), (6, .long (zr_352 + zr_356)), (4, .long zr_352), (0, .ref md), (1, .int ch), (2, .long on)]) B dX5_bound_101 (by decide) rfl ?_
      refine g_lvsub (lv' := [(0, .ref md), (1, .int ch), (2, .long on), (4, .long zr_352), (6, .long (zr_352 + zr_356)), (8, .long zr_360), (10, .int 0)]) [4, 5, 6, 3, 2, 1, 0] rfl ?_
      refine lp_wk_X5_bound_103 E md mi  B hr (fun y_373md_1 y_373md_2 y_373mi_f y_373l1 y_373l2 y_373l4 y_373l6 y_373l8 y_373l10 => ?_) _ zr_352 ((zr_352 + zr_356) - 1) zmi_f_359 ch on zr_352 (zr_352 + zr_356) zr_360 0  (Nat.lt_succ_self _)
      exact g_vret B hr dX5_bound_143 (by decide) (by decide) ⟨y_373md_1, y_373md_2, y_373mi_f, rfl, rfl⟩
  · refine g_aload_n B dX5_bound_33 rfl 3 rfl ?_
    refine g_lconst (v := 0) B dX5_bound_34 (by decide) ?_
    refine g_put (ws' := [(md, .inr (5, [.ref mi, .long 0, .long zmd_2_358])), (mi, .inl (E.2.2.1 3, 6, .inr (.inl zmi_f_359)))]) B 0 1 fl_X5_15 pf_X5_1 rfl (Nat.le_of_ble_eq_true rfl) rfl rfl rfl dX5_bound_35 ?_
    refine g_aload_n B dX5_bound_38 rfl 3 rfl ?_
    refine g_lload B dX5_bound_39 2 rfl ?_
    refine g_lconst (v := 1) B dX5_bound_41 (by decide) ?_
    refine g_lsub B dX5_bound_42 ?_
    refine g_put (ws' := [(md, .inr (5, [.ref mi, .long 0, .long (zr_352 - 1)])), (mi, .inl (E.2.2.1 3, 6, .inr (.inl zmi_f_359)))]) B 0 2 fl_X5_19 pf_X5_2 rfl (Nat.le_of_ble_eq_true rfl) rfl rfl rfl dX5_bound_43 ?_
    refine g_goto (tgt := 100) B dX5_bound_46 (by decide) ?_
    refine g_iconst (v := 0) B dX5_bound_100 (by decide) ?_
    refine g_istore (lv' := [(10, .int 0), (8, .long zr_360), (6, .long (zr_352 + zr_356)), (4, .long zr_352), (0, .ref md), (1, .int ch), (2, .long on)]) B dX5_bound_101 (by decide) rfl ?_
    refine g_lvsub (lv' := [(0, .ref md), (1, .int ch), (2, .long on), (4, .long zr_352), (6, .long (zr_352 + zr_356)), (8, .long zr_360), (10, .int 0)]) [4, 5, 6, 3, 2, 1, 0] rfl ?_
    refine lp_wk_X5_bound_103 E md mi  B hr (fun y_374md_1 y_374md_2 y_374mi_f y_374l1 y_374l2 y_374l4 y_374l6 y_374l8 y_374l10 => ?_) _ 0 (zr_352 - 1) zmi_f_359 ch on zr_352 (zr_352 + zr_356) zr_360 0  (Nat.lt_succ_self _)
    exact g_vret B hr dX5_bound_143 (by decide) (by decide) ⟨y_374md_1, y_374md_2, y_374mi_f, rfl, rfl⟩
end

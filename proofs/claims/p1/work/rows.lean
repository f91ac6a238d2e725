section
-- ===== PART A: goes FIRST, ahead of the names: the tables' words, and 'selects' of the private methods out of them =====
/-- a private method of a class that the tables say can be made, by its rows of tables_1 -/
def lw_okq (q : MethodName × Nat) : Prop := (q.1.cls ≠ "java/lang/invoke/MethodHandle" ∧ q.1.cls ≠ "java/lang/invoke/VarHandle") ∧ Cond.instantiable q.1.cls q.2 ∈ tables_1 ∧ Cond.privateMethod q.1 ∈ tables_1 ∧ Cond.instanceMethod q.1 ∈ tables_1
theorem lw_p0 : lw_okq (⟨"SoundPress", "isSound", "(I)Z"⟩, 11) := ⟨⟨by decide +kernel, by decide +kernel⟩, List.mem_of_getElem? (i := 19) (by decide +kernel), List.mem_of_getElem? (i := 374) (by decide +kernel), List.mem_of_getElem? (i := 375) (by decide +kernel)⟩
theorem lw_p1 : lw_okq (⟨"SoundPress", "isTwin", "()Z"⟩, 11) := ⟨⟨by decide +kernel, by decide +kernel⟩, List.mem_of_getElem? (i := 19) (by decide +kernel), List.mem_of_getElem? (i := 380) (by decide +kernel), List.mem_of_getElem? (i := 381) (by decide +kernel)⟩
theorem lw_p2 : lw_okq (⟨"SoundPress", "commonShift", "()I"⟩, 11) := ⟨⟨by decide +kernel, by decide +kernel⟩, List.mem_of_getElem? (i := 19) (by decide +kernel), List.mem_of_getElem? (i := 388) (by decide +kernel), List.mem_of_getElem? (i := 389) (by decide +kernel)⟩
theorem lw_p3 : lw_okq (⟨"SoundPress$Encoder", "writeHeads", "(LSoundPress$Work;)V"⟩, 5) := ⟨⟨by decide +kernel, by decide +kernel⟩, List.mem_of_getElem? (i := 98) (by decide +kernel), List.mem_of_getElem? (i := 418) (by decide +kernel), List.mem_of_getElem? (i := 419) (by decide +kernel)⟩
theorem lw_p4 : lw_okq (⟨"SoundPress$Encoder", "foretellAll", "(LSoundPress$Work;)V"⟩, 5) := ⟨⟨by decide +kernel, by decide +kernel⟩, List.mem_of_getElem? (i := 98) (by decide +kernel), List.mem_of_getElem? (i := 435) (by decide +kernel), List.mem_of_getElem? (i := 436) (by decide +kernel)⟩
theorem lw_p5 : lw_okq (⟨"SoundPress$Passes", "baseOf", "(II)I"⟩, 8) := ⟨⟨by decide +kernel, by decide +kernel⟩, List.mem_of_getElem? (i := 186) (by decide +kernel), List.mem_of_getElem? (i := 451) (by decide +kernel), List.mem_of_getElem? (i := 452) (by decide +kernel)⟩
theorem lw_p6 : lw_okq (⟨"SoundPress$Passes", "slot", "(III)I"⟩, 8) := ⟨⟨by decide +kernel, by decide +kernel⟩, List.mem_of_getElem? (i := 186) (by decide +kernel), List.mem_of_getElem? (i := 455) (by decide +kernel), List.mem_of_getElem? (i := 456) (by decide +kernel)⟩
theorem lw_p7 : lw_okq (⟨"SoundPress$Passes", "track", "(II)I"⟩, 8) := ⟨⟨by decide +kernel, by decide +kernel⟩, List.mem_of_getElem? (i := 186) (by decide +kernel), List.mem_of_getElem? (i := 463) (by decide +kernel), List.mem_of_getElem? (i := 464) (by decide +kernel)⟩
theorem lw_p8 : lw_okq (⟨"SoundPress$Passes", "moveWeight", "(II)V"⟩, 8) := ⟨⟨by decide +kernel, by decide +kernel⟩, List.mem_of_getElem? (i := 186) (by decide +kernel), List.mem_of_getElem? (i := 475) (by decide +kernel), List.mem_of_getElem? (i := 476) (by decide +kernel)⟩
theorem lw_p9 : lw_okq (⟨"SoundPress$Encoder", "stillFrames", "(LSoundPress$Work;I)I"⟩, 5) := ⟨⟨by decide +kernel, by decide +kernel⟩, List.mem_of_getElem? (i := 98) (by decide +kernel), List.mem_of_getElem? (i := 496) (by decide +kernel), List.mem_of_getElem? (i := 497) (by decide +kernel)⟩
theorem lw_p10 : lw_okq (⟨"SoundPress$Encoder", "isStill", "(LSoundPress$Work;I)Z"⟩, 5) := ⟨⟨by decide +kernel, by decide +kernel⟩, List.mem_of_getElem? (i := 98) (by decide +kernel), List.mem_of_getElem? (i := 500) (by decide +kernel), List.mem_of_getElem? (i := 501) (by decide +kernel)⟩
theorem lw_p11 : lw_okq (⟨"SoundPress$Encoder", "writeFrame", "(LSoundPress$Work;I)V"⟩, 5) := ⟨⟨by decide +kernel, by decide +kernel⟩, List.mem_of_getElem? (i := 98) (by decide +kernel), List.mem_of_getElem? (i := 524) (by decide +kernel), List.mem_of_getElem? (i := 525) (by decide +kernel)⟩
theorem lw_p12 : lw_okq (⟨"SoundPress$Encoder", "writeRest", "(LSoundPress$Work;II)I"⟩, 5) := ⟨⟨by decide +kernel, by decide +kernel⟩, List.mem_of_getElem? (i := 98) (by decide +kernel), List.mem_of_getElem? (i := 528) (by decide +kernel), List.mem_of_getElem? (i := 529) (by decide +kernel)⟩
theorem lw_p13 : lw_okq (⟨"SoundPress$Medians", "share", "(II)J"⟩, 3) := ⟨⟨by decide +kernel, by decide +kernel⟩, List.mem_of_getElem? (i := 223) (by decide +kernel), List.mem_of_getElem? (i := 537) (by decide +kernel), List.mem_of_getElem? (i := 538) (by decide +kernel)⟩
theorem lw_p14 : lw_okq (⟨"SoundPress$Medians", "move", "(IIZ)V"⟩, 3) := ⟨⟨by decide +kernel, by decide +kernel⟩, List.mem_of_getElem? (i := 223) (by decide +kernel), List.mem_of_getElem? (i := 566) (by decide +kernel), List.mem_of_getElem? (i := 567) (by decide +kernel)⟩
theorem lw_p15 : lw_okq (⟨"SoundPress$Encoder", "writeTails", "()V"⟩, 5) := ⟨⟨by decide +kernel, by decide +kernel⟩, List.mem_of_getElem? (i := 98) (by decide +kernel), List.mem_of_getElem? (i := 599) (by decide +kernel), List.mem_of_getElem? (i := 600) (by decide +kernel)⟩
def lw_privs_1 : List (MethodName × Nat) := [(⟨"SoundPress", "isSound", "(I)Z"⟩, 11), (⟨"SoundPress", "isTwin", "()Z"⟩, 11), (⟨"SoundPress", "commonShift", "()I"⟩, 11), (⟨"SoundPress$Encoder", "writeHeads", "(LSoundPress$Work;)V"⟩, 5), (⟨"SoundPress$Encoder", "foretellAll", "(LSoundPress$Work;)V"⟩, 5), (⟨"SoundPress$Passes", "baseOf", "(II)I"⟩, 8), (⟨"SoundPress$Passes", "slot", "(III)I"⟩, 8), (⟨"SoundPress$Passes", "track", "(II)I"⟩, 8), (⟨"SoundPress$Passes", "moveWeight", "(II)V"⟩, 8), (⟨"SoundPress$Encoder", "stillFrames", "(LSoundPress$Work;I)I"⟩, 5), (⟨"SoundPress$Encoder", "isStill", "(LSoundPress$Work;I)Z"⟩, 5), (⟨"SoundPress$Encoder", "writeFrame", "(LSoundPress$Work;I)V"⟩, 5), (⟨"SoundPress$Encoder", "writeRest", "(LSoundPress$Work;II)I"⟩, 5), (⟨"SoundPress$Medians", "share", "(II)J"⟩, 3), (⟨"SoundPress$Medians", "move", "(IIZ)V"⟩, 3), (⟨"SoundPress$Encoder", "writeTails", "()V"⟩, 5)]
theorem lw_r1 : ∀ q ∈ lw_privs_1, lw_okq q := List.forall_mem_cons.mpr ⟨lw_p0, List.forall_mem_cons.mpr ⟨lw_p1, List.forall_mem_cons.mpr ⟨lw_p2, List.forall_mem_cons.mpr ⟨lw_p3, List.forall_mem_cons.mpr ⟨lw_p4, List.forall_mem_cons.mpr ⟨lw_p5, List.forall_mem_cons.mpr ⟨lw_p6, List.forall_mem_cons.mpr ⟨lw_p7, List.forall_mem_cons.mpr ⟨lw_p8, List.forall_mem_cons.mpr ⟨lw_p9, List.forall_mem_cons.mpr ⟨lw_p10, List.forall_mem_cons.mpr ⟨lw_p11, List.forall_mem_cons.mpr ⟨lw_p12, List.forall_mem_cons.mpr ⟨lw_p13, List.forall_mem_cons.mpr ⟨lw_p14, List.forall_mem_cons.mpr ⟨lw_p15, fun _ h => absurd h List.not_mem_nil⟩⟩⟩⟩⟩⟩⟩⟩⟩⟩⟩⟩⟩⟩⟩⟩
theorem lw_p16 : lw_okq (⟨"SoundPress", "keepSpare", "()V"⟩, 11) := ⟨⟨by decide +kernel, by decide +kernel⟩, List.mem_of_getElem? (i := 19) (by decide +kernel), List.mem_of_getElem? (i := 617) (by decide +kernel), List.mem_of_getElem? (i := 618) (by decide +kernel)⟩
theorem lw_p17 : lw_okq (⟨"SoundPress", "pressed", "(I)LSoundPress$Bytes;"⟩, 11) := ⟨⟨by decide +kernel, by decide +kernel⟩, List.mem_of_getElem? (i := 19) (by decide +kernel), List.mem_of_getElem? (i := 625) (by decide +kernel), List.mem_of_getElem? (i := 626) (by decide +kernel)⟩
theorem lw_p18 : lw_okq (⟨"SoundPress", "fed", "(I)LSoundPress$Bytes;"⟩, 11) := ⟨⟨by decide +kernel, by decide +kernel⟩, List.mem_of_getElem? (i := 19) (by decide +kernel), List.mem_of_getElem? (i := 641) (by decide +kernel), List.mem_of_getElem? (i := 642) (by decide +kernel)⟩
theorem lw_p19 : lw_okq (⟨"SoundPress$Decoder", "readHead", "(LSoundPress$Work;I)Z"⟩, 5) := ⟨⟨by decide +kernel, by decide +kernel⟩, List.mem_of_getElem? (i := 137) (by decide +kernel), List.mem_of_getElem? (i := 690) (by decide +kernel), List.mem_of_getElem? (i := 691) (by decide +kernel)⟩
theorem lw_p20 : lw_okq (⟨"SoundPress$Decoder", "readPlan", "(LSoundPress$Plan;I)Z"⟩, 5) := ⟨⟨by decide +kernel, by decide +kernel⟩, List.mem_of_getElem? (i := 137) (by decide +kernel), List.mem_of_getElem? (i := 698) (by decide +kernel), List.mem_of_getElem? (i := 699) (by decide +kernel)⟩
theorem lw_p21 : lw_okq (⟨"SoundPress$Decoder", "readBody", "(LSoundPress$Work;)I"⟩, 5) := ⟨⟨by decide +kernel, by decide +kernel⟩, List.mem_of_getElem? (i := 137) (by decide +kernel), List.mem_of_getElem? (i := 709) (by decide +kernel), List.mem_of_getElem? (i := 710) (by decide +kernel)⟩
theorem lw_p22 : lw_okq (⟨"SoundPress$Decoder", "passFrameOver", "(LSoundPress$Work;I)V"⟩, 5) := ⟨⟨by decide +kernel, by decide +kernel⟩, List.mem_of_getElem? (i := 137) (by decide +kernel), List.mem_of_getElem? (i := 723) (by decide +kernel), List.mem_of_getElem? (i := 724) (by decide +kernel)⟩
theorem lw_p23 : lw_okq (⟨"SoundPress$Decoder", "readFrame", "(LSoundPress$Work;I)I"⟩, 5) := ⟨⟨by decide +kernel, by decide +kernel⟩, List.mem_of_getElem? (i := 137) (by decide +kernel), List.mem_of_getElem? (i := 733) (by decide +kernel), List.mem_of_getElem? (i := 734) (by decide +kernel)⟩
theorem lw_p24 : lw_okq (⟨"SoundPress$Decoder", "readBounds", "(LSoundPress$Work;I)I"⟩, 5) := ⟨⟨by decide +kernel, by decide +kernel⟩, List.mem_of_getElem? (i := 137) (by decide +kernel), List.mem_of_getElem? (i := 737) (by decide +kernel), List.mem_of_getElem? (i := 738) (by decide +kernel)⟩
theorem lw_p25 : lw_okq (⟨"SoundPress", "keepSound", "()I"⟩, 11) := ⟨⟨by decide +kernel, by decide +kernel⟩, List.mem_of_getElem? (i := 19) (by decide +kernel), List.mem_of_getElem? (i := 757) (by decide +kernel), List.mem_of_getElem? (i := 758) (by decide +kernel)⟩
theorem lw_p26 : lw_okq (⟨"SoundPress$Decoder", "putRight", "(LSoundPress$Work;)Z"⟩, 5) := ⟨⟨by decide +kernel, by decide +kernel⟩, List.mem_of_getElem? (i := 137) (by decide +kernel), List.mem_of_getElem? (i := 773) (by decide +kernel), List.mem_of_getElem? (i := 774) (by decide +kernel)⟩
theorem lw_p27 : lw_okq (⟨"SoundPressModel", "isSound", "(I)Z"⟩, 50) := ⟨⟨by decide +kernel, by decide +kernel⟩, List.mem_of_getElem? (i := 806) (by decide +kernel), List.mem_of_getElem? (i := 971) (by decide +kernel), List.mem_of_getElem? (i := 972) (by decide +kernel)⟩
theorem lw_p28 : lw_okq (⟨"SoundPressModel", "readies", "(IZ)V"⟩, 50) := ⟨⟨by decide +kernel, by decide +kernel⟩, List.mem_of_getElem? (i := 806) (by decide +kernel), List.mem_of_getElem? (i := 977) (by decide +kernel), List.mem_of_getElem? (i := 978) (by decide +kernel)⟩
theorem lw_p29 : lw_okq (⟨"SoundPressModel", "shiftOf", "()I"⟩, 50) := ⟨⟨by decide +kernel, by decide +kernel⟩, List.mem_of_getElem? (i := 806) (by decide +kernel), List.mem_of_getElem? (i := 981) (by decide +kernel), List.mem_of_getElem? (i := 982) (by decide +kernel)⟩
theorem lw_p30 : lw_okq (⟨"SoundPressModel", "areTwins", "()Z"⟩, 50) := ⟨⟨by decide +kernel, by decide +kernel⟩, List.mem_of_getElem? (i := 806) (by decide +kernel), List.mem_of_getElem? (i := 989) (by decide +kernel), List.mem_of_getElem? (i := 990) (by decide +kernel)⟩
theorem lw_p31 : lw_okq (⟨"SoundPressModel", "begins", "()V"⟩, 50) := ⟨⟨by decide +kernel, by decide +kernel⟩, List.mem_of_getElem? (i := 806) (by decide +kernel), List.mem_of_getElem? (i := 993) (by decide +kernel), List.mem_of_getElem? (i := 994) (by decide +kernel)⟩
def lw_privs_2 : List (MethodName × Nat) := [(⟨"SoundPress", "keepSpare", "()V"⟩, 11), (⟨"SoundPress", "pressed", "(I)LSoundPress$Bytes;"⟩, 11), (⟨"SoundPress", "fed", "(I)LSoundPress$Bytes;"⟩, 11), (⟨"SoundPress$Decoder", "readHead", "(LSoundPress$Work;I)Z"⟩, 5), (⟨"SoundPress$Decoder", "readPlan", "(LSoundPress$Plan;I)Z"⟩, 5), (⟨"SoundPress$Decoder", "readBody", "(LSoundPress$Work;)I"⟩, 5), (⟨"SoundPress$Decoder", "passFrameOver", "(LSoundPress$Work;I)V"⟩, 5), (⟨"SoundPress$Decoder", "readFrame", "(LSoundPress$Work;I)I"⟩, 5), (⟨"SoundPress$Decoder", "readBounds", "(LSoundPress$Work;I)I"⟩, 5), (⟨"SoundPress", "keepSound", "()I"⟩, 11), (⟨"SoundPress$Decoder", "putRight", "(LSoundPress$Work;)Z"⟩, 5), (⟨"SoundPressModel", "isSound", "(I)Z"⟩, 50), (⟨"SoundPressModel", "readies", "(IZ)V"⟩, 50), (⟨"SoundPressModel", "shiftOf", "()I"⟩, 50), (⟨"SoundPressModel", "areTwins", "()Z"⟩, 50), (⟨"SoundPressModel", "begins", "()V"⟩, 50)]
theorem lw_r2 : ∀ q ∈ lw_privs_2, lw_okq q := List.forall_mem_cons.mpr ⟨lw_p16, List.forall_mem_cons.mpr ⟨lw_p17, List.forall_mem_cons.mpr ⟨lw_p18, List.forall_mem_cons.mpr ⟨lw_p19, List.forall_mem_cons.mpr ⟨lw_p20, List.forall_mem_cons.mpr ⟨lw_p21, List.forall_mem_cons.mpr ⟨lw_p22, List.forall_mem_cons.mpr ⟨lw_p23, List.forall_mem_cons.mpr ⟨lw_p24, List.forall_mem_cons.mpr ⟨lw_p25, List.forall_mem_cons.mpr ⟨lw_p26, List.forall_mem_cons.mpr ⟨lw_p27, List.forall_mem_cons.mpr ⟨lw_p28, List.forall_mem_cons.mpr ⟨lw_p29, List.forall_mem_cons.mpr ⟨lw_p30, List.forall_mem_cons.mpr ⟨lw_p31, fun _ h => absurd h List.not_mem_nil⟩⟩⟩⟩⟩⟩⟩⟩⟩⟩⟩⟩⟩⟩⟩⟩
theorem lw_p32 : lw_okq (⟨"SoundPressModel", "codesAll", "()V"⟩, 50) := ⟨⟨by decide +kernel, by decide +kernel⟩, List.mem_of_getElem? (i := 806) (by decide +kernel), List.mem_of_getElem? (i := 997) (by decide +kernel), List.mem_of_getElem? (i := 998) (by decide +kernel)⟩
theorem lw_p33 : lw_okq (⟨"SoundPressModel", "maySilent", "()Z"⟩, 50) := ⟨⟨by decide +kernel, by decide +kernel⟩, List.mem_of_getElem? (i := 806) (by decide +kernel), List.mem_of_getElem? (i := 1001) (by decide +kernel), List.mem_of_getElem? (i := 1002) (by decide +kernel)⟩
theorem lw_p34 : lw_okq (⟨"SoundPressModel", "isSilent", "(I)Z"⟩, 50) := ⟨⟨by decide +kernel, by decide +kernel⟩, List.mem_of_getElem? (i := 806) (by decide +kernel), List.mem_of_getElem? (i := 1005) (by decide +kernel), List.mem_of_getElem? (i := 1006) (by decide +kernel)⟩
theorem lw_p35 : lw_okq (⟨"SoundPressModel", "keeps", "()V"⟩, 50) := ⟨⟨by decide +kernel, by decide +kernel⟩, List.mem_of_getElem? (i := 806) (by decide +kernel), List.mem_of_getElem? (i := 1009) (by decide +kernel), List.mem_of_getElem? (i := 1010) (by decide +kernel)⟩
theorem lw_p36 : lw_okq (⟨"SoundPressModel", "foretells", "(I)I"⟩, 50) := ⟨⟨by decide +kernel, by decide +kernel⟩, List.mem_of_getElem? (i := 806) (by decide +kernel), List.mem_of_getElem? (i := 1013) (by decide +kernel), List.mem_of_getElem? (i := 1014) (by decide +kernel)⟩
theorem lw_p37 : lw_okq (⟨"SoundPressModel", "base", "(II)I"⟩, 50) := ⟨⟨by decide +kernel, by decide +kernel⟩, List.mem_of_getElem? (i := 806) (by decide +kernel), List.mem_of_getElem? (i := 1017) (by decide +kernel), List.mem_of_getElem? (i := 1018) (by decide +kernel)⟩
theorem lw_p38 : lw_okq (⟨"SoundPressModel", "input", "(III)I"⟩, 50) := ⟨⟨by decide +kernel, by decide +kernel⟩, List.mem_of_getElem? (i := 806) (by decide +kernel), List.mem_of_getElem? (i := 1021) (by decide +kernel), List.mem_of_getElem? (i := 1022) (by decide +kernel)⟩
theorem lw_p39 : lw_okq (⟨"SoundPressModel", "brings", "()V"⟩, 50) := ⟨⟨by decide +kernel, by decide +kernel⟩, List.mem_of_getElem? (i := 806) (by decide +kernel), List.mem_of_getElem? (i := 1026) (by decide +kernel), List.mem_of_getElem? (i := 1027) (by decide +kernel)⟩
theorem lw_p40 : lw_okq (⟨"SoundPressModel", "learns", "(II)I"⟩, 50) := ⟨⟨by decide +kernel, by decide +kernel⟩, List.mem_of_getElem? (i := 806) (by decide +kernel), List.mem_of_getElem? (i := 1030) (by decide +kernel), List.mem_of_getElem? (i := 1031) (by decide +kernel)⟩
theorem lw_p41 : lw_okq (⟨"SoundPressModel", "putG", "(J)V"⟩, 50) := ⟨⟨by decide +kernel, by decide +kernel⟩, List.mem_of_getElem? (i := 806) (by decide +kernel), List.mem_of_getElem? (i := 1034) (by decide +kernel), List.mem_of_getElem? (i := 1035) (by decide +kernel)⟩
theorem lw_p42 : lw_okq (⟨"SoundPressModel", "bits", "(JI)V"⟩, 50) := ⟨⟨by decide +kernel, by decide +kernel⟩, List.mem_of_getElem? (i := 806) (by decide +kernel), List.mem_of_getElem? (i := 1047) (by decide +kernel), List.mem_of_getElem? (i := 1048) (by decide +kernel)⟩
theorem lw_p43 : lw_okq (⟨"SoundPressModel", "bit", "(I)V"⟩, 50) := ⟨⟨by decide +kernel, by decide +kernel⟩, List.mem_of_getElem? (i := 806) (by decide +kernel), List.mem_of_getElem? (i := 1051) (by decide +kernel), List.mem_of_getElem? (i := 1052) (by decide +kernel)⟩
theorem lw_p44 : lw_okq (⟨"SoundPressModel", "tellsSilence", "(I)V"⟩, 50) := ⟨⟨by decide +kernel, by decide +kernel⟩, List.mem_of_getElem? (i := 806) (by decide +kernel), List.mem_of_getElem? (i := 1055) (by decide +kernel), List.mem_of_getElem? (i := 1056) (by decide +kernel)⟩
theorem lw_p45 : lw_okq (⟨"SoundPressModel", "codes", "(II)V"⟩, 50) := ⟨⟨by decide +kernel, by decide +kernel⟩, List.mem_of_getElem? (i := 806) (by decide +kernel), List.mem_of_getElem? (i := 1059) (by decide +kernel), List.mem_of_getElem? (i := 1060) (by decide +kernel)⟩
theorem lw_p46 : lw_okq (⟨"SoundPressModel", "step", "(II)J"⟩, 50) := ⟨⟨by decide +kernel, by decide +kernel⟩, List.mem_of_getElem? (i := 806) (by decide +kernel), List.mem_of_getElem? (i := 1064) (by decide +kernel), List.mem_of_getElem? (i := 1065) (by decide +kernel)⟩
theorem lw_p47 : lw_okq (⟨"SoundPressModel", "bounds", "(IJ)V"⟩, 50) := ⟨⟨by decide +kernel, by decide +kernel⟩, List.mem_of_getElem? (i := 806) (by decide +kernel), List.mem_of_getElem? (i := 1069) (by decide +kernel), List.mem_of_getElem? (i := 1070) (by decide +kernel)⟩
def lw_privs_3 : List (MethodName × Nat) := [(⟨"SoundPressModel", "codesAll", "()V"⟩, 50), (⟨"SoundPressModel", "maySilent", "()Z"⟩, 50), (⟨"SoundPressModel", "isSilent", "(I)Z"⟩, 50), (⟨"SoundPressModel", "keeps", "()V"⟩, 50), (⟨"SoundPressModel", "foretells", "(I)I"⟩, 50), (⟨"SoundPressModel", "base", "(II)I"⟩, 50), (⟨"SoundPressModel", "input", "(III)I"⟩, 50), (⟨"SoundPressModel", "brings", "()V"⟩, 50), (⟨"SoundPressModel", "learns", "(II)I"⟩, 50), (⟨"SoundPressModel", "putG", "(J)V"⟩, 50), (⟨"SoundPressModel", "bits", "(JI)V"⟩, 50), (⟨"SoundPressModel", "bit", "(I)V"⟩, 50), (⟨"SoundPressModel", "tellsSilence", "(I)V"⟩, 50), (⟨"SoundPressModel", "codes", "(II)V"⟩, 50), (⟨"SoundPressModel", "step", "(II)J"⟩, 50), (⟨"SoundPressModel", "bounds", "(IJ)V"⟩, 50)]
theorem lw_r3 : ∀ q ∈ lw_privs_3, lw_okq q := List.forall_mem_cons.mpr ⟨lw_p32, List.forall_mem_cons.mpr ⟨lw_p33, List.forall_mem_cons.mpr ⟨lw_p34, List.forall_mem_cons.mpr ⟨lw_p35, List.forall_mem_cons.mpr ⟨lw_p36, List.forall_mem_cons.mpr ⟨lw_p37, List.forall_mem_cons.mpr ⟨lw_p38, List.forall_mem_cons.mpr ⟨lw_p39, List.forall_mem_cons.mpr ⟨lw_p40, List.forall_mem_cons.mpr ⟨lw_p41, List.forall_mem_cons.mpr ⟨lw_p42, List.forall_mem_cons.mpr ⟨lw_p43, List.forall_mem_cons.mpr ⟨lw_p44, List.forall_mem_cons.mpr ⟨lw_p45, List.forall_mem_cons.mpr ⟨lw_p46, List.forall_mem_cons.mpr ⟨lw_p47, fun _ h => absurd h List.not_mem_nil⟩⟩⟩⟩⟩⟩⟩⟩⟩⟩⟩⟩⟩⟩⟩⟩
theorem lw_p48 : lw_okq (⟨"SoundPressModel", "falls", "(II)V"⟩, 50) := ⟨⟨by decide +kernel, by decide +kernel⟩, List.mem_of_getElem? (i := 806) (by decide +kernel), List.mem_of_getElem? (i := 1074) (by decide +kernel), List.mem_of_getElem? (i := 1075) (by decide +kernel)⟩
theorem lw_p49 : lw_okq (⟨"SoundPressModel", "rises", "(II)V"⟩, 50) := ⟨⟨by decide +kernel, by decide +kernel⟩, List.mem_of_getElem? (i := 806) (by decide +kernel), List.mem_of_getElem? (i := 1078) (by decide +kernel), List.mem_of_getElem? (i := 1079) (by decide +kernel)⟩
theorem lw_p50 : lw_okq (⟨"SoundPressModel", "putT", "(JJ)V"⟩, 50) := ⟨⟨by decide +kernel, by decide +kernel⟩, List.mem_of_getElem? (i := 806) (by decide +kernel), List.mem_of_getElem? (i := 1085) (by decide +kernel), List.mem_of_getElem? (i := 1086) (by decide +kernel)⟩
theorem lw_p51 : lw_okq (⟨"SoundPressModel", "putSide", "(JI)V"⟩, 50) := ⟨⟨by decide +kernel, by decide +kernel⟩, List.mem_of_getElem? (i := 806) (by decide +kernel), List.mem_of_getElem? (i := 1089) (by decide +kernel), List.mem_of_getElem? (i := 1090) (by decide +kernel)⟩
theorem lw_p52 : lw_okq (⟨"SoundPressModel", "heads", "()I"⟩, 50) := ⟨⟨by decide +kernel, by decide +kernel⟩, List.mem_of_getElem? (i := 806) (by decide +kernel), List.mem_of_getElem? (i := 1096) (by decide +kernel), List.mem_of_getElem? (i := 1097) (by decide +kernel)⟩
theorem lw_p53 : lw_okq (⟨"SoundPressModel", "tells", "()V"⟩, 50) := ⟨⟨by decide +kernel, by decide +kernel⟩, List.mem_of_getElem? (i := 806) (by decide +kernel), List.mem_of_getElem? (i := 1113) (by decide +kernel), List.mem_of_getElem? (i := 1114) (by decide +kernel)⟩
theorem lw_p54 : lw_okq (⟨"SoundPressModel", "decodes", "(Z)I"⟩, 50) := ⟨⟨by decide +kernel, by decide +kernel⟩, List.mem_of_getElem? (i := 806) (by decide +kernel), List.mem_of_getElem? (i := 1121) (by decide +kernel), List.mem_of_getElem? (i := 1122) (by decide +kernel)⟩
theorem lw_p55 : lw_okq (⟨"SoundPressModel", "readsFirst", "(I)Z"⟩, 50) := ⟨⟨by decide +kernel, by decide +kernel⟩, List.mem_of_getElem? (i := 806) (by decide +kernel), List.mem_of_getElem? (i := 1125) (by decide +kernel), List.mem_of_getElem? (i := 1126) (by decide +kernel)⟩
theorem lw_p56 : lw_okq (⟨"SoundPressModel", "opens", "(I)Z"⟩, 50) := ⟨⟨by decide +kernel, by decide +kernel⟩, List.mem_of_getElem? (i := 806) (by decide +kernel), List.mem_of_getElem? (i := 1129) (by decide +kernel), List.mem_of_getElem? (i := 1130) (by decide +kernel)⟩
theorem lw_p57 : lw_okq (⟨"SoundPressModel", "wrong", "(I)Z"⟩, 50) := ⟨⟨by decide +kernel, by decide +kernel⟩, List.mem_of_getElem? (i := 806) (by decide +kernel), List.mem_of_getElem? (i := 1133) (by decide +kernel), List.mem_of_getElem? (i := 1134) (by decide +kernel)⟩
theorem lw_p58 : lw_okq (⟨"SoundPressModel", "nextG", "()J"⟩, 50) := ⟨⟨by decide +kernel, by decide +kernel⟩, List.mem_of_getElem? (i := 806) (by decide +kernel), List.mem_of_getElem? (i := 1143) (by decide +kernel), List.mem_of_getElem? (i := 1144) (by decide +kernel)⟩
theorem lw_p59 : lw_okq (⟨"SoundPressModel", "next", "(II)J"⟩, 50) := ⟨⟨by decide +kernel, by decide +kernel⟩, List.mem_of_getElem? (i := 806) (by decide +kernel), List.mem_of_getElem? (i := 1147) (by decide +kernel), List.mem_of_getElem? (i := 1148) (by decide +kernel)⟩
theorem lw_p60 : lw_okq (⟨"SoundPressModel", "next", "(I)I"⟩, 50) := ⟨⟨by decide +kernel, by decide +kernel⟩, List.mem_of_getElem? (i := 806) (by decide +kernel), List.mem_of_getElem? (i := 1151) (by decide +kernel), List.mem_of_getElem? (i := 1152) (by decide +kernel)⟩
theorem lw_p61 : lw_okq (⟨"SoundPressModel", "passesOver", "(I)V"⟩, 50) := ⟨⟨by decide +kernel, by decide +kernel⟩, List.mem_of_getElem? (i := 806) (by decide +kernel), List.mem_of_getElem? (i := 1155) (by decide +kernel), List.mem_of_getElem? (i := 1156) (by decide +kernel)⟩
theorem lw_p62 : lw_okq (⟨"SoundPressModel", "reads", "(II)V"⟩, 50) := ⟨⟨by decide +kernel, by decide +kernel⟩, List.mem_of_getElem? (i := 806) (by decide +kernel), List.mem_of_getElem? (i := 1159) (by decide +kernel), List.mem_of_getElem? (i := 1160) (by decide +kernel)⟩
theorem lw_p63 : lw_okq (⟨"SoundPressModel", "isRest", "(I)Z"⟩, 50) := ⟨⟨by decide +kernel, by decide +kernel⟩, List.mem_of_getElem? (i := 806) (by decide +kernel), List.mem_of_getElem? (i := 1163) (by decide +kernel), List.mem_of_getElem? (i := 1164) (by decide +kernel)⟩
def lw_privs_4 : List (MethodName × Nat) := [(⟨"SoundPressModel", "falls", "(II)V"⟩, 50), (⟨"SoundPressModel", "rises", "(II)V"⟩, 50), (⟨"SoundPressModel", "putT", "(JJ)V"⟩, 50), (⟨"SoundPressModel", "putSide", "(JI)V"⟩, 50), (⟨"SoundPressModel", "heads", "()I"⟩, 50), (⟨"SoundPressModel", "tells", "()V"⟩, 50), (⟨"SoundPressModel", "decodes", "(Z)I"⟩, 50), (⟨"SoundPressModel", "readsFirst", "(I)Z"⟩, 50), (⟨"SoundPressModel", "opens", "(I)Z"⟩, 50), (⟨"SoundPressModel", "wrong", "(I)Z"⟩, 50), (⟨"SoundPressModel", "nextG", "()J"⟩, 50), (⟨"SoundPressModel", "next", "(II)J"⟩, 50), (⟨"SoundPressModel", "next", "(I)I"⟩, 50), (⟨"SoundPressModel", "passesOver", "(I)V"⟩, 50), (⟨"SoundPressModel", "reads", "(II)V"⟩, 50), (⟨"SoundPressModel", "isRest", "(I)Z"⟩, 50)]
theorem lw_r4 : ∀ q ∈ lw_privs_4, lw_okq q := List.forall_mem_cons.mpr ⟨lw_p48, List.forall_mem_cons.mpr ⟨lw_p49, List.forall_mem_cons.mpr ⟨lw_p50, List.forall_mem_cons.mpr ⟨lw_p51, List.forall_mem_cons.mpr ⟨lw_p52, List.forall_mem_cons.mpr ⟨lw_p53, List.forall_mem_cons.mpr ⟨lw_p54, List.forall_mem_cons.mpr ⟨lw_p55, List.forall_mem_cons.mpr ⟨lw_p56, List.forall_mem_cons.mpr ⟨lw_p57, List.forall_mem_cons.mpr ⟨lw_p58, List.forall_mem_cons.mpr ⟨lw_p59, List.forall_mem_cons.mpr ⟨lw_p60, List.forall_mem_cons.mpr ⟨lw_p61, List.forall_mem_cons.mpr ⟨lw_p62, List.forall_mem_cons.mpr ⟨lw_p63, fun _ h => absurd h List.not_mem_nil⟩⟩⟩⟩⟩⟩⟩⟩⟩⟩⟩⟩⟩⟩⟩⟩
theorem lw_p64 : lw_okq (⟨"SoundPressModel", "readsSecond", "(II)Z"⟩, 50) := ⟨⟨by decide +kernel, by decide +kernel⟩, List.mem_of_getElem? (i := 806) (by decide +kernel), List.mem_of_getElem? (i := 1167) (by decide +kernel), List.mem_of_getElem? (i := 1168) (by decide +kernel)⟩
theorem lw_p65 : lw_okq (⟨"SoundPressModel", "nextT", "(J)J"⟩, 50) := ⟨⟨by decide +kernel, by decide +kernel⟩, List.mem_of_getElem? (i := 806) (by decide +kernel), List.mem_of_getElem? (i := 1171) (by decide +kernel), List.mem_of_getElem? (i := 1172) (by decide +kernel)⟩
theorem lw_p66 : lw_okq (⟨"SoundPressModel", "puts", "()V"⟩, 50) := ⟨⟨by decide +kernel, by decide +kernel⟩, List.mem_of_getElem? (i := 806) (by decide +kernel), List.mem_of_getElem? (i := 1175) (by decide +kernel), List.mem_of_getElem? (i := 1176) (by decide +kernel)⟩
def lw_privs_5 : List (MethodName × Nat) := [(⟨"SoundPressModel", "readsSecond", "(II)Z"⟩, 50), (⟨"SoundPressModel", "nextT", "(J)J"⟩, 50), (⟨"SoundPressModel", "puts", "()V"⟩, 50)]
theorem lw_r5 : ∀ q ∈ lw_privs_5, lw_okq q := List.forall_mem_cons.mpr ⟨lw_p64, List.forall_mem_cons.mpr ⟨lw_p65, List.forall_mem_cons.mpr ⟨lw_p66, fun _ h => absurd h List.not_mem_nil⟩⟩⟩
def lw_privs : List (MethodName × Nat) := lw_privs_1 ++ (lw_privs_2 ++ (lw_privs_3 ++ (lw_privs_4 ++ (lw_privs_5))))
def lw_tbl : List Cond := k2_sels lw_privs ++ tables_1
theorem lw_privs_ok : ∀ q ∈ lw_privs, lw_okq q := by
  show ∀ q ∈ lw_privs_1 ++ (lw_privs_2 ++ (lw_privs_3 ++ (lw_privs_4 ++ (lw_privs_5)))), lw_okq q
  exact List.forall_mem_append.mpr ⟨lw_r1, List.forall_mem_append.mpr ⟨lw_r2, List.forall_mem_append.mpr ⟨lw_r3, List.forall_mem_append.mpr ⟨lw_r4, lw_r5⟩⟩⟩⟩
end
section
def RX0 : String := "SoundPress$BitReader"
def TX0 : u_T := fun k => match k with
  | 0 => ("SoundPress$BitReader", "stream", "LSoundPress$Bytes;", true)
  | 1 => ("SoundPress$BitReader", "at", "I", false)
  | 2 => ("SoundPress$BitReader", "to", "I", false)
  | _ => ("SoundPress$BitReader", "ended", "Z", false)
def tyX0 : Nat → FieldType := fun k => match k with
  | 0 => .object "SoundPress$Bytes"
  | 1 => .int
  | 2 => .int
  | _ => .boolean
theorem nmX0 : ∀ a, a < 4 → ∀ b, b < 4 → a ≠ b → (TX0 a).2.1 ≠ (TX0 b).2.1 := by decide +kernel
theorem tyX0_ok : ∀ k, k < 4 → parseFieldDescriptor (TX0 k).2.2.1 = some (tyX0 k) := by decide +kernel
abbrev cX0_init : ByteArray := prog_2_method_1_code
def yX0_init : MethodName := ⟨RX0, "<init>", "(LSoundPress$Bytes;)V"⟩
abbrev cX0_start : ByteArray := prog_2_method_2_code
def yX0_start : MethodName := ⟨RX0, "start", "(II)V"⟩
abbrev cX0_readBits : ByteArray := prog_2_method_3_code
def yX0_readBits : MethodName := ⟨RX0, "readBits", "(I)J"⟩
abbrev cX0_readOnes : ByteArray := prog_2_method_4_code
def yX0_readOnes : MethodName := ⟨RX0, "readOnes", "()I"⟩
abbrev cX0_readG : ByteArray := prog_2_method_5_code
def yX0_readG : MethodName := ⟨RX0, "readG", "()J"⟩
abbrev cX0_readT : ByteArray := prog_2_method_6_code
def yX0_readT : MethodName := ⟨RX0, "readT", "(J)J"⟩
abbrev cX0_isRestWrong : ByteArray := prog_2_method_7_code
def yX0_isRestWrong : MethodName := ⟨RX0, "isRestWrong", "()Z"⟩
def RX1 : String := "SoundPress$BitWriter"
def TX1 : u_T := fun k => match k with
  | 0 => ("SoundPress$BitWriter", "stream", "LSoundPress$Bytes;", true)
  | 1 => ("SoundPress$BitWriter", "open", "I", false)
  | _ => ("SoundPress$BitWriter", "used", "I", false)
def tyX1 : Nat → FieldType := fun k => match k with
  | 0 => .object "SoundPress$Bytes"
  | 1 => .int
  | _ => .int
theorem nmX1 : ∀ a, a < 3 → ∀ b, b < 3 → a ≠ b → (TX1 a).2.1 ≠ (TX1 b).2.1 := by decide +kernel
theorem tyX1_ok : ∀ k, k < 3 → parseFieldDescriptor (TX1 k).2.2.1 = some (tyX1 k) := by decide +kernel
abbrev cX1_init : ByteArray := prog_3_method_1_code
def yX1_init : MethodName := ⟨RX1, "<init>", "(LSoundPress$Bytes;)V"⟩
abbrev cX1_writeBits : ByteArray := prog_3_method_2_code
def yX1_writeBits : MethodName := ⟨RX1, "writeBits", "(JI)V"⟩
abbrev cX1_writeOnes : ByteArray := prog_3_method_3_code
def yX1_writeOnes : MethodName := ⟨RX1, "writeOnes", "(J)V"⟩
abbrev cX1_writeG : ByteArray := prog_3_method_4_code
def yX1_writeG : MethodName := ⟨RX1, "writeG", "(J)V"⟩
abbrev cX1_writeT : ByteArray := prog_3_method_5_code
def yX1_writeT : MethodName := ⟨RX1, "writeT", "(JJ)V"⟩
abbrev cX1_finish : ByteArray := prog_3_method_6_code
def yX1_finish : MethodName := ⟨RX1, "finish", "()V"⟩
def RX2 : String := "SoundPress$Bytes"
def TX2 : u_T := fun k => match k with
  | 0 => ("SoundPress$Bytes", "held", "[B", true)
  | _ => ("SoundPress$Bytes", "length", "I", false)
def tyX2 : Nat → FieldType := fun k => match k with
  | 0 => .array .byte
  | _ => .int
theorem nmX2 : ∀ a, a < 2 → ∀ b, b < 2 → a ≠ b → (TX2 a).2.1 ≠ (TX2 b).2.1 := by decide +kernel
theorem tyX2_ok : ∀ k, k < 2 → parseFieldDescriptor (TX2 k).2.2.1 = some (tyX2 k) := by decide +kernel
abbrev cX2_init : ByteArray := prog_4_method_1_code
def yX2_init : MethodName := ⟨RX2, "<init>", "(I)V"⟩
abbrev cX2_at : ByteArray := prog_4_method_2_code
def yX2_at : MethodName := ⟨RX2, "at", "(I)I"⟩
abbrev cX2_add : ByteArray := prog_4_method_3_code
def yX2_add : MethodName := ⟨RX2, "add", "(I)V"⟩
abbrev cX2_addWord : ByteArray := prog_4_method_4_code
def yX2_addWord : MethodName := ⟨RX2, "addWord", "(I)V"⟩
abbrev cX2_wordAt : ByteArray := prog_4_method_5_code
def yX2_wordAt : MethodName := ⟨RX2, "wordAt", "(I)I"⟩
abbrev cX2_putWord : ByteArray := prog_4_method_6_code
def yX2_putWord : MethodName := ⟨RX2, "putWord", "(II)V"⟩
abbrev cX2_turn : ByteArray := prog_4_method_7_code
def yX2_turn : MethodName := ⟨RX2, "turn", "(II)Z"⟩
abbrev cX2_shorten : ByteArray := prog_4_method_8_code
def yX2_shorten : MethodName := ⟨RX2, "shorten", "(I)Z"⟩
abbrev cX2_copy : ByteArray := prog_4_method_9_code
def yX2_copy : MethodName := ⟨RX2, "copy", "(LSoundPress$Bytes;)Z"⟩
abbrev cX2_crc : ByteArray := prog_4_method_10_code
def yX2_crc : MethodName := ⟨RX2, "crc", "(I)I"⟩
def RX3 : String := "SoundPress$Decoder"
def TX3 : u_T := fun k => match k with
  | 0 => ("SoundPress$Decoder", "tape", "LSoundPress$Bytes;", true)
  | 1 => ("SoundPress$Decoder", "side", "LSoundPress$Bytes;", true)
  | 2 => ("SoundPress$Decoder", "tapeBits", "LSoundPress$BitReader;", true)
  | 3 => ("SoundPress$Decoder", "sideBits", "LSoundPress$BitReader;", true)
  | _ => ("SoundPress$Decoder", "sheet", "LSoundPress$Sheet;", true)
def tyX3 : Nat → FieldType := fun k => match k with
  | 0 => .object "SoundPress$Bytes"
  | 1 => .object "SoundPress$Bytes"
  | 2 => .object "SoundPress$BitReader"
  | 3 => .object "SoundPress$BitReader"
  | _ => .object "SoundPress$Sheet"
theorem nmX3 : ∀ a, a < 5 → ∀ b, b < 5 → a ≠ b → (TX3 a).2.1 ≠ (TX3 b).2.1 := by decide +kernel
theorem tyX3_ok : ∀ k, k < 5 → parseFieldDescriptor (TX3 k).2.2.1 = some (tyX3 k) := by decide +kernel
abbrev cX3_init : ByteArray := prog_5_method_1_code
def yX3_init : MethodName := ⟨RX3, "<init>", "(LSoundPress$Bytes;LSoundPress$Bytes;LSoundPress$Sheet;)V"⟩
abbrev cX3_readFirst : ByteArray := prog_5_method_2_code
def yX3_readFirst : MethodName := ⟨RX3, "readFirst", "(LSoundPress$Work;)I"⟩
abbrev cX3_readHead : ByteArray := prog_5_method_3_code
def yX3_readHead : MethodName := ⟨RX3, "readHead", "(LSoundPress$Work;I)Z"⟩
abbrev cX3_areFlags : ByteArray := prog_5_method_4_code
def yX3_areFlags : MethodName := ⟨RX3, "areFlags", "(I)Z"⟩
abbrev cX3_readPlan : ByteArray := prog_5_method_5_code
def yX3_readPlan : MethodName := ⟨RX3, "readPlan", "(LSoundPress$Plan;I)Z"⟩
abbrev cX3_readBody : ByteArray := prog_5_method_6_code
def yX3_readBody : MethodName := ⟨RX3, "readBody", "(LSoundPress$Work;)I"⟩
abbrev cX3_passFrameOver : ByteArray := prog_5_method_7_code
def yX3_passFrameOver : MethodName := ⟨RX3, "passFrameOver", "(LSoundPress$Work;I)V"⟩
abbrev cX3_readFrame : ByteArray := prog_5_method_8_code
def yX3_readFrame : MethodName := ⟨RX3, "readFrame", "(LSoundPress$Work;I)I"⟩
abbrev cX3_readBounds : ByteArray := prog_5_method_9_code
def yX3_readBounds : MethodName := ⟨RX3, "readBounds", "(LSoundPress$Work;I)I"⟩
abbrev cX3_readSecond : ByteArray := prog_5_method_10_code
def yX3_readSecond : MethodName := ⟨RX3, "readSecond", "(LSoundPress$Work;)I"⟩
abbrev cX3_putRight : ByteArray := prog_5_method_11_code
def yX3_putRight : MethodName := ⟨RX3, "putRight", "(LSoundPress$Work;)Z"⟩
def RX4 : String := "SoundPress$Encoder"
def TX4 : u_T := fun k => match k with
  | 0 => ("SoundPress$Encoder", "first", "LSoundPress$Bytes;", true)
  | 1 => ("SoundPress$Encoder", "second", "LSoundPress$Bytes;", true)
  | 2 => ("SoundPress$Encoder", "firstBits", "LSoundPress$BitWriter;", true)
  | 3 => ("SoundPress$Encoder", "secondBits", "LSoundPress$BitWriter;", true)
  | _ => ("SoundPress$Encoder", "sheet", "LSoundPress$Sheet;", true)
def tyX4 : Nat → FieldType := fun k => match k with
  | 0 => .object "SoundPress$Bytes"
  | 1 => .object "SoundPress$Bytes"
  | 2 => .object "SoundPress$BitWriter"
  | 3 => .object "SoundPress$BitWriter"
  | _ => .object "SoundPress$Sheet"
theorem nmX4 : ∀ a, a < 5 → ∀ b, b < 5 → a ≠ b → (TX4 a).2.1 ≠ (TX4 b).2.1 := by decide +kernel
theorem tyX4_ok : ∀ k, k < 5 → parseFieldDescriptor (TX4 k).2.2.1 = some (tyX4 k) := by decide +kernel
abbrev cX4_init : ByteArray := prog_6_method_1_code
def yX4_init : MethodName := ⟨RX4, "<init>", "(LSoundPress$Bytes;LSoundPress$Bytes;LSoundPress$Sheet;)V"⟩
abbrev cX4_press : ByteArray := prog_6_method_2_code
def yX4_press : MethodName := ⟨RX4, "press", "(LSoundPress$Work;)V"⟩
abbrev cX4_writeHeads : ByteArray := prog_6_method_3_code
def yX4_writeHeads : MethodName := ⟨RX4, "writeHeads", "(LSoundPress$Work;)V"⟩
abbrev cX4_writeTails : ByteArray := prog_6_method_4_code
def yX4_writeTails : MethodName := ⟨RX4, "writeTails", "()V"⟩
abbrev cX4_foretellAll : ByteArray := prog_6_method_5_code
def yX4_foretellAll : MethodName := ⟨RX4, "foretellAll", "(LSoundPress$Work;)V"⟩
abbrev cX4_stillFrames : ByteArray := prog_6_method_6_code
def yX4_stillFrames : MethodName := ⟨RX4, "stillFrames", "(LSoundPress$Work;I)I"⟩
abbrev cX4_isStill : ByteArray := prog_6_method_7_code
def yX4_isStill : MethodName := ⟨RX4, "isStill", "(LSoundPress$Work;I)Z"⟩
abbrev cX4_writeFrame : ByteArray := prog_6_method_8_code
def yX4_writeFrame : MethodName := ⟨RX4, "writeFrame", "(LSoundPress$Work;I)V"⟩
abbrev cX4_writeRest : ByteArray := prog_6_method_9_code
def yX4_writeRest : MethodName := ⟨RX4, "writeRest", "(LSoundPress$Work;II)I"⟩
def RX5 : String := "SoundPress$Medians"
def TX5 : u_T := fun k => match k with
  | 0 => ("SoundPress$Medians", "middles", "[J", true)
  | 1 => ("SoundPress$Medians", "low", "J", false)
  | _ => ("SoundPress$Medians", "high", "J", false)
def tyX5 : Nat → FieldType := fun k => match k with
  | 0 => .array .long
  | 1 => .long
  | _ => .long
theorem nmX5 : ∀ a, a < 3 → ∀ b, b < 3 → a ≠ b → (TX5 a).2.1 ≠ (TX5 b).2.1 := by decide +kernel
theorem tyX5_ok : ∀ k, k < 3 → parseFieldDescriptor (TX5 k).2.2.1 = some (tyX5 k) := by decide +kernel
abbrev cX5_init : ByteArray := prog_7_method_1_code
def yX5_init : MethodName := ⟨RX5, "<init>", "()V"⟩
abbrev cX5_begin : ByteArray := prog_7_method_2_code
def yX5_begin : MethodName := ⟨RX5, "begin", "()V"⟩
abbrev cX5_middleOf : ByteArray := prog_7_method_3_code
def yX5_middleOf : MethodName := ⟨RX5, "middleOf", "(II)J"⟩
abbrev cX5_isQuiet : ByteArray := prog_7_method_4_code
def yX5_isQuiet : MethodName := ⟨RX5, "isQuiet", "(I)Z"⟩
abbrev cX5_onesOf : ByteArray := prog_7_method_5_code
def yX5_onesOf : MethodName := ⟨RX5, "onesOf", "(IJ)J"⟩
abbrev cX5_bound : ByteArray := prog_7_method_6_code
def yX5_bound : MethodName := ⟨RX5, "bound", "(IJ)V"⟩
abbrev cX5_mid : ByteArray := prog_7_method_7_code
def yX5_mid : MethodName := ⟨RX5, "mid", "()J"⟩
abbrev cX5_halve : ByteArray := prog_7_method_8_code
def yX5_halve : MethodName := ⟨RX5, "halve", "(Z)V"⟩
abbrev cX5_near : ByteArray := prog_7_method_9_code
def yX5_near : MethodName := ⟨RX5, "near", "(Z)I"⟩
abbrev cX5_share : ByteArray := prog_7_method_10_code
def yX5_share : MethodName := ⟨RX5, "share", "(II)J"⟩
abbrev cX5_move : ByteArray := prog_7_method_11_code
def yX5_move : MethodName := ⟨RX5, "move", "(IIZ)V"⟩
def RX6 : String := "SoundPress$Passes"
def TX6 : u_T := fun k => match k with
  | 0 => ("SoundPress$Passes", "plan", "LSoundPress$Plan;", true)
  | 1 => ("SoundPress$Passes", "weights", "[I", true)
  | 2 => ("SoundPress$Passes", "inputs", "[I", true)
  | 3 => ("SoundPress$Passes", "bases", "[I", true)
  | 4 => ("SoundPress$Passes", "guesses", "[I", true)
  | 5 => ("SoundPress$Passes", "coded", "I", false)
  | 6 => ("SoundPress$Passes", "frame", "I", false)
  | _ => ("SoundPress$Passes", "channel", "I", false)
def tyX6 : Nat → FieldType := fun k => match k with
  | 0 => .object "SoundPress$Plan"
  | 1 => .array .int
  | 2 => .array .int
  | 3 => .array .int
  | 4 => .array .int
  | 5 => .int
  | 6 => .int
  | _ => .int
theorem nmX6 : ∀ a, a < 8 → ∀ b, b < 8 → a ≠ b → (TX6 a).2.1 ≠ (TX6 b).2.1 := by decide +kernel
theorem tyX6_ok : ∀ k, k < 8 → parseFieldDescriptor (TX6 k).2.2.1 = some (tyX6 k) := by decide +kernel
abbrev cX6_init : ByteArray := prog_8_method_1_code
def yX6_init : MethodName := ⟨RX6, "<init>", "()V"⟩
abbrev cX6_begin : ByteArray := prog_8_method_2_code
def yX6_begin : MethodName := ⟨RX6, "begin", "(I)V"⟩
abbrev cX6_foretell : ByteArray := prog_8_method_3_code
def yX6_foretell : MethodName := ⟨RX6, "foretell", "(II)I"⟩
abbrev cX6_learn : ByteArray := prog_8_method_4_code
def yX6_learn : MethodName := ⟨RX6, "learn", "(I)I"⟩
abbrev cX6_weightOf : ByteArray := prog_8_method_5_code
def yX6_weightOf : MethodName := ⟨RX6, "weightOf", "(II)I"⟩
abbrev cX6_baseOf : ByteArray := prog_8_method_6_code
def yX6_baseOf : MethodName := ⟨RX6, "baseOf", "(II)I"⟩
abbrev cX6_moveWeight : ByteArray := prog_8_method_7_code
def yX6_moveWeight : MethodName := ⟨RX6, "moveWeight", "(II)V"⟩
abbrev cX6_track : ByteArray := prog_8_method_8_code
def yX6_track : MethodName := ⟨RX6, "track", "(II)I"⟩
abbrev cX6_slot : ByteArray := prog_8_method_9_code
def yX6_slot : MethodName := ⟨RX6, "slot", "(III)I"⟩
def RX7 : String := "SoundPress$Plan"
def TX7 : u_T := fun k => match k with
  | 0 => ("SoundPress$Plan", "terms", "[I", true)
  | 1 => ("SoundPress$Plan", "deltas", "[I", true)
  | _ => ("SoundPress$Plan", "number", "I", false)
def tyX7 : Nat → FieldType := fun k => match k with
  | 0 => .array .int
  | 1 => .array .int
  | _ => .int
theorem nmX7 : ∀ a, a < 3 → ∀ b, b < 3 → a ≠ b → (TX7 a).2.1 ≠ (TX7 b).2.1 := by decide +kernel
theorem tyX7_ok : ∀ k, k < 3 → parseFieldDescriptor (TX7 k).2.2.1 = some (tyX7 k) := by decide +kernel
abbrev cX7_init : ByteArray := prog_9_method_1_code
def yX7_init : MethodName := ⟨RX7, "<init>", "()V"⟩
abbrev cX7_add : ByteArray := prog_9_method_2_code
def yX7_add : MethodName := ⟨RX7, "add", "(II)Z"⟩
abbrev cX7_clear : ByteArray := prog_9_method_3_code
def yX7_clear : MethodName := ⟨RX7, "clear", "()V"⟩
abbrev cX7_copy : ByteArray := prog_9_method_4_code
def yX7_copy : MethodName := ⟨RX7, "copy", "(LSoundPress$Plan;)V"⟩
abbrev cX7_isTerm : ByteArray := prog_9_method_5_code
def yX7_isTerm : MethodName := ⟨RX7, "isTerm", "(I)Z"⟩
def RX8 : String := "SoundPress$Sheet"
def TX8 : u_T := fun k => match k with
  | 0 => ("SoundPress$Sheet", "values", "[I", true)
  | 1 => ("SoundPress$Sheet", "rests", "[I", true)
  | 2 => ("SoundPress$Sheet", "lows", "[J", true)
  | _ => ("SoundPress$Sheet", "spans", "[I", true)
def tyX8 : Nat → FieldType := fun k => match k with
  | 0 => .array .int
  | 1 => .array .int
  | 2 => .array .long
  | _ => .array .int
theorem nmX8 : ∀ a, a < 4 → ∀ b, b < 4 → a ≠ b → (TX8 a).2.1 ≠ (TX8 b).2.1 := by decide +kernel
theorem tyX8_ok : ∀ k, k < 4 → parseFieldDescriptor (TX8 k).2.2.1 = some (tyX8 k) := by decide +kernel
abbrev cX8_init : ByteArray := prog_10_method_1_code
def yX8_init : MethodName := ⟨RX8, "<init>", "()V"⟩
abbrev cX8_has : ByteArray := prog_10_method_2_code
def yX8_has : MethodName := ⟨RX8, "has", "(I)Z"⟩
abbrev cX8_valueAt : ByteArray := prog_10_method_3_code
def yX8_valueAt : MethodName := ⟨RX8, "valueAt", "(I)I"⟩
abbrev cX8_restAt : ByteArray := prog_10_method_4_code
def yX8_restAt : MethodName := ⟨RX8, "restAt", "(I)I"⟩
abbrev cX8_putRest : ByteArray := prog_10_method_5_code
def yX8_putRest : MethodName := ⟨RX8, "putRest", "(II)V"⟩
abbrev cX8_putRead : ByteArray := prog_10_method_6_code
def yX8_putRead : MethodName := ⟨RX8, "putRead", "(IIIJJ)V"⟩
abbrev cX8_fold : ByteArray := prog_10_method_7_code
def yX8_fold : MethodName := ⟨RX8, "fold", "(LSoundPress$Work;[I)V"⟩
abbrev cX8_unfold : ByteArray := prog_10_method_8_code
def yX8_unfold : MethodName := ⟨RX8, "unfold", "(LSoundPress$Work;[I)I"⟩
def RX9 : String := "SoundPress$Work"
def TX9 : u_T := fun k => match k with
  | 0 => ("SoundPress$Work", "passes", "LSoundPress$Passes;", true)
  | 1 => ("SoundPress$Work", "medians", "LSoundPress$Medians;", true)
  | 2 => ("SoundPress$Work", "channels", "I", false)
  | 3 => ("SoundPress$Work", "coded", "I", false)
  | 4 => ("SoundPress$Work", "frames", "I", false)
  | 5 => ("SoundPress$Work", "flags", "I", false)
  | 6 => ("SoundPress$Work", "shift", "I", false)
  | 7 => ("SoundPress$Work", "error", "I", false)
  | 8 => ("SoundPress$Work", "silences", "I", false)
  | 9 => ("SoundPress$Work", "passedOver", "I", false)
  | 10 => ("SoundPress$Work", "mostOnes", "I", false)
  | _ => ("SoundPress$Work", "mostOff", "I", false)
def tyX9 : Nat → FieldType := fun k => match k with
  | 0 => .object "SoundPress$Passes"
  | 1 => .object "SoundPress$Medians"
  | 2 => .int
  | 3 => .int
  | 4 => .int
  | 5 => .int
  | 6 => .int
  | 7 => .int
  | 8 => .int
  | 9 => .int
  | 10 => .int
  | _ => .int
theorem nmX9 : ∀ a, a < 12 → ∀ b, b < 12 → a ≠ b → (TX9 a).2.1 ≠ (TX9 b).2.1 := by decide +kernel
theorem tyX9_ok : ∀ k, k < 12 → parseFieldDescriptor (TX9 k).2.2.1 = some (tyX9 k) := by decide +kernel
abbrev cX9_init : ByteArray := prog_11_method_1_code
def yX9_init : MethodName := ⟨RX9, "<init>", "()V"⟩
abbrev cX9_begin : ByteArray := prog_11_method_2_code
def yX9_begin : MethodName := ⟨RX9, "begin", "(IIII)V"⟩
abbrev cX9_mayBeSilent : ByteArray := prog_11_method_3_code
def yX9_mayBeSilent : MethodName := ⟨RX9, "mayBeSilent", "()Z"⟩
abbrev cX9_noteSilence : ByteArray := prog_11_method_4_code
def yX9_noteSilence : MethodName := ⟨RX9, "noteSilence", "(I)V"⟩
abbrev cX9_noteOnes : ByteArray := prog_11_method_5_code
def yX9_noteOnes : MethodName := ⟨RX9, "noteOnes", "(J)V"⟩
abbrev cX9_noteOff : ByteArray := prog_11_method_6_code
def yX9_noteOff : MethodName := ⟨RX9, "noteOff", "(I)V"⟩
abbrev cX9_tell : ByteArray := prog_11_method_7_code
def yX9_tell : MethodName := ⟨RX9, "tell", "(I)I"⟩
def RX10 : String := "SoundPress"
def TX10 : u_T := fun k => match k with
  | 0 => ("SoundPress", "numbers", "[I", true)
  | 1 => ("SoundPress", "length", "I", false)
  | 2 => ("SoundPress", "plan", "LSoundPress$Plan;", true)
  | 3 => ("SoundPress", "tape", "LSoundPress$Bytes;", true)
  | 4 => ("SoundPress", "side", "LSoundPress$Bytes;", true)
  | 5 => ("SoundPress", "first", "LSoundPress$Bytes;", true)
  | 6 => ("SoundPress", "second", "LSoundPress$Bytes;", true)
  | 7 => ("SoundPress", "encoder", "LSoundPress$Encoder;", true)
  | 8 => ("SoundPress", "decoder", "LSoundPress$Decoder;", true)
  | 9 => ("SoundPress", "last", "LSoundPress$Work;", false)
  | _ => ("SoundPress", "spare", "LSoundPress$Work;", false)
def tyX10 : Nat → FieldType := fun k => match k with
  | 0 => .array .int
  | 1 => .int
  | 2 => .object "SoundPress$Plan"
  | 3 => .object "SoundPress$Bytes"
  | 4 => .object "SoundPress$Bytes"
  | 5 => .object "SoundPress$Bytes"
  | 6 => .object "SoundPress$Bytes"
  | 7 => .object "SoundPress$Encoder"
  | 8 => .object "SoundPress$Decoder"
  | 9 => .object "SoundPress$Work"
  | _ => .object "SoundPress$Work"
theorem nmX10 : ∀ a, a < 11 → ∀ b, b < 11 → a ≠ b → (TX10 a).2.1 ≠ (TX10 b).2.1 := by decide +kernel
theorem tyX10_ok : ∀ k, k < 11 → parseFieldDescriptor (TX10 k).2.2.1 = some (tyX10 k) := by decide +kernel
abbrev cX10_init : ByteArray := prog_1_method_1_code
def yX10_init : MethodName := ⟨RX10, "<init>", "()V"⟩
abbrev cX10_say : ByteArray := prog_1_method_2_code
def yX10_say : MethodName := ⟨RX10, "say", "(IIIII)I"⟩
abbrev cX10_cut : ByteArray := prog_1_method_3_code
def yX10_cut : MethodName := ⟨RX10, "cut", "(I)Z"⟩
abbrev cX10_row : ByteArray := prog_1_method_4_code
def yX10_row : MethodName := ⟨RX10, "row", "(I)I"⟩
abbrev cX10_rows : ByteArray := prog_1_method_5_code
def yX10_rows : MethodName := ⟨RX10, "rows", "()I"⟩
abbrev cX10_pass : ByteArray := prog_1_method_6_code
def yX10_pass : MethodName := ⟨RX10, "pass", "(II)I"⟩
abbrev cX10_unpass : ByteArray := prog_1_method_7_code
def yX10_unpass : MethodName := ⟨RX10, "unpass", "()I"⟩
abbrev cX10_encode : ByteArray := prog_1_method_8_code
def yX10_encode : MethodName := ⟨RX10, "encode", "(IZI)I"⟩
abbrev cX10_size : ByteArray := prog_1_method_9_code
def yX10_size : MethodName := ⟨RX10, "size", "(I)I"⟩
abbrev cX10_out : ByteArray := prog_1_method_10_code
def yX10_out : MethodName := ⟨RX10, "out", "(II)I"⟩
abbrev cX10_feed : ByteArray := prog_1_method_11_code
def yX10_feed : MethodName := ⟨RX10, "feed", "(IIII)I"⟩
abbrev cX10_end : ByteArray := prog_1_method_12_code
def yX10_end : MethodName := ⟨RX10, "end", "(II)Z"⟩
abbrev cX10_take : ByteArray := prog_1_method_13_code
def yX10_take : MethodName := ⟨RX10, "take", "(I)I"⟩
abbrev cX10_harm : ByteArray := prog_1_method_14_code
def yX10_harm : MethodName := ⟨RX10, "harm", "(III)Z"⟩
abbrev cX10_seal : ByteArray := prog_1_method_15_code
def yX10_seal : MethodName := ⟨RX10, "seal", "(I)Z"⟩
abbrev cX10_decode : ByteArray := prog_1_method_16_code
def yX10_decode : MethodName := ⟨RX10, "decode", "()I"⟩
abbrev cX10_decodeBoth : ByteArray := prog_1_method_17_code
def yX10_decodeBoth : MethodName := ⟨RX10, "decodeBoth", "()I"⟩
abbrev cX10_look : ByteArray := prog_1_method_18_code
def yX10_look : MethodName := ⟨RX10, "look", "(I)I"⟩
abbrev cX10_weight : ByteArray := prog_1_method_19_code
def yX10_weight : MethodName := ⟨RX10, "weight", "(II)I"⟩
abbrev cX10_median : ByteArray := prog_1_method_20_code
def yX10_median : MethodName := ⟨RX10, "median", "(II)J"⟩
abbrev cX10_count : ByteArray := prog_1_method_21_code
def yX10_count : MethodName := ⟨RX10, "count", "(I)I"⟩
abbrev cX10_fed : ByteArray := prog_1_method_22_code
def yX10_fed : MethodName := ⟨RX10, "fed", "(I)LSoundPress$Bytes;"⟩
abbrev cX10_pressed : ByteArray := prog_1_method_23_code
def yX10_pressed : MethodName := ⟨RX10, "pressed", "(I)LSoundPress$Bytes;"⟩
abbrev cX10_isSound : ByteArray := prog_1_method_24_code
def yX10_isSound : MethodName := ⟨RX10, "isSound", "(I)Z"⟩
abbrev cX10_isTwin : ByteArray := prog_1_method_25_code
def yX10_isTwin : MethodName := ⟨RX10, "isTwin", "()Z"⟩
abbrev cX10_commonShift : ByteArray := prog_1_method_26_code
def yX10_commonShift : MethodName := ⟨RX10, "commonShift", "()I"⟩
abbrev cX10_keepSound : ByteArray := prog_1_method_27_code
def yX10_keepSound : MethodName := ⟨RX10, "keepSound", "()I"⟩
abbrev cX10_keepSpare : ByteArray := prog_1_method_28_code
def yX10_keepSpare : MethodName := ⟨RX10, "keepSpare", "()V"⟩
abbrev cX10_highestBit : ByteArray := prog_1_method_29_code
def yX10_highestBit : MethodName := ⟨RX10, "highestBit", "(J)I"⟩
def RX11 : String := "SoundPressModel"
def TX11 : u_T := fun k => match k with
  | 0 => ("SoundPressModel", "row", "[I", true)
  | 1 => ("SoundPressModel", "rows", "I", false)
  | 2 => ("SoundPressModel", "terms", "[I", true)
  | 3 => ("SoundPressModel", "deltas", "[I", true)
  | 4 => ("SoundPressModel", "passes", "I", false)
  | 5 => ("SoundPressModel", "tapes", "[B", true)
  | 6 => ("SoundPressModel", "taped", "[I", true)
  | 7 => ("SoundPressModel", "first", "[B", true)
  | 8 => ("SoundPressModel", "second", "[B", true)
  | 9 => ("SoundPressModel", "firstMany", "I", false)
  | 10 => ("SoundPressModel", "secondMany", "I", false)
  | 11 => ("SoundPressModel", "seen", "[I", true)
  | 12 => ("SoundPressModel", "seenWeights", "[I", true)
  | 13 => ("SoundPressModel", "seenMedians", "[J", true)
  | 14 => ("SoundPressModel", "planned", "I", false)
  | 15 => ("SoundPressModel", "channels", "I", false)
  | 16 => ("SoundPressModel", "term", "[I", true)
  | 17 => ("SoundPressModel", "delta", "[I", true)
  | 18 => ("SoundPressModel", "weights", "[I", true)
  | 19 => ("SoundPressModel", "inputs", "[I", true)
  | 20 => ("SoundPressModel", "guesses", "[I", true)
  | 21 => ("SoundPressModel", "bases", "[I", true)
  | 22 => ("SoundPressModel", "keptWeights", "[I", true)
  | 23 => ("SoundPressModel", "keptInputs", "[I", true)
  | 24 => ("SoundPressModel", "medians", "[J", true)
  | 25 => ("SoundPressModel", "silences", "I", false)
  | 26 => ("SoundPressModel", "passedOver", "I", false)
  | 27 => ("SoundPressModel", "greatestOnes", "J", false)
  | 28 => ("SoundPressModel", "low", "J", false)
  | 29 => ("SoundPressModel", "high", "J", false)
  | 30 => ("SoundPressModel", "bits", "[B", true)
  | 31 => ("SoundPressModel", "bitMany", "I", false)
  | 32 => ("SoundPressModel", "bitAt", "I", false)
  | 33 => ("SoundPressModel", "bitEnd", "I", false)
  | 34 => ("SoundPressModel", "sideBits", "[B", true)
  | 35 => ("SoundPressModel", "sideMany", "I", false)
  | 36 => ("SoundPressModel", "error", "I", false)
  | 37 => ("SoundPressModel", "shift", "I", false)
  | 38 => ("SoundPressModel", "frames", "I", false)
  | 39 => ("SoundPressModel", "flags", "I", false)
  | 40 => ("SoundPressModel", "greatest", "I", false)
  | 41 => ("SoundPressModel", "coded", "[I", true)
  | 42 => ("SoundPressModel", "fault", "I", false)
  | 43 => ("SoundPressModel", "read", "[B", true)
  | 44 => ("SoundPressModel", "lows", "[J", true)
  | 45 => ("SoundPressModel", "highs", "[J", true)
  | 46 => ("SoundPressModel", "restsTaken", "[J", true)
  | 47 => ("SoundPressModel", "isBelow", "[Z", true)
  | 48 => ("SoundPressModel", "isWritten", "[Z", true)
  | _ => ("SoundPressModel", "five", "[I", true)
def tyX11 : Nat → FieldType := fun k => match k with
  | 0 => .array .int
  | 1 => .int
  | 2 => .array .int
  | 3 => .array .int
  | 4 => .int
  | 5 => .array .byte
  | 6 => .array .int
  | 7 => .array .byte
  | 8 => .array .byte
  | 9 => .int
  | 10 => .int
  | 11 => .array .int
  | 12 => .array .int
  | 13 => .array .long
  | 14 => .int
  | 15 => .int
  | 16 => .array .int
  | 17 => .array .int
  | 18 => .array .int
  | 19 => .array .int
  | 20 => .array .int
  | 21 => .array .int
  | 22 => .array .int
  | 23 => .array .int
  | 24 => .array .long
  | 25 => .int
  | 26 => .int
  | 27 => .long
  | 28 => .long
  | 29 => .long
  | 30 => .array .byte
  | 31 => .int
  | 32 => .int
  | 33 => .int
  | 34 => .array .byte
  | 35 => .int
  | 36 => .int
  | 37 => .int
  | 38 => .int
  | 39 => .int
  | 40 => .int
  | 41 => .array .int
  | 42 => .int
  | 43 => .array .byte
  | 44 => .array .long
  | 45 => .array .long
  | 46 => .array .long
  | 47 => .array .boolean
  | 48 => .array .boolean
  | _ => .array .int
theorem nmX11 : ∀ a, a < 50 → ∀ b, b < 50 → a ≠ b → (TX11 a).2.1 ≠ (TX11 b).2.1 := by decide +kernel
theorem tyX11_ok : ∀ k, k < 50 → parseFieldDescriptor (TX11 k).2.2.1 = some (tyX11 k) := by decide +kernel
abbrev cX11_init : ByteArray := prog_13_method_1_code
def yX11_init : MethodName := ⟨RX11, "<init>", "()V"⟩
abbrev cX11_crc : ByteArray := prog_13_method_2_code
def yX11_crc : MethodName := ⟨RX11, "crc", "([BII)I"⟩
abbrev cX11_intAt : ByteArray := prog_13_method_3_code
def yX11_intAt : MethodName := ⟨RX11, "intAt", "([BI)I"⟩
abbrev cX11_putInt : ByteArray := prog_13_method_4_code
def yX11_putInt : MethodName := ⟨RX11, "putInt", "([BII)V"⟩
abbrev cX11_begins : ByteArray := prog_13_method_5_code
def yX11_begins : MethodName := ⟨RX11, "begins", "()V"⟩
abbrev cX11_keeps : ByteArray := prog_13_method_6_code
def yX11_keeps : MethodName := ⟨RX11, "keeps", "()V"⟩
abbrev cX11_brings : ByteArray := prog_13_method_7_code
def yX11_brings : MethodName := ⟨RX11, "brings", "()V"⟩
abbrev cX11_input : ByteArray := prog_13_method_8_code
def yX11_input : MethodName := ⟨RX11, "input", "(III)I"⟩
abbrev cX11_base : ByteArray := prog_13_method_9_code
def yX11_base : MethodName := ⟨RX11, "base", "(II)I"⟩
abbrev cX11_foretells : ByteArray := prog_13_method_10_code
def yX11_foretells : MethodName := ⟨RX11, "foretells", "(I)I"⟩
abbrev cX11_learns : ByteArray := prog_13_method_11_code
def yX11_learns : MethodName := ⟨RX11, "learns", "(II)I"⟩
abbrev cX11_rises : ByteArray := prog_13_method_12_code
def yX11_rises : MethodName := ⟨RX11, "rises", "(II)V"⟩
abbrev cX11_falls : ByteArray := prog_13_method_13_code
def yX11_falls : MethodName := ⟨RX11, "falls", "(II)V"⟩
abbrev cX11_step : ByteArray := prog_13_method_14_code
def yX11_step : MethodName := ⟨RX11, "step", "(II)J"⟩
abbrev cX11_bounds : ByteArray := prog_13_method_15_code
def yX11_bounds : MethodName := ⟨RX11, "bounds", "(IJ)V"⟩
abbrev cX11_middle : ByteArray := prog_13_method_16_code
def yX11_middle : MethodName := ⟨RX11, "middle", "(JJ)J"⟩
abbrev cX11_maySilent : ByteArray := prog_13_method_17_code
def yX11_maySilent : MethodName := ⟨RX11, "maySilent", "()Z"⟩
abbrev cX11_bit : ByteArray := prog_13_method_18_code
def yX11_bit : MethodName := ⟨RX11, "bit", "(I)V"⟩
abbrev cX11_bits : ByteArray := prog_13_method_19_code
def yX11_bits : MethodName := ⟨RX11, "bits", "(JI)V"⟩
abbrev cX11_length : ByteArray := prog_13_method_20_code
def yX11_length : MethodName := ⟨RX11, "length", "(J)I"⟩
abbrev cX11_putG : ByteArray := prog_13_method_21_code
def yX11_putG : MethodName := ⟨RX11, "putG", "(J)V"⟩
abbrev cX11_putSide : ByteArray := prog_13_method_22_code
def yX11_putSide : MethodName := ⟨RX11, "putSide", "(JI)V"⟩
abbrev cX11_putT : ByteArray := prog_13_method_23_code
def yX11_putT : MethodName := ⟨RX11, "putT", "(JJ)V"⟩
abbrev cX11_isSound : ByteArray := prog_13_method_24_code
def yX11_isSound : MethodName := ⟨RX11, "isSound", "(I)Z"⟩
abbrev cX11_shiftOf : ByteArray := prog_13_method_25_code
def yX11_shiftOf : MethodName := ⟨RX11, "shiftOf", "()I"⟩
abbrev cX11_areTwins : ByteArray := prog_13_method_26_code
def yX11_areTwins : MethodName := ⟨RX11, "areTwins", "()Z"⟩
abbrev cX11_readies : ByteArray := prog_13_method_27_code
def yX11_readies : MethodName := ⟨RX11, "readies", "(IZ)V"⟩
abbrev cX11_isSilent : ByteArray := prog_13_method_28_code
def yX11_isSilent : MethodName := ⟨RX11, "isSilent", "(I)Z"⟩
abbrev cX11_codes : ByteArray := prog_13_method_29_code
def yX11_codes : MethodName := ⟨RX11, "codes", "(II)V"⟩
abbrev cX11_codesAll : ByteArray := prog_13_method_30_code
def yX11_codesAll : MethodName := ⟨RX11, "codesAll", "()V"⟩
abbrev cX11_tellsSilence : ByteArray := prog_13_method_31_code
def yX11_tellsSilence : MethodName := ⟨RX11, "tellsSilence", "(I)V"⟩
abbrev cX11_packs : ByteArray := prog_13_method_32_code
def yX11_packs : MethodName := ⟨RX11, "packs", "([BI[BI)I"⟩
abbrev cX11_closes : ByteArray := prog_13_method_33_code
def yX11_closes : MethodName := ⟨RX11, "closes", "([BI)I"⟩
abbrev cX11_heads : ByteArray := prog_13_method_34_code
def yX11_heads : MethodName := ⟨RX11, "heads", "()I"⟩
abbrev cX11_encode : ByteArray := prog_13_method_35_code
def yX11_encode : MethodName := ⟨RX11, "encode", "(IZI)I"⟩
abbrev cX11_tells : ByteArray := prog_13_method_36_code
def yX11_tells : MethodName := ⟨RX11, "tells", "()V"⟩
abbrev cX11_wrong : ByteArray := prog_13_method_37_code
def yX11_wrong : MethodName := ⟨RX11, "wrong", "(I)Z"⟩
abbrev cX11_next : ByteArray := prog_13_method_38_code
def yX11_next : MethodName := ⟨RX11, "next", "(I)I"⟩
abbrev cX11_next_ : ByteArray := prog_13_method_39_code
def yX11_next_ : MethodName := ⟨RX11, "next", "(II)J"⟩
abbrev cX11_nextG : ByteArray := prog_13_method_40_code
def yX11_nextG : MethodName := ⟨RX11, "nextG", "()J"⟩
abbrev cX11_isTerm : ByteArray := prog_13_method_41_code
def yX11_isTerm : MethodName := ⟨RX11, "isTerm", "(I)Z"⟩
abbrev cX11_opens : ByteArray := prog_13_method_42_code
def yX11_opens : MethodName := ⟨RX11, "opens", "(I)Z"⟩
abbrev cX11_reads : ByteArray := prog_13_method_43_code
def yX11_reads : MethodName := ⟨RX11, "reads", "(II)V"⟩
abbrev cX11_passesOver : ByteArray := prog_13_method_44_code
def yX11_passesOver : MethodName := ⟨RX11, "passesOver", "(I)V"⟩
abbrev cX11_readsFirst : ByteArray := prog_13_method_45_code
def yX11_readsFirst : MethodName := ⟨RX11, "readsFirst", "(I)Z"⟩
abbrev cX11_isRest : ByteArray := prog_13_method_46_code
def yX11_isRest : MethodName := ⟨RX11, "isRest", "(I)Z"⟩
abbrev cX11_nextT : ByteArray := prog_13_method_47_code
def yX11_nextT : MethodName := ⟨RX11, "nextT", "(J)J"⟩
abbrev cX11_readsSecond : ByteArray := prog_13_method_48_code
def yX11_readsSecond : MethodName := ⟨RX11, "readsSecond", "(II)Z"⟩
abbrev cX11_puts : ByteArray := prog_13_method_49_code
def yX11_puts : MethodName := ⟨RX11, "puts", "()V"⟩
abbrev cX11_decodes : ByteArray := prog_13_method_50_code
def yX11_decodes : MethodName := ⟨RX11, "decodes", "(Z)I"⟩
abbrev cX11_decode : ByteArray := prog_13_method_51_code
def yX11_decode : MethodName := ⟨RX11, "decode", "()I"⟩
abbrev cX11_decodeBoth : ByteArray := prog_13_method_52_code
def yX11_decodeBoth : MethodName := ⟨RX11, "decodeBoth", "()I"⟩
abbrev cX11_say : ByteArray := prog_13_method_53_code
def yX11_say : MethodName := ⟨RX11, "say", "(IIIII)I"⟩
abbrev cX11_cut : ByteArray := prog_13_method_54_code
def yX11_cut : MethodName := ⟨RX11, "cut", "(I)Z"⟩
abbrev cX11_row : ByteArray := prog_13_method_55_code
def yX11_row : MethodName := ⟨RX11, "row", "(I)I"⟩
abbrev cX11_rows : ByteArray := prog_13_method_56_code
def yX11_rows : MethodName := ⟨RX11, "rows", "()I"⟩
abbrev cX11_pass : ByteArray := prog_13_method_57_code
def yX11_pass : MethodName := ⟨RX11, "pass", "(II)I"⟩
abbrev cX11_unpass : ByteArray := prog_13_method_58_code
def yX11_unpass : MethodName := ⟨RX11, "unpass", "()I"⟩
abbrev cX11_noWhich : ByteArray := prog_13_method_59_code
def yX11_noWhich : MethodName := ⟨RX11, "noWhich", "(I)Z"⟩
abbrev cX11_size : ByteArray := prog_13_method_60_code
def yX11_size : MethodName := ⟨RX11, "size", "(I)I"⟩
abbrev cX11_out : ByteArray := prog_13_method_61_code
def yX11_out : MethodName := ⟨RX11, "out", "(II)I"⟩
abbrev cX11_feed : ByteArray := prog_13_method_62_code
def yX11_feed : MethodName := ⟨RX11, "feed", "(IIII)I"⟩
abbrev cX11_end : ByteArray := prog_13_method_63_code
def yX11_end : MethodName := ⟨RX11, "end", "(II)Z"⟩
abbrev cX11_take : ByteArray := prog_13_method_64_code
def yX11_take : MethodName := ⟨RX11, "take", "(I)I"⟩
abbrev cX11_harm : ByteArray := prog_13_method_65_code
def yX11_harm : MethodName := ⟨RX11, "harm", "(III)Z"⟩
abbrev cX11_seal : ByteArray := prog_13_method_66_code
def yX11_seal : MethodName := ⟨RX11, "seal", "(I)Z"⟩
abbrev cX11_look : ByteArray := prog_13_method_67_code
def yX11_look : MethodName := ⟨RX11, "look", "(I)I"⟩
abbrev cX11_weight : ByteArray := prog_13_method_68_code
def yX11_weight : MethodName := ⟨RX11, "weight", "(II)I"⟩
abbrev cX11_median : ByteArray := prog_13_method_69_code
def yX11_median : MethodName := ⟨RX11, "median", "(II)J"⟩
abbrev cX11_count : ByteArray := prog_13_method_70_code
def yX11_count : MethodName := ⟨RX11, "count", "(I)I"⟩
def RJ6 : String := "java/lang/Integer"
def TJ6 : u_T := fun k => match k with
  | _ => ("", "", "", false)
def tyJ6 : Nat → FieldType := fun k => match k with
  | _ => .int
theorem nmJ6 : ∀ a, a < 0 → ∀ b, b < 0 → a ≠ b → (TJ6 a).2.1 ≠ (TJ6 b).2.1 := by decide +kernel
theorem tyJ6_ok : ∀ k, k < 0 → parseFieldDescriptor (TJ6 k).2.2.1 = some (tyJ6 k) := by decide +kernel
abbrev cJ6_numberOfLeadingZeros_0f7a4 : ByteArray := prog_14_method_47_code
def yJ6_numberOfLeadingZeros_0f7a4 : MethodName := ⟨RJ6, "numberOfLeadingZeros", "(I)I"⟩
abbrev cJ6_numberOfTrailingZeros_0f7a4 : ByteArray := prog_14_method_48_code
def yJ6_numberOfTrailingZeros_0f7a4 : MethodName := ⟨RJ6, "numberOfTrailingZeros", "(I)I"⟩
def RJ13 : String := "java/lang/Long"
def TJ13 : u_T := fun k => match k with
  | _ => ("", "", "", false)
def tyJ13 : Nat → FieldType := fun k => match k with
  | _ => .int
theorem nmJ13 : ∀ a, a < 0 → ∀ b, b < 0 → a ≠ b → (TJ13 a).2.1 ≠ (TJ13 b).2.1 := by decide +kernel
theorem tyJ13_ok : ∀ k, k < 0 → parseFieldDescriptor (TJ13 k).2.2.1 = some (tyJ13 k) := by decide +kernel
abbrev cJ13_numberOfLeadingZeros_95d88 : ByteArray := prog_15_method_48_code
def yJ13_numberOfLeadingZeros_95d88 : MethodName := ⟨RJ13, "numberOfLeadingZeros", "(J)I"⟩
def RJ9 : String := "java/lang/Math"
def TJ9 : u_T := fun k => match k with
  | _ => ("", "", "", false)
def tyJ9 : Nat → FieldType := fun k => match k with
  | _ => .int
theorem nmJ9 : ∀ a, a < 0 → ∀ b, b < 0 → a ≠ b → (TJ9 a).2.1 ≠ (TJ9 b).2.1 := by decide +kernel
theorem tyJ9_ok : ∀ k, k < 0 → parseFieldDescriptor (TJ9 k).2.2.1 = some (tyJ9 k) := by decide +kernel
abbrev cJ9_abs_0f7a4 : ByteArray := prog_16_method_59_code
def yJ9_abs_0f7a4 : MethodName := ⟨RJ9, "abs", "(I)I"⟩
abbrev cJ9_max_7cf53 : ByteArray := prog_16_method_65_code
def yJ9_max_7cf53 : MethodName := ⟨RJ9, "max", "(II)I"⟩
abbrev cJ9_max_f86c9 : ByteArray := prog_16_method_66_code
def yJ9_max_f86c9 : MethodName := ⟨RJ9, "max", "(JJ)J"⟩
abbrev cJ9_min_7cf53 : ByteArray := prog_16_method_69_code
def yJ9_min_7cf53 : MethodName := ⟨RJ9, "min", "(II)I"⟩
abbrev cJ9_min_f86c9 : ByteArray := prog_16_method_70_code
def yJ9_min_f86c9 : MethodName := ⟨RJ9, "min", "(JJ)J"⟩
def RJ10 : String := "java/lang/System"
def TJ10 : u_T := fun k => match k with
  | _ => ("", "", "", false)
def tyJ10 : Nat → FieldType := fun k => match k with
  | _ => .int
theorem nmJ10 : ∀ a, a < 0 → ∀ b, b < 0 → a ≠ b → (TJ10 a).2.1 ≠ (TJ10 b).2.1 := by decide +kernel
theorem tyJ10_ok : ∀ k, k < 0 → parseFieldDescriptor (TJ10 k).2.2.1 = some (tyJ10 k) := by decide +kernel
def RJ7 : String := "java/util/Arrays"
def TJ7 : u_T := fun k => match k with
  | _ => ("", "", "", false)
def tyJ7 : Nat → FieldType := fun k => match k with
  | _ => .int
theorem nmJ7 : ∀ a, a < 0 → ∀ b, b < 0 → a ≠ b → (TJ7 a).2.1 ≠ (TJ7 b).2.1 := by decide +kernel
theorem tyJ7_ok : ∀ k, k < 0 → parseFieldDescriptor (TJ7 k).2.2.1 = some (tyJ7 k) := by decide +kernel
abbrev cJ7_fill_d0a16 : ByteArray := prog_18_method_101_code
def yJ7_fill_d0a16 : MethodName := ⟨RJ7, "fill", "([JJ)V"⟩
abbrev cJ7_fill_53178 : ByteArray := prog_18_method_103_code
def yJ7_fill_53178 : MethodName := ⟨RJ7, "fill", "([II)V"⟩
def RL : String := "SoundPressLaw"
abbrev cL_law : ByteArray := code
def yL_law : MethodName := ⟨RL, "law", "([I)Z"⟩
abbrev vwCl : List vw_C := [(RX0, TX0, 4), (RX1, TX1, 3), (RX2, TX2, 2), (RX3, TX3, 5), (RX4, TX4, 5), (RX5, TX5, 3), (RX6, TX6, 8), (RX7, TX7, 3), (RX8, TX8, 4), (RX9, TX9, 12), (RX10, TX10, 11), (RX11, TX11, 50)]
abbrev NEST_R : Nat := 34
abbrev NEST_W : Nat := 36
abbrev NEST_B : Nat := 39
end
section
/-! THE LAYER. E: launch, class numbers and slots, array classes (0 int, 1 byte, 2 boolean, 3 long), the address of the static table. X: one frame's fixed things. G: from here the frame comes to its end. Bd: what is fixed of the frame. Ev: a method's contract, any end that Q allows. -/
abbrev g_E : Type := Launch × va_G × (Nat → ClassId) × Nat
abbrev g_X : Type := Program × Env × State × MethodId × Array Value × List Frame × Method × Code × Room × (Nat → Prop) × (State → Prop)
abbrev g_M : Type := MethodName × ByteArray × Nat × Option FieldType
abbrev g_ty (E : g_E) : List (ClassId × FieldType) := [(E.2.2.1 0, .int), (E.2.2.1 1, .byte), (E.2.2.1 2, .boolean), (E.2.2.1 3, .long)]
abbrev g_cw (M : g_M) : Cond := Cond.code M.1 M.2.1 M.2.2.1 M.2.2.2
def g_tbl : List Cond := lw_tbl.filter goodWord
theorem g_tbl_in {w : Cond} (i : Nat) (h : lw_tbl[i]? = some w) (hg : goodWord w = true) : w ∈ g_tbl := List.mem_filter.mpr ⟨List.mem_of_getElem? h, hg⟩
def g_w (M : g_M) : List Cond := g_cw M :: g_tbl
/-- the words about nest mates, which are not among those that keep by themselves -/
def g_N (U : State) : Prop := va_Nw (.methodLinkNest "SoundPress$BitReader" NEST_R yX10_highestBit "SoundPress") U ∧ va_Nw (.methodLinkNest "SoundPress$BitWriter" NEST_W yX10_highestBit "SoundPress") U ∧ va_Nw (.fieldLinkNest "SoundPress$Bytes" NEST_B "SoundPress" "CRC_STEPS" "[I" "SoundPress") U
theorem g_N.warm {s U : State} (hW : s.WarmedH U.vm) (h : g_N s) : g_N U := ⟨h.1.warmM hW, h.2.1.warmM hW, h.2.2.warmF hW⟩
theorem g_N.same {u U : State} (e : u.vm = U.vm) (h : g_N u) : g_N U := ⟨va_Nw.same rfl e h.1, va_Nw.same rfl e h.2.1, va_Nw.same rfl e h.2.2⟩
def g_crc : List Int32 := [0x00000000, 0x1db71064, 0x3b6e20c8, 0x26d930ac, 0x76dc4190, 0x6b6b51f4, 0x4db26158, 0x5005713c, 0xedb88320, 0xf00f9344, 0xd6d6a3e8, 0xcb61b38c, 0x9b64c2b0, 0x86d3d2d4, 0xa00ae278, 0xbdbdf21c]
/-- the one static table: where it stands, what it holds; nothing in A touches it -/
def g_St (E : g_E) (A : Nat → Prop) (U : State) (H : Heap) : Prop := va_Z "SoundPress" "CRC_STEPS" "[I" (.ref E.2.2.2) A U H ∧ va_T .int E.2.2.2 16 (fun j => .int (g_crc.getD j 0)) A U H
def G (E : g_E) (X : g_X) (nL : Nat) (ws : va_W) (nc ns : Nat) (lv : List (Nat × Value)) (pc : Nat) (st : List Value) : Prop := match X with
  | (p, e, s, m, args, below, meth, c, R, A, Q) => ∀ (H : Heap) (locs : List Loc) (ls : Array Slot), va_P E.2.1 vwCl ws H → va_D A ws → va_S A s.heap H locs → lv_has ls nL lv → W p E.1 e R s m args below meth c H locs nc ns Q (F0 m pc ls st)
def Bd (E : g_E) (X : g_X) (cc : ByteArray) (own : String) (nL fr lo mc ms : Nat) : Prop := match X with
  | (p, _, s, m, args, _, meth, c, R, A, _) => p.tables.exec = Jvm.exec ∧ c.code = cc ∧ c.maxLocals = nL ∧ s.vm.findClass own = some m.cls ∧ (∀ w ∈ g_tbl, w.before args s = true) ∧ va_K E.2.1 vwCl (g_ty E) s ∧ (∀ q, s.heap.size ≤ q → A q) ∧ g_St E A s s.heap ∧ g_N s ∧ meth.locks = false ∧ R = { frames := fr, cells := mc, slots := ms, locals := lo }
def g_Qc (E : g_E) (Q : Option Value → va_W → Prop) (A : Nat → Prop) : Array Value → State → Outcome → State → Prop := fun _ st oc t => (∃ (v : Option Value) (w : va_W), oc = .returned v ∧ Q v w ∧ va_P E.2.1 vwCl w t.heap ∧ va_K E.2.1 vwCl (g_ty E) t ∧ va_D A w) ∧ va_F A st t
/-- how the frame ends -/
def Rt (E : g_E) (X : g_X) (ret : Option FieldType) (mc ms : Nat) (Q : Option Value → va_W → Prop) : Prop := match X with
  | (_, _, s, _, args, below, meth, _, _, A, QQ) => meth.sig.returnType = ret ∧ QQ = MQ below (g_Qc E Q A) args s mc ms A
def In (X : g_X) : Prop := match X with
  | (_, _, _, _, _, _, meth, _, _, _, _) => meth.name = "<init>"
def Ev (E : g_E) (M : g_M) (fr lo mc ms : Nat) (args : List Value) (ws : va_W) (Q : Option Value → va_W → Prop) : Prop :=
  ∀ sz : Nat, Met E.1 M.1 (g_w M) { frames := fr, cells := mc, slots := ms, locals := lo } (va_Pc args (fun U => U.heap.size = sz ∧ va_P E.2.1 vwCl ws U.heap ∧ va_K E.2.1 vwCl (g_ty E) U ∧ va_D (fun _ => True) ws ∧ g_St E (va_A ws sz) U U.heap ∧ g_N U)) (g_Qc E Q (va_A ws sz)) mc ms (va_A ws sz)
theorem g_St.moved {E : g_E} {A : Nat → Prop} {u U : State} {H : Heap} (hvm : u.vm.Alike U.vm) (h : g_St E A u H) : g_St E A U H := ⟨h.1.moved hvm, h.2.moved hvm⟩
theorem g_St.kept {E : g_E} {A : Nat → Prop} {U : State} {H H1 : Heap} (h : g_St E A U H) (hq : ∀ a : Nat, a < H.size → ¬ A a → H1[a]? = H[a]?) : g_St E A U H1 := ⟨h.1.kept hq, h.2.kept hq⟩
theorem g_St.narrow {E : g_E} {A B : Nat → Prop} {U : State} {H : Heap} (h : g_St E A U H) (hAB : ∀ q, B q → A q) : g_St E B U H := ⟨h.1.narrow hAB, h.2.narrow hAB⟩
/-- into a method's body -/
theorem Ev.intro {E : g_E} {M : g_M} {fr lo mc ms : Nat} {args : List Value} {ws : va_W} {Q : Option Value → va_W → Prop} (hy : plainName M.1.cls = true) (hn : (lg_sl args).length ≤ M.2.2.1)
    (body : ∀ X : g_X, Bd E X M.2.1 M.1.cls M.2.2.1 fr lo mc ms → Rt E X M.2.2.2 mc ms Q → (M.1.name = "<init>" → In X) → G E X M.2.2.1 ws 0 0 (lv_args 0 args) 0 []) : Ev E M fr lo mc ms args ws Q := by
  intro sz
  obtain ⟨y, cc, maxL, ret⟩ := M
  refine Met.ofW (cc := cc) (maxL := maxL) (ret := ret) (ws' := g_tbl) hy rfl ?_
  intro p e s m args' below meth c s₁ B hml hv
  obtain ⟨rfl, hsz, hP, hK, hD0, hSt, hNe⟩ := hv
  have hts := atoms_spec (ws := g_w (y, cc, maxL, ret)) B.pre
  have hown : s.vm.findClass y.cls = some m.cls := findClass_of_methodNamed B.named
  subst hsz
  have hl := lv_entry args (n := maxL) hn
  rw [lg_entry_eq]
  exact body (p, e, s, m, args.toArray, below, meth, c, _, va_A ws s.heap.size, _) ⟨B.exec, B.bytes, hml, hown, fun w hw => hts w (List.mem_cons_of_mem _ hw), hK, fun q h => Or.inr h, hSt, hNe, B.notSynchronized, rfl⟩ ⟨B.returns, rfl⟩ (fun h => (name_of_methodNamed B.named B.method).1.trans h) s.heap [] _ hP hD0.self va_S.rf hl
theorem Ev.imp {E : g_E} {M : g_M} {fr lo mc ms : Nat} {args : List Value} {ws : va_W} {Q Q' : Option Value → va_W → Prop} (h : Ev E M fr lo mc ms args ws Q) (hQ : ∀ v w, Q v w → Q' v w) : Ev E M fr lo mc ms args ws Q' := by
  intro sz
  have h1 := h sz
  unfold Met at h1 ⊢
  refine MetFree.mono h1 (fun _ _ h => h) (fun _ _ _ _ _ h => h) (fun a s o t _ hq => ?_)
  obtain ⟨⟨⟨v, w, e1, e2, e3⟩, hf⟩, hL⟩ := hq
  exact ⟨⟨⟨v, w, e1, hQ v w e2, e3⟩, hf⟩, hL⟩
section LAYER
variable {E : g_E} {X : g_X} {cc : ByteArray} {own : String} {nL fr lo mc ms : Nat} {ws : va_W} {nc ns : Nat} {lv : List (Nat × Value)} {pc : Nat} {st : List Value}

theorem g_iconst (B : Bd E X cc own nL fr lo mc ms) {n : Int} {v : Int32} (hd : decode cc pc = .ok (.iconst n, 1)) (hv : Int32.ofInt n = v) (k : G E X nL ws nc ns lv (pc + 1) (.int v :: st)) : G E X nL ws nc ns lv pc (st) := by
  obtain ⟨p, e, s, m, args, below, meth, c, R, A, Q⟩ := X
  obtain ⟨hx, hb, hml, hown, hts, hK, hA, hSt, hNe, hlk, hR⟩ := B
  intro H locs ls hP hD hS hl
  exact lv_iconst hx hb hd hv (k H locs ls hP hD hS hl)
theorem g_bipush (B : Bd E X cc own nL fr lo mc ms) {n : Int} {v : Int32} (hd : decode cc pc = .ok (.bipush n, 2)) (hv : (Int8.ofInt n).toInt32 = v) (k : G E X nL ws nc ns lv (pc + 2) (.int v :: st)) : G E X nL ws nc ns lv pc (st) := by
  obtain ⟨p, e, s, m, args, below, meth, c, R, A, Q⟩ := X
  obtain ⟨hx, hb, hml, hown, hts, hK, hA, hSt, hNe, hlk, hR⟩ := B
  intro H locs ls hP hD hS hl
  exact lv_bipush hx hb hd hv (k H locs ls hP hD hS hl)
theorem g_sipush (B : Bd E X cc own nL fr lo mc ms) {n : Int} {v : Int32} (hd : decode cc pc = .ok (.sipush n, 3)) (hv : (Int16.ofInt n).toInt32 = v) (k : G E X nL ws nc ns lv (pc + 3) (.int v :: st)) : G E X nL ws nc ns lv pc (st) := by
  obtain ⟨p, e, s, m, args, below, meth, c, R, A, Q⟩ := X
  obtain ⟨hx, hb, hml, hown, hts, hK, hA, hSt, hNe, hlk, hR⟩ := B
  intro H locs ls hP hD hS hl
  exact lv_sipush hx hb hd hv (k H locs ls hP hD hS hl)
theorem g_lconst (B : Bd E X cc own nL fr lo mc ms) {n : Fin 2} {v : Int64} (hd : decode cc pc = .ok (.lconst n, 1)) (hv : Int64.ofNat (n : Nat) = v) (k : G E X nL ws nc ns lv (pc + 1) (.long v :: st)) : G E X nL ws nc ns lv pc (st) := by
  obtain ⟨p, e, s, m, args, below, meth, c, R, A, Q⟩ := X
  obtain ⟨hx, hb, hml, hown, hts, hK, hA, hSt, hNe, hlk, hR⟩ := B
  intro H locs ls hP hD hS hl
  exact lv_lconst hx hb hd hv (k H locs ls hP hD hS hl)
theorem g_null (B : Bd E X cc own nL fr lo mc ms)  (hd : decode cc pc = .ok (.aconst_null, 1))  (k : G E X nL ws nc ns lv (pc + 1) (.null :: st)) : G E X nL ws nc ns lv pc (st) := by
  obtain ⟨p, e, s, m, args, below, meth, c, R, A, Q⟩ := X
  obtain ⟨hx, hb, hml, hown, hts, hK, hA, hSt, hNe, hlk, hR⟩ := B
  intro H locs ls hP hD hS hl
  exact lv_null hx hb hd  (k H locs ls hP hD hS hl)
theorem g_iload_n (B : Bd E X cc own nL fr lo mc ms) {k0 : Fin 4} {i : Nat} {x : Int32} (hd : decode cc pc = .ok (.iload_n k0, 1)) (hi : (k0 : Nat) = i) (j : Nat) (hj : lv[j]? = some (i, .int x)) (k : G E X nL ws nc ns lv (pc + 1) (.int x :: st)) : G E X nL ws nc ns lv pc (st) := by
  obtain ⟨p, e, s, m, args, below, meth, c, R, A, Q⟩ := X
  obtain ⟨hx, hb, hml, hown, hts, hK, hA, hSt, hNe, hlk, hR⟩ := B
  intro H locs ls hP hD hS hl
  exact lv_iload_n hx hb hd hi (lv_at hl j hj) (k H locs ls hP hD hS hl)
theorem g_iload (B : Bd E X cc own nL fr lo mc ms) {i : Nat} {x : Int32} (hd : decode cc pc = .ok (.iload i, 2)) (j : Nat) (hj : lv[j]? = some (i, .int x)) (k : G E X nL ws nc ns lv (pc + 2) (.int x :: st)) : G E X nL ws nc ns lv pc (st) := by
  obtain ⟨p, e, s, m, args, below, meth, c, R, A, Q⟩ := X
  obtain ⟨hx, hb, hml, hown, hts, hK, hA, hSt, hNe, hlk, hR⟩ := B
  intro H locs ls hP hD hS hl
  exact lv_iload hx hb hd (lv_at hl j hj) (k H locs ls hP hD hS hl)
theorem g_istore_n (B : Bd E X cc own nL fr lo mc ms) {k0 : Fin 4} {i : Nat} {x : Int32} {lv' : List (Nat × Value)} (hd : decode cc pc = .ok (.istore_n k0, 1)) (hi : (k0 : Nat) = i) (hn : i < nL) (hl' : (i, Value.int x) :: lv.filter (fun q => !(q.1 == i) && !(q.1 + 1 == i && q.2.category == 2)) = lv') (k : G E X nL ws nc ns lv' (pc + 1) st) : G E X nL ws nc ns lv pc (.int x :: st) := by
  obtain ⟨p, e, s, m, args, below, meth, c, R, A, Q⟩ := X
  obtain ⟨hx, hb, hml, hown, hts, hK, hA, hSt, hNe, hlk, hR⟩ := B
  intro H locs ls hP hD hS hl
  exact lv_istore_n hx hb hd hi hl hn hl' (fun ls' hl2 => k H locs ls' hP hD hS hl2)
theorem g_istore (B : Bd E X cc own nL fr lo mc ms) {i : Nat} {x : Int32} {lv' : List (Nat × Value)} (hd : decode cc pc = .ok (.istore i, 2)) (hn : i < nL) (hl' : (i, Value.int x) :: lv.filter (fun q => !(q.1 == i) && !(q.1 + 1 == i && q.2.category == 2)) = lv') (k : G E X nL ws nc ns lv' (pc + 2) st) : G E X nL ws nc ns lv pc (.int x :: st) := by
  obtain ⟨p, e, s, m, args, below, meth, c, R, A, Q⟩ := X
  obtain ⟨hx, hb, hml, hown, hts, hK, hA, hSt, hNe, hlk, hR⟩ := B
  intro H locs ls hP hD hS hl
  exact lv_istore hx hb hd hl hn hl' (fun ls' hl2 => k H locs ls' hP hD hS hl2)
theorem g_lload_n (B : Bd E X cc own nL fr lo mc ms) {k0 : Fin 4} {i : Nat} {x : Int64} (hd : decode cc pc = .ok (.lload_n k0, 1)) (hi : (k0 : Nat) = i) (j : Nat) (hj : lv[j]? = some (i, .long x)) (k : G E X nL ws nc ns lv (pc + 1) (.long x :: st)) : G E X nL ws nc ns lv pc (st) := by
  obtain ⟨p, e, s, m, args, below, meth, c, R, A, Q⟩ := X
  obtain ⟨hx, hb, hml, hown, hts, hK, hA, hSt, hNe, hlk, hR⟩ := B
  intro H locs ls hP hD hS hl
  exact lv_lload_n hx hb hd hi (lv_at hl j hj) (k H locs ls hP hD hS hl)
theorem g_lload (B : Bd E X cc own nL fr lo mc ms) {i : Nat} {x : Int64} (hd : decode cc pc = .ok (.lload i, 2)) (j : Nat) (hj : lv[j]? = some (i, .long x)) (k : G E X nL ws nc ns lv (pc + 2) (.long x :: st)) : G E X nL ws nc ns lv pc (st) := by
  obtain ⟨p, e, s, m, args, below, meth, c, R, A, Q⟩ := X
  obtain ⟨hx, hb, hml, hown, hts, hK, hA, hSt, hNe, hlk, hR⟩ := B
  intro H locs ls hP hD hS hl
  exact lv_lload hx hb hd (lv_at hl j hj) (k H locs ls hP hD hS hl)
theorem g_lstore_n (B : Bd E X cc own nL fr lo mc ms) {k0 : Fin 4} {i : Nat} {x : Int64} {lv' : List (Nat × Value)} (hd : decode cc pc = .ok (.lstore_n k0, 1)) (hi : (k0 : Nat) = i) (hn : i + 1 < nL) (hl' : (i, Value.long x) :: lv.filter (fun q => !(q.1 == i) && (!(q.1 == i + 1) && !(q.1 + 1 == i && q.2.category == 2))) = lv') (k : G E X nL ws nc ns lv' (pc + 1) st) : G E X nL ws nc ns lv pc (.long x :: st) := by
  obtain ⟨p, e, s, m, args, below, meth, c, R, A, Q⟩ := X
  obtain ⟨hx, hb, hml, hown, hts, hK, hA, hSt, hNe, hlk, hR⟩ := B
  intro H locs ls hP hD hS hl
  exact lv_lstore_n hx hb hd hi hl hn hl' (fun ls' hl2 => k H locs ls' hP hD hS hl2)
theorem g_lstore (B : Bd E X cc own nL fr lo mc ms) {i : Nat} {x : Int64} {lv' : List (Nat × Value)} (hd : decode cc pc = .ok (.lstore i, 2)) (hn : i + 1 < nL) (hl' : (i, Value.long x) :: lv.filter (fun q => !(q.1 == i) && (!(q.1 == i + 1) && !(q.1 + 1 == i && q.2.category == 2))) = lv') (k : G E X nL ws nc ns lv' (pc + 2) st) : G E X nL ws nc ns lv pc (.long x :: st) := by
  obtain ⟨p, e, s, m, args, below, meth, c, R, A, Q⟩ := X
  obtain ⟨hx, hb, hml, hown, hts, hK, hA, hSt, hNe, hlk, hR⟩ := B
  intro H locs ls hP hD hS hl
  exact lv_lstore hx hb hd hl hn hl' (fun ls' hl2 => k H locs ls' hP hD hS hl2)
theorem g_aload_n (B : Bd E X cc own nL fr lo mc ms) {k0 : Fin 4} {i : Nat} {x : Nat} (hd : decode cc pc = .ok (.aload_n k0, 1)) (hi : (k0 : Nat) = i) (j : Nat) (hj : lv[j]? = some (i, .ref x)) (k : G E X nL ws nc ns lv (pc + 1) (.ref x :: st)) : G E X nL ws nc ns lv pc (st) := by
  obtain ⟨p, e, s, m, args, below, meth, c, R, A, Q⟩ := X
  obtain ⟨hx, hb, hml, hown, hts, hK, hA, hSt, hNe, hlk, hR⟩ := B
  intro H locs ls hP hD hS hl
  exact lv_aload_n hx hb hd hi (lv_at hl j hj) (k H locs ls hP hD hS hl)
theorem g_aload (B : Bd E X cc own nL fr lo mc ms) {i : Nat} {x : Nat} (hd : decode cc pc = .ok (.aload i, 2)) (j : Nat) (hj : lv[j]? = some (i, .ref x)) (k : G E X nL ws nc ns lv (pc + 2) (.ref x :: st)) : G E X nL ws nc ns lv pc (st) := by
  obtain ⟨p, e, s, m, args, below, meth, c, R, A, Q⟩ := X
  obtain ⟨hx, hb, hml, hown, hts, hK, hA, hSt, hNe, hlk, hR⟩ := B
  intro H locs ls hP hD hS hl
  exact lv_aload hx hb hd (lv_at hl j hj) (k H locs ls hP hD hS hl)
theorem g_astore_n (B : Bd E X cc own nL fr lo mc ms) {k0 : Fin 4} {i : Nat} {x : Nat} {lv' : List (Nat × Value)} (hd : decode cc pc = .ok (.astore_n k0, 1)) (hi : (k0 : Nat) = i) (hn : i < nL) (hl' : (i, Value.ref x) :: lv.filter (fun q => !(q.1 == i) && !(q.1 + 1 == i && q.2.category == 2)) = lv') (k : G E X nL ws nc ns lv' (pc + 1) st) : G E X nL ws nc ns lv pc (.ref x :: st) := by
  obtain ⟨p, e, s, m, args, below, meth, c, R, A, Q⟩ := X
  obtain ⟨hx, hb, hml, hown, hts, hK, hA, hSt, hNe, hlk, hR⟩ := B
  intro H locs ls hP hD hS hl
  exact lv_astore_n hx hb hd hi hl hn hl' (fun ls' hl2 => k H locs ls' hP hD hS hl2)
theorem g_astore (B : Bd E X cc own nL fr lo mc ms) {i : Nat} {x : Nat} {lv' : List (Nat × Value)} (hd : decode cc pc = .ok (.astore i, 2)) (hn : i < nL) (hl' : (i, Value.ref x) :: lv.filter (fun q => !(q.1 == i) && !(q.1 + 1 == i && q.2.category == 2)) = lv') (k : G E X nL ws nc ns lv' (pc + 2) st) : G E X nL ws nc ns lv pc (.ref x :: st) := by
  obtain ⟨p, e, s, m, args, below, meth, c, R, A, Q⟩ := X
  obtain ⟨hx, hb, hml, hown, hts, hK, hA, hSt, hNe, hlk, hR⟩ := B
  intro H locs ls hP hD hS hl
  exact lv_astore hx hb hd hl hn hl' (fun ls' hl2 => k H locs ls' hP hD hS hl2)
theorem g_iinc (B : Bd E X cc own nL fr lo mc ms) {i : Nat} {n : Int} {x v : Int32} {lv' : List (Nat × Value)} (hd : decode cc pc = .ok (.iinc i n, 3)) (j : Nat) (hj : lv[j]? = some (i, .int x)) (hv : x + Int32.ofInt n = v) (hn : i < nL) (hl' : (i, Value.int v) :: lv.filter (fun q => !(q.1 == i) && !(q.1 + 1 == i && q.2.category == 2)) = lv') (k : G E X nL ws nc ns lv' (pc + 3) st) : G E X nL ws nc ns lv pc st := by
  obtain ⟨p, e, s, m, args, below, meth, c, R, A, Q⟩ := X
  obtain ⟨hx, hb, hml, hown, hts, hK, hA, hSt, hNe, hlk, hR⟩ := B
  intro H locs ls hP hD hS hl
  exact lv_iinc hx hb hd hl hj hv hn hl' (fun ls' hl2 => k H locs ls' hP hD hS hl2)
theorem g_iadd (B : Bd E X cc own nL fr lo mc ms) {x y : Int32} (hd : decode cc pc = .ok (.iadd, 1))  (k : G E X nL ws nc ns lv (pc + 1) (.int (x + y) :: st)) : G E X nL ws nc ns lv pc (.int y :: .int x :: st) := by
  obtain ⟨p, e, s, m, args, below, meth, c, R, A, Q⟩ := X
  obtain ⟨hx, hb, hml, hown, hts, hK, hA, hSt, hNe, hlk, hR⟩ := B
  intro H locs ls hP hD hS hl
  exact lv_iadd hx hb hd  (k H locs ls hP hD hS hl)
theorem g_isub (B : Bd E X cc own nL fr lo mc ms) {x y : Int32} (hd : decode cc pc = .ok (.isub, 1))  (k : G E X nL ws nc ns lv (pc + 1) (.int (x - y) :: st)) : G E X nL ws nc ns lv pc (.int y :: .int x :: st) := by
  obtain ⟨p, e, s, m, args, below, meth, c, R, A, Q⟩ := X
  obtain ⟨hx, hb, hml, hown, hts, hK, hA, hSt, hNe, hlk, hR⟩ := B
  intro H locs ls hP hD hS hl
  exact lv_isub hx hb hd  (k H locs ls hP hD hS hl)
theorem g_imul (B : Bd E X cc own nL fr lo mc ms) {x y : Int32} (hd : decode cc pc = .ok (.imul, 1))  (k : G E X nL ws nc ns lv (pc + 1) (.int (x * y) :: st)) : G E X nL ws nc ns lv pc (.int y :: .int x :: st) := by
  obtain ⟨p, e, s, m, args, below, meth, c, R, A, Q⟩ := X
  obtain ⟨hx, hb, hml, hown, hts, hK, hA, hSt, hNe, hlk, hR⟩ := B
  intro H locs ls hP hD hS hl
  exact lv_imul hx hb hd  (k H locs ls hP hD hS hl)
theorem g_iand (B : Bd E X cc own nL fr lo mc ms) {x y : Int32} (hd : decode cc pc = .ok (.iand, 1))  (k : G E X nL ws nc ns lv (pc + 1) (.int (x &&& y) :: st)) : G E X nL ws nc ns lv pc (.int y :: .int x :: st) := by
  obtain ⟨p, e, s, m, args, below, meth, c, R, A, Q⟩ := X
  obtain ⟨hx, hb, hml, hown, hts, hK, hA, hSt, hNe, hlk, hR⟩ := B
  intro H locs ls hP hD hS hl
  exact lv_iand hx hb hd  (k H locs ls hP hD hS hl)
theorem g_ior (B : Bd E X cc own nL fr lo mc ms) {x y : Int32} (hd : decode cc pc = .ok (.ior, 1))  (k : G E X nL ws nc ns lv (pc + 1) (.int (x ||| y) :: st)) : G E X nL ws nc ns lv pc (.int y :: .int x :: st) := by
  obtain ⟨p, e, s, m, args, below, meth, c, R, A, Q⟩ := X
  obtain ⟨hx, hb, hml, hown, hts, hK, hA, hSt, hNe, hlk, hR⟩ := B
  intro H locs ls hP hD hS hl
  exact lv_ior hx hb hd  (k H locs ls hP hD hS hl)
theorem g_ixor (B : Bd E X cc own nL fr lo mc ms) {x y : Int32} (hd : decode cc pc = .ok (.ixor, 1))  (k : G E X nL ws nc ns lv (pc + 1) (.int (x ^^^ y) :: st)) : G E X nL ws nc ns lv pc (.int y :: .int x :: st) := by
  obtain ⟨p, e, s, m, args, below, meth, c, R, A, Q⟩ := X
  obtain ⟨hx, hb, hml, hown, hts, hK, hA, hSt, hNe, hlk, hR⟩ := B
  intro H locs ls hP hD hS hl
  exact lv_ixor hx hb hd  (k H locs ls hP hD hS hl)
theorem g_ishl (B : Bd E X cc own nL fr lo mc ms) {x y : Int32} (hd : decode cc pc = .ok (.ishl, 1))  (k : G E X nL ws nc ns lv (pc + 1) (.int (x <<< (y &&& 31)) :: st)) : G E X nL ws nc ns lv pc (.int y :: .int x :: st) := by
  obtain ⟨p, e, s, m, args, below, meth, c, R, A, Q⟩ := X
  obtain ⟨hx, hb, hml, hown, hts, hK, hA, hSt, hNe, hlk, hR⟩ := B
  intro H locs ls hP hD hS hl
  exact lv_ishl hx hb hd  (k H locs ls hP hD hS hl)
theorem g_ishr (B : Bd E X cc own nL fr lo mc ms) {x y : Int32} (hd : decode cc pc = .ok (.ishr, 1))  (k : G E X nL ws nc ns lv (pc + 1) (.int (x >>> (y &&& 31)) :: st)) : G E X nL ws nc ns lv pc (.int y :: .int x :: st) := by
  obtain ⟨p, e, s, m, args, below, meth, c, R, A, Q⟩ := X
  obtain ⟨hx, hb, hml, hown, hts, hK, hA, hSt, hNe, hlk, hR⟩ := B
  intro H locs ls hP hD hS hl
  exact lv_ishr hx hb hd  (k H locs ls hP hD hS hl)
theorem g_idiv (B : Bd E X cc own nL fr lo mc ms) {x y : Int32} (hd : decode cc pc = .ok (.idiv, 1)) (hne : ¬ y = 0) (k : G E X nL ws nc ns lv (pc + 1) (.int (x / y) :: st)) : G E X nL ws nc ns lv pc (.int y :: .int x :: st) := by
  obtain ⟨p, e, s, m, args, below, meth, c, R, A, Q⟩ := X
  obtain ⟨hx, hb, hml, hown, hts, hK, hA, hSt, hNe, hlk, hR⟩ := B
  intro H locs ls hP hD hS hl
  exact lv_idiv hx hb hd hne (k H locs ls hP hD hS hl)
theorem g_irem (B : Bd E X cc own nL fr lo mc ms) {x y : Int32} (hd : decode cc pc = .ok (.irem, 1)) (hne : ¬ y = 0) (k : G E X nL ws nc ns lv (pc + 1) (.int (x - x / y * y) :: st)) : G E X nL ws nc ns lv pc (.int y :: .int x :: st) := by
  obtain ⟨p, e, s, m, args, below, meth, c, R, A, Q⟩ := X
  obtain ⟨hx, hb, hml, hown, hts, hK, hA, hSt, hNe, hlk, hR⟩ := B
  intro H locs ls hP hD hS hl
  exact lv_irem hx hb hd hne (k H locs ls hP hD hS hl)
theorem g_iushr (B : Bd E X cc own nL fr lo mc ms) {x y : Int32} (hd : decode cc pc = .ok (.iushr, 1))  (k : G E X nL ws nc ns lv (pc + 1) (.int ((x.toUInt32 >>> (y.toUInt32 &&& Int32.toUInt32 31)).toInt32) :: st)) : G E X nL ws nc ns lv pc (.int y :: .int x :: st) := by
  obtain ⟨p, e, s, m, args, below, meth, c, R, A, Q⟩ := X
  obtain ⟨hx, hb, hml, hown, hts, hK, hA, hSt, hNe, hlk, hR⟩ := B
  intro H locs ls hP hD hS hl
  exact lv_iushr hx hb hd rfl (k H locs ls hP hD hS hl)
theorem g_ineg (B : Bd E X cc own nL fr lo mc ms) {x : Int32} (hd : decode cc pc = .ok (.ineg, 1))  (k : G E X nL ws nc ns lv (pc + 1) (.int (-x) :: st)) : G E X nL ws nc ns lv pc (.int x :: st) := by
  obtain ⟨p, e, s, m, args, below, meth, c, R, A, Q⟩ := X
  obtain ⟨hx, hb, hml, hown, hts, hK, hA, hSt, hNe, hlk, hR⟩ := B
  intro H locs ls hP hD hS hl
  exact lv_ineg hx hb hd  (k H locs ls hP hD hS hl)
theorem g_ladd (B : Bd E X cc own nL fr lo mc ms) {x y : Int64} (hd : decode cc pc = .ok (.ladd, 1))  (k : G E X nL ws nc ns lv (pc + 1) (.long (x + y) :: st)) : G E X nL ws nc ns lv pc (.long y :: .long x :: st) := by
  obtain ⟨p, e, s, m, args, below, meth, c, R, A, Q⟩ := X
  obtain ⟨hx, hb, hml, hown, hts, hK, hA, hSt, hNe, hlk, hR⟩ := B
  intro H locs ls hP hD hS hl
  exact lv_ladd hx hb hd  (k H locs ls hP hD hS hl)
theorem g_lsub (B : Bd E X cc own nL fr lo mc ms) {x y : Int64} (hd : decode cc pc = .ok (.lsub, 1))  (k : G E X nL ws nc ns lv (pc + 1) (.long (x - y) :: st)) : G E X nL ws nc ns lv pc (.long y :: .long x :: st) := by
  obtain ⟨p, e, s, m, args, below, meth, c, R, A, Q⟩ := X
  obtain ⟨hx, hb, hml, hown, hts, hK, hA, hSt, hNe, hlk, hR⟩ := B
  intro H locs ls hP hD hS hl
  exact lv_lsub hx hb hd  (k H locs ls hP hD hS hl)
theorem g_lmul (B : Bd E X cc own nL fr lo mc ms) {x y : Int64} (hd : decode cc pc = .ok (.lmul, 1))  (k : G E X nL ws nc ns lv (pc + 1) (.long (x * y) :: st)) : G E X nL ws nc ns lv pc (.long y :: .long x :: st) := by
  obtain ⟨p, e, s, m, args, below, meth, c, R, A, Q⟩ := X
  obtain ⟨hx, hb, hml, hown, hts, hK, hA, hSt, hNe, hlk, hR⟩ := B
  intro H locs ls hP hD hS hl
  exact lv_lmul hx hb hd  (k H locs ls hP hD hS hl)
theorem g_land (B : Bd E X cc own nL fr lo mc ms) {x y : Int64} (hd : decode cc pc = .ok (.land, 1))  (k : G E X nL ws nc ns lv (pc + 1) (.long (x &&& y) :: st)) : G E X nL ws nc ns lv pc (.long y :: .long x :: st) := by
  obtain ⟨p, e, s, m, args, below, meth, c, R, A, Q⟩ := X
  obtain ⟨hx, hb, hml, hown, hts, hK, hA, hSt, hNe, hlk, hR⟩ := B
  intro H locs ls hP hD hS hl
  exact lv_land hx hb hd  (k H locs ls hP hD hS hl)
theorem g_lor (B : Bd E X cc own nL fr lo mc ms) {x y : Int64} (hd : decode cc pc = .ok (.lor, 1))  (k : G E X nL ws nc ns lv (pc + 1) (.long (x ||| y) :: st)) : G E X nL ws nc ns lv pc (.long y :: .long x :: st) := by
  obtain ⟨p, e, s, m, args, below, meth, c, R, A, Q⟩ := X
  obtain ⟨hx, hb, hml, hown, hts, hK, hA, hSt, hNe, hlk, hR⟩ := B
  intro H locs ls hP hD hS hl
  exact lv_lor hx hb hd  (k H locs ls hP hD hS hl)
theorem g_ldiv (B : Bd E X cc own nL fr lo mc ms) {x y : Int64} (hd : decode cc pc = .ok (.ldiv, 1)) (hne : ¬ y = 0) (k : G E X nL ws nc ns lv (pc + 1) (.long (x / y) :: st)) : G E X nL ws nc ns lv pc (.long y :: .long x :: st) := by
  obtain ⟨p, e, s, m, args, below, meth, c, R, A, Q⟩ := X
  obtain ⟨hx, hb, hml, hown, hts, hK, hA, hSt, hNe, hlk, hR⟩ := B
  intro H locs ls hP hD hS hl
  exact lv_ldiv hx hb hd hne (k H locs ls hP hD hS hl)
theorem g_lneg (B : Bd E X cc own nL fr lo mc ms) {x : Int64} (hd : decode cc pc = .ok (.lneg, 1))  (k : G E X nL ws nc ns lv (pc + 1) (.long (-x) :: st)) : G E X nL ws nc ns lv pc (.long x :: st) := by
  obtain ⟨p, e, s, m, args, below, meth, c, R, A, Q⟩ := X
  obtain ⟨hx, hb, hml, hown, hts, hK, hA, hSt, hNe, hlk, hR⟩ := B
  intro H locs ls hP hD hS hl
  exact lv_lneg hx hb hd  (k H locs ls hP hD hS hl)
theorem g_lshl (B : Bd E X cc own nL fr lo mc ms) {x : Int64} {y : Int32} (hd : decode cc pc = .ok (.lshl, 1))  (k : G E X nL ws nc ns lv (pc + 1) (.long (x <<< (y.toInt64 &&& 63)) :: st)) : G E X nL ws nc ns lv pc (.int y :: .long x :: st) := by
  obtain ⟨p, e, s, m, args, below, meth, c, R, A, Q⟩ := X
  obtain ⟨hx, hb, hml, hown, hts, hK, hA, hSt, hNe, hlk, hR⟩ := B
  intro H locs ls hP hD hS hl
  exact lv_lshl hx hb hd rfl (k H locs ls hP hD hS hl)
theorem g_lshr (B : Bd E X cc own nL fr lo mc ms) {x : Int64} {y : Int32} (hd : decode cc pc = .ok (.lshr, 1))  (k : G E X nL ws nc ns lv (pc + 1) (.long (x >>> (y.toInt64 &&& 63)) :: st)) : G E X nL ws nc ns lv pc (.int y :: .long x :: st) := by
  obtain ⟨p, e, s, m, args, below, meth, c, R, A, Q⟩ := X
  obtain ⟨hx, hb, hml, hown, hts, hK, hA, hSt, hNe, hlk, hR⟩ := B
  intro H locs ls hP hD hS hl
  exact lv_lshr hx hb hd rfl (k H locs ls hP hD hS hl)
theorem g_lushr (B : Bd E X cc own nL fr lo mc ms) {x : Int64} {y : Int32} (hd : decode cc pc = .ok (.lushr, 1))  (k : G E X nL ws nc ns lv (pc + 1) (.long ((x.toUInt64 >>> (y.toInt64.toUInt64 &&& Int64.toUInt64 63)).toInt64) :: st)) : G E X nL ws nc ns lv pc (.int y :: .long x :: st) := by
  obtain ⟨p, e, s, m, args, below, meth, c, R, A, Q⟩ := X
  obtain ⟨hx, hb, hml, hown, hts, hK, hA, hSt, hNe, hlk, hR⟩ := B
  intro H locs ls hP hD hS hl
  exact lv_lushr hx hb hd rfl (k H locs ls hP hD hS hl)
theorem g_lcmp (B : Bd E X cc own nL fr lo mc ms) {x y : Int64} (hd : decode cc pc = .ok (.lcmp, 1))  (k : G E X nL ws nc ns lv (pc + 1) (.int (lg_cmp x y) :: st)) : G E X nL ws nc ns lv pc (.long y :: .long x :: st) := by
  obtain ⟨p, e, s, m, args, below, meth, c, R, A, Q⟩ := X
  obtain ⟨hx, hb, hml, hown, hts, hK, hA, hSt, hNe, hlk, hR⟩ := B
  intro H locs ls hP hD hS hl
  exact W.lcmp hx hb hd  (k H locs ls hP hD hS hl)
theorem g_i2l (B : Bd E X cc own nL fr lo mc ms) {x : Int32} (hd : decode cc pc = .ok (.i2l, 1))  (k : G E X nL ws nc ns lv (pc + 1) (.long x.toInt64 :: st)) : G E X nL ws nc ns lv pc (.int x :: st) := by
  obtain ⟨p, e, s, m, args, below, meth, c, R, A, Q⟩ := X
  obtain ⟨hx, hb, hml, hown, hts, hK, hA, hSt, hNe, hlk, hR⟩ := B
  intro H locs ls hP hD hS hl
  exact lv_i2l hx hb hd rfl (k H locs ls hP hD hS hl)
theorem g_l2i (B : Bd E X cc own nL fr lo mc ms) {x : Int64} (hd : decode cc pc = .ok (.l2i, 1))  (k : G E X nL ws nc ns lv (pc + 1) (.int x.toInt32 :: st)) : G E X nL ws nc ns lv pc (.long x :: st) := by
  obtain ⟨p, e, s, m, args, below, meth, c, R, A, Q⟩ := X
  obtain ⟨hx, hb, hml, hown, hts, hK, hA, hSt, hNe, hlk, hR⟩ := B
  intro H locs ls hP hD hS hl
  exact lv_l2i hx hb hd rfl (k H locs ls hP hD hS hl)
theorem g_i2b (B : Bd E X cc own nL fr lo mc ms) {x : Int32} (hd : decode cc pc = .ok (.i2b, 1))  (k : G E X nL ws nc ns lv (pc + 1) (.int x.toInt8.toInt32 :: st)) : G E X nL ws nc ns lv pc (.int x :: st) := by
  obtain ⟨p, e, s, m, args, below, meth, c, R, A, Q⟩ := X
  obtain ⟨hx, hb, hml, hown, hts, hK, hA, hSt, hNe, hlk, hR⟩ := B
  intro H locs ls hP hD hS hl
  exact lv_i2b hx hb hd rfl (k H locs ls hP hD hS hl)
theorem g_dup (B : Bd E X cc own nL fr lo mc ms) {va : Value} (hd : decode cc pc = .ok (.dup, 1)) (hva : va.category = 1) (k : G E X nL ws nc ns lv (pc + 1) (va :: va :: st)) : G E X nL ws nc ns lv pc (va :: st) := by
  obtain ⟨p, e, s, m, args, below, meth, c, R, A, Q⟩ := X
  obtain ⟨hx, hb, hml, hown, hts, hK, hA, hSt, hNe, hlk, hR⟩ := B
  intro H locs ls hP hD hS hl
  exact lv_dup hx hb hd hva (k H locs ls hP hD hS hl)
theorem g_pop (B : Bd E X cc own nL fr lo mc ms) {va : Value} (hd : decode cc pc = .ok (.pop, 1)) (hva : va.category = 1) (k : G E X nL ws nc ns lv (pc + 1) (st)) : G E X nL ws nc ns lv pc (va :: st) := by
  obtain ⟨p, e, s, m, args, below, meth, c, R, A, Q⟩ := X
  obtain ⟨hx, hb, hml, hown, hts, hK, hA, hSt, hNe, hlk, hR⟩ := B
  intro H locs ls hP hD hS hl
  exact lv_pop hx hb hd hva (k H locs ls hP hD hS hl)
theorem g_dup2_11 (B : Bd E X cc own nL fr lo mc ms) {va vb : Value} (hd : decode cc pc = .ok (.dup2, 1)) (hva : va.category = 1) (hvb : vb.category = 1) (k : G E X nL ws nc ns lv (pc + 1) (va :: vb :: va :: vb :: st)) : G E X nL ws nc ns lv pc (va :: vb :: st) := by
  obtain ⟨p, e, s, m, args, below, meth, c, R, A, Q⟩ := X
  obtain ⟨hx, hb, hml, hown, hts, hK, hA, hSt, hNe, hlk, hR⟩ := B
  intro H locs ls hP hD hS hl
  exact lv_dup2_11 hx hb hd hva hvb (k H locs ls hP hD hS hl)
theorem g_dup2_2 (B : Bd E X cc own nL fr lo mc ms) {va : Value} (hd : decode cc pc = .ok (.dup2, 1)) (hva : va.category = 2) (k : G E X nL ws nc ns lv (pc + 1) (va :: va :: st)) : G E X nL ws nc ns lv pc (va :: st) := by
  obtain ⟨p, e, s, m, args, below, meth, c, R, A, Q⟩ := X
  obtain ⟨hx, hb, hml, hown, hts, hK, hA, hSt, hNe, hlk, hR⟩ := B
  intro H locs ls hP hD hS hl
  exact lv_dup2_2 hx hb hd hva (k H locs ls hP hD hS hl)
theorem g_if_eq (B : Bd E X cc own nL fr lo mc ms) {x : Int32} {off : Int} {tgt : Nat} (hd : decode cc pc = .ok (.ifCond .eq off, 3)) (ht : (pc : Int) + off = (tgt : Int)) (kt : x = 0 → G E X nL ws nc ns lv tgt st) (kf : ¬ (x = 0) → G E X nL ws nc ns lv (pc + 3) st) : G E X nL ws nc ns lv pc (.int x :: st) := by
  obtain ⟨p, e, s, m, args, below, meth, c, R, A, Q⟩ := X
  obtain ⟨hx, hb, hml, hown, hts, hK, hA, hSt, hNe, hlk, hR⟩ := B
  intro H locs ls hP hD hS hl
  exact lv_if_eq hx hb hd ht (fun h => kt h H locs ls hP hD hS hl) (fun h => kf h H locs ls hP hD hS hl)
theorem g_icmp_eq (B : Bd E X cc own nL fr lo mc ms) {x y : Int32} {off : Int} {tgt : Nat} (hd : decode cc pc = .ok (.if_icmp .eq off, 3)) (ht : (pc : Int) + off = (tgt : Int)) (kt : x = y → G E X nL ws nc ns lv tgt st) (kf : ¬ (x = y) → G E X nL ws nc ns lv (pc + 3) st) : G E X nL ws nc ns lv pc (.int y :: .int x :: st) := by
  obtain ⟨p, e, s, m, args, below, meth, c, R, A, Q⟩ := X
  obtain ⟨hx, hb, hml, hown, hts, hK, hA, hSt, hNe, hlk, hR⟩ := B
  intro H locs ls hP hD hS hl
  exact lv_icmp_eq hx hb hd ht (fun h => kt h H locs ls hP hD hS hl) (fun h => kf h H locs ls hP hD hS hl)
theorem g_if_ne (B : Bd E X cc own nL fr lo mc ms) {x : Int32} {off : Int} {tgt : Nat} (hd : decode cc pc = .ok (.ifCond .ne off, 3)) (ht : (pc : Int) + off = (tgt : Int)) (kt : ¬ x = 0 → G E X nL ws nc ns lv tgt st) (kf : x = 0 → G E X nL ws nc ns lv (pc + 3) st) : G E X nL ws nc ns lv pc (.int x :: st) := by
  obtain ⟨p, e, s, m, args, below, meth, c, R, A, Q⟩ := X
  obtain ⟨hx, hb, hml, hown, hts, hK, hA, hSt, hNe, hlk, hR⟩ := B
  intro H locs ls hP hD hS hl
  exact lv_if_ne hx hb hd ht (fun h => kt h H locs ls hP hD hS hl) (fun h => kf h H locs ls hP hD hS hl)
theorem g_icmp_ne (B : Bd E X cc own nL fr lo mc ms) {x y : Int32} {off : Int} {tgt : Nat} (hd : decode cc pc = .ok (.if_icmp .ne off, 3)) (ht : (pc : Int) + off = (tgt : Int)) (kt : ¬ x = y → G E X nL ws nc ns lv tgt st) (kf : x = y → G E X nL ws nc ns lv (pc + 3) st) : G E X nL ws nc ns lv pc (.int y :: .int x :: st) := by
  obtain ⟨p, e, s, m, args, below, meth, c, R, A, Q⟩ := X
  obtain ⟨hx, hb, hml, hown, hts, hK, hA, hSt, hNe, hlk, hR⟩ := B
  intro H locs ls hP hD hS hl
  exact lv_icmp_ne hx hb hd ht (fun h => kt h H locs ls hP hD hS hl) (fun h => kf h H locs ls hP hD hS hl)
theorem g_if_lt (B : Bd E X cc own nL fr lo mc ms) {x : Int32} {off : Int} {tgt : Nat} (hd : decode cc pc = .ok (.ifCond .lt off, 3)) (ht : (pc : Int) + off = (tgt : Int)) (kt : x < 0 → G E X nL ws nc ns lv tgt st) (kf : ¬ (x < 0) → G E X nL ws nc ns lv (pc + 3) st) : G E X nL ws nc ns lv pc (.int x :: st) := by
  obtain ⟨p, e, s, m, args, below, meth, c, R, A, Q⟩ := X
  obtain ⟨hx, hb, hml, hown, hts, hK, hA, hSt, hNe, hlk, hR⟩ := B
  intro H locs ls hP hD hS hl
  exact lv_if_lt hx hb hd ht (fun h => kt h H locs ls hP hD hS hl) (fun h => kf h H locs ls hP hD hS hl)
theorem g_icmp_lt (B : Bd E X cc own nL fr lo mc ms) {x y : Int32} {off : Int} {tgt : Nat} (hd : decode cc pc = .ok (.if_icmp .lt off, 3)) (ht : (pc : Int) + off = (tgt : Int)) (kt : x < y → G E X nL ws nc ns lv tgt st) (kf : ¬ (x < y) → G E X nL ws nc ns lv (pc + 3) st) : G E X nL ws nc ns lv pc (.int y :: .int x :: st) := by
  obtain ⟨p, e, s, m, args, below, meth, c, R, A, Q⟩ := X
  obtain ⟨hx, hb, hml, hown, hts, hK, hA, hSt, hNe, hlk, hR⟩ := B
  intro H locs ls hP hD hS hl
  exact lv_icmp_lt hx hb hd ht (fun h => kt h H locs ls hP hD hS hl) (fun h => kf h H locs ls hP hD hS hl)
theorem g_if_ge (B : Bd E X cc own nL fr lo mc ms) {x : Int32} {off : Int} {tgt : Nat} (hd : decode cc pc = .ok (.ifCond .ge off, 3)) (ht : (pc : Int) + off = (tgt : Int)) (kt : 0 ≤ x → G E X nL ws nc ns lv tgt st) (kf : ¬ (0 ≤ x) → G E X nL ws nc ns lv (pc + 3) st) : G E X nL ws nc ns lv pc (.int x :: st) := by
  obtain ⟨p, e, s, m, args, below, meth, c, R, A, Q⟩ := X
  obtain ⟨hx, hb, hml, hown, hts, hK, hA, hSt, hNe, hlk, hR⟩ := B
  intro H locs ls hP hD hS hl
  exact lv_if_ge hx hb hd ht (fun h => kt h H locs ls hP hD hS hl) (fun h => kf h H locs ls hP hD hS hl)
theorem g_icmp_ge (B : Bd E X cc own nL fr lo mc ms) {x y : Int32} {off : Int} {tgt : Nat} (hd : decode cc pc = .ok (.if_icmp .ge off, 3)) (ht : (pc : Int) + off = (tgt : Int)) (kt : y ≤ x → G E X nL ws nc ns lv tgt st) (kf : ¬ (y ≤ x) → G E X nL ws nc ns lv (pc + 3) st) : G E X nL ws nc ns lv pc (.int y :: .int x :: st) := by
  obtain ⟨p, e, s, m, args, below, meth, c, R, A, Q⟩ := X
  obtain ⟨hx, hb, hml, hown, hts, hK, hA, hSt, hNe, hlk, hR⟩ := B
  intro H locs ls hP hD hS hl
  exact lv_icmp_ge hx hb hd ht (fun h => kt h H locs ls hP hD hS hl) (fun h => kf h H locs ls hP hD hS hl)
theorem g_if_gt (B : Bd E X cc own nL fr lo mc ms) {x : Int32} {off : Int} {tgt : Nat} (hd : decode cc pc = .ok (.ifCond .gt off, 3)) (ht : (pc : Int) + off = (tgt : Int)) (kt : 0 < x → G E X nL ws nc ns lv tgt st) (kf : ¬ (0 < x) → G E X nL ws nc ns lv (pc + 3) st) : G E X nL ws nc ns lv pc (.int x :: st) := by
  obtain ⟨p, e, s, m, args, below, meth, c, R, A, Q⟩ := X
  obtain ⟨hx, hb, hml, hown, hts, hK, hA, hSt, hNe, hlk, hR⟩ := B
  intro H locs ls hP hD hS hl
  exact lv_if_gt hx hb hd ht (fun h => kt h H locs ls hP hD hS hl) (fun h => kf h H locs ls hP hD hS hl)
theorem g_icmp_gt (B : Bd E X cc own nL fr lo mc ms) {x y : Int32} {off : Int} {tgt : Nat} (hd : decode cc pc = .ok (.if_icmp .gt off, 3)) (ht : (pc : Int) + off = (tgt : Int)) (kt : y < x → G E X nL ws nc ns lv tgt st) (kf : ¬ (y < x) → G E X nL ws nc ns lv (pc + 3) st) : G E X nL ws nc ns lv pc (.int y :: .int x :: st) := by
  obtain ⟨p, e, s, m, args, below, meth, c, R, A, Q⟩ := X
  obtain ⟨hx, hb, hml, hown, hts, hK, hA, hSt, hNe, hlk, hR⟩ := B
  intro H locs ls hP hD hS hl
  exact lv_icmp_gt hx hb hd ht (fun h => kt h H locs ls hP hD hS hl) (fun h => kf h H locs ls hP hD hS hl)
theorem g_if_le (B : Bd E X cc own nL fr lo mc ms) {x : Int32} {off : Int} {tgt : Nat} (hd : decode cc pc = .ok (.ifCond .le off, 3)) (ht : (pc : Int) + off = (tgt : Int)) (kt : x ≤ 0 → G E X nL ws nc ns lv tgt st) (kf : ¬ (x ≤ 0) → G E X nL ws nc ns lv (pc + 3) st) : G E X nL ws nc ns lv pc (.int x :: st) := by
  obtain ⟨p, e, s, m, args, below, meth, c, R, A, Q⟩ := X
  obtain ⟨hx, hb, hml, hown, hts, hK, hA, hSt, hNe, hlk, hR⟩ := B
  intro H locs ls hP hD hS hl
  exact lv_if_le hx hb hd ht (fun h => kt h H locs ls hP hD hS hl) (fun h => kf h H locs ls hP hD hS hl)
theorem g_icmp_le (B : Bd E X cc own nL fr lo mc ms) {x y : Int32} {off : Int} {tgt : Nat} (hd : decode cc pc = .ok (.if_icmp .le off, 3)) (ht : (pc : Int) + off = (tgt : Int)) (kt : x ≤ y → G E X nL ws nc ns lv tgt st) (kf : ¬ (x ≤ y) → G E X nL ws nc ns lv (pc + 3) st) : G E X nL ws nc ns lv pc (.int y :: .int x :: st) := by
  obtain ⟨p, e, s, m, args, below, meth, c, R, A, Q⟩ := X
  obtain ⟨hx, hb, hml, hown, hts, hK, hA, hSt, hNe, hlk, hR⟩ := B
  intro H locs ls hP hD hS hl
  exact lv_icmp_le hx hb hd ht (fun h => kt h H locs ls hP hD hS hl) (fun h => kf h H locs ls hP hD hS hl)
theorem g_goto (B : Bd E X cc own nL fr lo mc ms) {off : Int} {tgt : Nat} (hd : decode cc pc = .ok (.goto off, 3)) (ht : (pc : Int) + off = (tgt : Int)) (k : G E X nL ws nc ns lv tgt st) : G E X nL ws nc ns lv pc st := by
  obtain ⟨p, e, s, m, args, below, meth, c, R, A, Q⟩ := X
  obtain ⟨hx, hb, hml, hown, hts, hK, hA, hSt, hNe, hlk, hR⟩ := B
  intro H locs ls hP hD hS hl
  exact lv_goto hx hb hd ht (k H locs ls hP hD hS hl)
theorem g_ifnull (B : Bd E X cc own nL fr lo mc ms) {x : Nat} {off : Int} (hd : decode cc pc = .ok (.ifnull off, 3)) (k : G E X nL ws nc ns lv (pc + 3) st) : G E X nL ws nc ns lv pc (.ref x :: st) := by
  obtain ⟨p, e, s, m, args, below, meth, c, R, A, Q⟩ := X
  obtain ⟨hx, hb, hml, hown, hts, hK, hA, hSt, hNe, hlk, hR⟩ := B
  intro H locs ls hP hD hS hl
  exact lv_ifnull hx hb hd (k H locs ls hP hD hS hl)
theorem g_ifnullN (B : Bd E X cc own nL fr lo mc ms) {off : Int} {tgt : Nat} (hd : decode cc pc = .ok (.ifnull off, 3)) (ht : (pc : Int) + off = (tgt : Int)) (k : G E X nL ws nc ns lv tgt st) : G E X nL ws nc ns lv pc (.null :: st) := by
  obtain ⟨p, e, s, m, args, below, meth, c, R, A, Q⟩ := X
  obtain ⟨hx, hb, hml, hown, hts, hK, hA, hSt, hNe, hlk, hR⟩ := B
  intro H locs ls hP hD hS hl
  exact lv_ifnullN hx hb hd ht (k H locs ls hP hD hS hl)
theorem g_ifnonnull (B : Bd E X cc own nL fr lo mc ms) {x : Nat} {off : Int} {tgt : Nat} (hd : decode cc pc = .ok (.ifnonnull off, 3)) (ht : (pc : Int) + off = (tgt : Int)) (k : G E X nL ws nc ns lv tgt st) : G E X nL ws nc ns lv pc (.ref x :: st) := by
  obtain ⟨p, e, s, m, args, below, meth, c, R, A, Q⟩ := X
  obtain ⟨hx, hb, hml, hown, hts, hK, hA, hSt, hNe, hlk, hR⟩ := B
  intro H locs ls hP hD hS hl
  exact lv_ifnonnull hx hb hd ht (k H locs ls hP hD hS hl)
theorem g_ifnonnullN (B : Bd E X cc own nL fr lo mc ms) {off : Int} (hd : decode cc pc = .ok (.ifnonnull off, 3)) (k : G E X nL ws nc ns lv (pc + 3) st) : G E X nL ws nc ns lv pc (.null :: st) := by
  obtain ⟨p, e, s, m, args, below, meth, c, R, A, Q⟩ := X
  obtain ⟨hx, hb, hml, hown, hts, hK, hA, hSt, hNe, hlk, hR⟩ := B
  intro H locs ls hP hD hS hl
  exact lv_ifnonnullN hx hb hd (k H locs ls hP hD hS hl)
theorem g_tableIn (B : Bd E X cc own nL fr lo mc ms) {dflt lo0 hi : Int} {offs : Array Int} {len : Nat} {x : Int32} {off : Int} {tgt : Nat} (hd : decode cc pc = .ok (.tableswitch dflt lo0 hi offs, len)) (h1 : ¬ x.toInt < lo0) (h2 : ¬ hi < x.toInt) (ho : offs[(x.toInt - lo0).toNat]? = some off) (ht : (pc : Int) + off = (tgt : Int)) (k : G E X nL ws nc ns lv tgt st) : G E X nL ws nc ns lv pc (.int x :: st) := by
  obtain ⟨p, e, s, m, args, below, meth, c, R, A, Q⟩ := X
  obtain ⟨hx, hb, hml, hown, hts, hK, hA, hSt, hNe, hlk, hR⟩ := B
  intro H locs ls hP hD hS hl
  exact lv_tableIn hx hb hd h1 h2 ho ht (k H locs ls hP hD hS hl)
theorem g_tableOut (B : Bd E X cc own nL fr lo mc ms) {dflt lo0 hi : Int} {offs : Array Int} {len : Nat} {x : Int32} {tgt : Nat} (hd : decode cc pc = .ok (.tableswitch dflt lo0 hi offs, len)) (h : x.toInt < lo0 ∨ hi < x.toInt) (ht : (pc : Int) + dflt = (tgt : Int)) (k : G E X nL ws nc ns lv tgt st) : G E X nL ws nc ns lv pc (.int x :: st) := by
  obtain ⟨p, e, s, m, args, below, meth, c, R, A, Q⟩ := X
  obtain ⟨hx, hb, hml, hown, hts, hK, hA, hSt, hNe, hlk, hR⟩ := B
  intro H locs ls hP hD hS hl
  exact lv_tableOut hx hb hd h ht (k H locs ls hP hD hS hl)
theorem g_topi {x : Int32} (k : ∀ y : Int32, y = x → G E X nL ws nc ns lv pc (.int y :: st)) : G E X nL ws nc ns lv pc (.int x :: st) := k x rfl
theorem g_topl {x : Int64} (k : ∀ y : Int64, y = x → G E X nL ws nc ns lv pc (.long y :: st)) : G E X nL ws nc ns lv pc (.long x :: st) := k x rfl
theorem g_ldc (B : Bd E X cc own nL fr lo mc ms) {index : Nat} {v : Int32} (hw : Cond.constant own index v ∈ g_tbl) (hd : decode cc pc = .ok (.ldc index, 2)) (k : G E X nL ws nc ns lv (pc + 2) (.int v :: st)) : G E X nL ws nc ns lv pc st := by
  obtain ⟨p, e, s, m, args, below, meth, c, R, A, Q⟩ := X
  obtain ⟨hx, hb, hml, hown, hts, hK, hA, hSt, hNe, hlk, hR⟩ := B
  intro H locs ls hP hD hS hl
  exact lv_ldc hx hb hown (hts _ hw) hd (k H locs ls hP hD hS hl)
theorem g_ldc2 (B : Bd E X cc own nL fr lo mc ms) {index : Nat} {v : Int64} (hw : Cond.constantLong own index v ∈ g_tbl) (hd : decode cc pc = .ok (.ldc2_w index, 3)) (k : G E X nL ws nc ns lv (pc + 3) (.long v :: st)) : G E X nL ws nc ns lv pc st := by
  obtain ⟨p, e, s, m, args, below, meth, c, R, A, Q⟩ := X
  obtain ⟨hx, hb, hml, hown, hts, hK, hA, hSt, hNe, hlk, hR⟩ := B
  intro H locs ls hP hD hS hl
  exact lv_ldc2 hx hb hown (hts _ hw) hd (k H locs ls hP hD hS hl)
/-- a field: its class, its place, its words -/
def FL (own : String) (idx ci k : Nat) : Prop := ∃ (C : String) (T : u_T) (N : Nat), vwCl[ci]? = some (C, T, N) ∧ k < N ∧ (∀ w ∈ u_ws C T N, w ∈ g_tbl) ∧ Cond.fieldLink own idx (T k).1 (T k).2.1 (T k).2.2.1 ∈ g_tbl
/-- what a store wants besides -/
def PF (ci k : Nat) (ty : FieldType) (fin : Bool) : Prop := ∀ (C : String) (T : u_T) (N : Nat), vwCl[ci]? = some (C, T, N) → (∃ ty0 : Nat → FieldType, ∀ j, j < N → parseFieldDescriptor (T j).2.2.1 = some (ty0 j)) ∧ (∀ a, a < N → ∀ b, b < N → a ≠ b → (T a).2.1 ≠ (T b).2.1) ∧ parseFieldDescriptor (T k).2.2.1 = some ty ∧ (T k).2.2.2 = fin ∧ (T k).1 = C
theorem g_get (B : Bd E X cc own nL fr lo mc ms) {a ci idx : Nat} {fs : List Value} {v : Value} (q k : Nat) (hF : FL own idx ci k) (he : ws[q]? = some (a, .inr (ci, fs))) (hv : fs[k]? = some v) (hd : decode cc pc = .ok (.getfield idx, 3)) (kk : G E X nL ws nc ns lv (pc + 3) (v :: st)) : G E X nL ws nc ns lv pc (.ref a :: st) := by
  obtain ⟨p, e, s, m, args, below, meth, c, R, A, Q⟩ := X
  obtain ⟨hx, hb, hml, hown, hts, hK, hA, hSt, hNe, hlk, hR⟩ := B
  intro H locs ls hP hD hS hl
  obtain ⟨C, T, N, hc, hk, hin, hfl⟩ := hF
  exact va_get (D := E.2.1) (ci := ci) (v := v) (C := C) (T := T) (N := N) hx hb hts hin hown hK hP q he hc k hk (hts _ hfl) (fun _ h9 => h9) hv hd (kk H locs ls hP hD hS hl)
theorem g_put (B : Bd E X cc own nL fr lo mc ms) {a ci idx : Nat} {fs : List Value} {v : Value} {ty : FieldType} {ws' : va_W} (q k : Nat) (hF : FL own idx ci k) (hPF : PF ci k ty false) (he : ws[q]? = some (a, .inr (ci, fs))) (hlt : k < fs.length) (hn : narrow ty v = v) (hfit : fits ty v = true) (hw : ws.set q (a, .inr (ci, fs.set k v)) = ws') (hd : decode cc pc = .ok (.putfield idx, 3)) (kk : G E X nL ws' nc ns lv (pc + 3) st) : G E X nL ws nc ns lv pc (v :: .ref a :: st) := by
  obtain ⟨p, e, s, m, args, below, meth, c, R, A, Q⟩ := X
  obtain ⟨hx, hb, hml, hown, hts, hK, hA, hSt, hNe, hlk, hR⟩ := B
  intro H locs ls hP hD hS hl
  obtain ⟨C, T, N, hc, hk, hin, hfl⟩ := hF
  obtain ⟨⟨ty0, hty⟩, hnm, hpd, hfin, hcl⟩ := hPF C T N hc
  subst hw
  exact va_put (D := E.2.1) (ci := ci) (v := v) (ty := ty) (C := C) (T := T) (N := N) hx hb hts hin ty0 hty hnm hown hK hP hD hS q he hc k hk (hts _ hfl) (fun _ h9 => h9) hfin hpd hn hfit hlt hd (fun H1 locs1 hP1 hD1 hS1 => kk H1 locs1 ls hP1 hD1 hS1 hl)
theorem g_putF (B : Bd E X cc own nL fr lo mc ms) (hI : In X) {a ci idx : Nat} {fs : List Value} {v : Value} {ty : FieldType} {ws' : va_W} (q k : Nat) (hF : FL own idx ci k) (hPF : PF ci k ty true) (hco : ∀ q : vw_C, vwCl[ci]? = some q → q.1 = own) (he : ws[q]? = some (a, .inr (ci, fs))) (hlt : k < fs.length) (hn : narrow ty v = v) (hfit : fits ty v = true) (hw : ws.set q (a, .inr (ci, fs.set k v)) = ws') (hd : decode cc pc = .ok (.putfield idx, 3)) (kk : G E X nL ws' nc ns lv (pc + 3) st) : G E X nL ws nc ns lv pc (v :: .ref a :: st) := by
  obtain ⟨p, e, s, m, args, below, meth, c, R, A, Q⟩ := X
  obtain ⟨hx, hb, hml, hown, hts, hK, hA, hSt, hNe, hlk, hR⟩ := B
  intro H locs ls hP hD hS hl
  obtain ⟨C, T, N, hc, hk, hin, hfl⟩ := hF
  obtain ⟨⟨ty0, hty⟩, hnm, hpd, hfin, hcl⟩ := hPF C T N hc
  have ho : C = own := hco _ hc
  subst hw
  exact va_putF (D := E.2.1) (ci := ci) (v := v) (ty := ty) (C := C) (T := T) (N := N) hx hb hts hin ty0 hty hnm hown hK hP hD hS q he hc k hk (hts _ hfl) (fun _ h9 => h9) hfin hI (hcl.trans ho) hpd hn hfit hlt hd (fun H1 locs1 hP1 hD1 hS1 => kk H1 locs1 ls hP1 hD1 hS1 hl)
theorem g_iald (B : Bd E X cc own nL fr lo mc ms) {a n : Nat} {f : Nat → Int32} {i : Int32} (q : Nat) (he : ws[q]? = some (a, .inl (E.2.2.1 0, n, .inl f))) (hin : vp_in i n) (hd : decode cc pc = .ok (.iaload, 1)) (kk : G E X nL ws nc ns lv (pc + 1) (.int (f i.toNatClampNeg) :: st)) : G E X nL ws nc ns lv pc (.int i :: .ref a :: st) := by
  obtain ⟨p, e, s, m, args, below, meth, c, R, A, Q⟩ := X
  obtain ⟨hx, hb, hml, hown, hts, hK, hA, hSt, hNe, hlk, hR⟩ := B
  intro H locs ls hP hD hS hl
  exact va_iald hx hb hK hP q 0 he rfl hin hd (kk H locs ls hP hD hS hl)
theorem g_bald (B : Bd E X cc own nL fr lo mc ms) {a n : Nat} {f : Nat → Int32} {i : Int32} (q : Nat) (he : ws[q]? = some (a, .inl (E.2.2.1 1, n, .inl f))) (hin : vp_in i n) (hd : decode cc pc = .ok (.baload, 1)) (kk : G E X nL ws nc ns lv (pc + 1) (.int (f i.toNatClampNeg) :: st)) : G E X nL ws nc ns lv pc (.int i :: .ref a :: st) := by
  obtain ⟨p, e, s, m, args, below, meth, c, R, A, Q⟩ := X
  obtain ⟨hx, hb, hml, hown, hts, hK, hA, hSt, hNe, hlk, hR⟩ := B
  intro H locs ls hP hD hS hl
  exact va_bald hx hb hK hP q 1 he rfl hin hd (kk H locs ls hP hD hS hl)
theorem g_zald (B : Bd E X cc own nL fr lo mc ms) {a n : Nat} {f : Nat → Int32} {i : Int32} (q : Nat) (he : ws[q]? = some (a, .inl (E.2.2.1 2, n, .inl f))) (hin : vp_in i n) (hd : decode cc pc = .ok (.baload, 1)) (kk : G E X nL ws nc ns lv (pc + 1) (.int (f i.toNatClampNeg) :: st)) : G E X nL ws nc ns lv pc (.int i :: .ref a :: st) := by
  obtain ⟨p, e, s, m, args, below, meth, c, R, A, Q⟩ := X
  obtain ⟨hx, hb, hml, hown, hts, hK, hA, hSt, hNe, hlk, hR⟩ := B
  intro H locs ls hP hD hS hl
  exact va_zald hx hb hK hP q 2 he rfl hin hd (kk H locs ls hP hD hS hl)
theorem g_lald (B : Bd E X cc own nL fr lo mc ms) {a n : Nat} {f : Nat → Int64} {i : Int32} (q : Nat) (he : ws[q]? = some (a, .inl (E.2.2.1 3, n, .inr (.inl f)))) (hin : vp_in i n) (hd : decode cc pc = .ok (.laload, 1)) (kk : G E X nL ws nc ns lv (pc + 1) (.long (f i.toNatClampNeg) :: st)) : G E X nL ws nc ns lv pc (.int i :: .ref a :: st) := by
  obtain ⟨p, e, s, m, args, below, meth, c, R, A, Q⟩ := X
  obtain ⟨hx, hb, hml, hown, hts, hK, hA, hSt, hNe, hlk, hR⟩ := B
  intro H locs ls hP hD hS hl
  exact va_lald hx hb hK hP q 3 he rfl hin hd (kk H locs ls hP hD hS hl)
theorem g_iast (B : Bd E X cc own nL fr lo mc ms) {a n : Nat} {f : Nat → Int32} {i : Int32} {x : Int32} {ws' : va_W} (q : Nat) (he : ws[q]? = some (a, .inl (E.2.2.1 0, n, .inl f))) (hin : vp_in i n) (hw : ws.set q (a, .inl (E.2.2.1 0, n, .inl (upd f i.toNatClampNeg x))) = ws') (hd : decode cc pc = .ok (.iastore, 1)) (kk : G E X nL ws' nc ns lv (pc + 1) st) : G E X nL ws nc ns lv pc (.int x :: .int i :: .ref a :: st) := by
  obtain ⟨p, e, s, m, args, below, meth, c, R, A, Q⟩ := X
  obtain ⟨hx, hb, hml, hown, hts, hK, hA, hSt, hNe, hlk, hR⟩ := B
  intro H locs ls hP hD hS hl
  subst hw
  exact va_iast hx hb hK hP hD hS q 0 he rfl hin hd (fun H1 locs1 hP1 hD1 hS1 => kk H1 locs1 ls hP1 hD1 hS1 hl)
theorem g_bast (B : Bd E X cc own nL fr lo mc ms) {a n : Nat} {f : Nat → Int32} {i : Int32} {x : Int32} {ws' : va_W} (q : Nat) (he : ws[q]? = some (a, .inl (E.2.2.1 1, n, .inl f))) (hin : vp_in i n) (hw : ws.set q (a, .inl (E.2.2.1 1, n, .inl (upd f i.toNatClampNeg (vp_nar .byte x)))) = ws') (hd : decode cc pc = .ok (.bastore, 1)) (kk : G E X nL ws' nc ns lv (pc + 1) st) : G E X nL ws nc ns lv pc (.int x :: .int i :: .ref a :: st) := by
  obtain ⟨p, e, s, m, args, below, meth, c, R, A, Q⟩ := X
  obtain ⟨hx, hb, hml, hown, hts, hK, hA, hSt, hNe, hlk, hR⟩ := B
  intro H locs ls hP hD hS hl
  subst hw
  exact va_bast hx hb hK hP hD hS q 1 he rfl hin hd (fun H1 locs1 hP1 hD1 hS1 => kk H1 locs1 ls hP1 hD1 hS1 hl)
theorem g_zast (B : Bd E X cc own nL fr lo mc ms) {a n : Nat} {f : Nat → Int32} {i : Int32} {x : Int32} {ws' : va_W} (q : Nat) (he : ws[q]? = some (a, .inl (E.2.2.1 2, n, .inl f))) (hin : vp_in i n) (hw : ws.set q (a, .inl (E.2.2.1 2, n, .inl (upd f i.toNatClampNeg (vp_nar .boolean x)))) = ws') (hd : decode cc pc = .ok (.bastore, 1)) (kk : G E X nL ws' nc ns lv (pc + 1) st) : G E X nL ws nc ns lv pc (.int x :: .int i :: .ref a :: st) := by
  obtain ⟨p, e, s, m, args, below, meth, c, R, A, Q⟩ := X
  obtain ⟨hx, hb, hml, hown, hts, hK, hA, hSt, hNe, hlk, hR⟩ := B
  intro H locs ls hP hD hS hl
  subst hw
  exact va_zast hx hb hK hP hD hS q 2 he rfl hin hd (fun H1 locs1 hP1 hD1 hS1 => kk H1 locs1 ls hP1 hD1 hS1 hl)
theorem g_last (B : Bd E X cc own nL fr lo mc ms) {a n : Nat} {f : Nat → Int64} {i : Int32} {x : Int64} {ws' : va_W} (q : Nat) (he : ws[q]? = some (a, .inl (E.2.2.1 3, n, .inr (.inl f)))) (hin : vp_in i n) (hw : ws.set q (a, .inl (E.2.2.1 3, n, .inr (.inl (vp_updL f i.toNatClampNeg x)))) = ws') (hd : decode cc pc = .ok (.lastore, 1)) (kk : G E X nL ws' nc ns lv (pc + 1) st) : G E X nL ws nc ns lv pc (.long x :: .int i :: .ref a :: st) := by
  obtain ⟨p, e, s, m, args, below, meth, c, R, A, Q⟩ := X
  obtain ⟨hx, hb, hml, hown, hts, hK, hA, hSt, hNe, hlk, hR⟩ := B
  intro H locs ls hP hD hS hl
  subst hw
  exact va_last hx hb hK hP hD hS q 3 he rfl hin hd (fun H1 locs1 hP1 hD1 hS1 => kk H1 locs1 ls hP1 hD1 hS1 hl)
theorem g_alen (B : Bd E X cc own nL fr lo mc ms) {a t0 : Nat} {x : vp_A} {v : Int32} (q : Nat) (ht0 : t0 < 4) (he : ws[q]? = some (a, .inl (E.2.2.1 t0, x))) (hv : Int32.ofNat x.1 = v) (hd : decode cc pc = .ok (.arraylength, 1)) (kk : G E X nL ws nc ns lv (pc + 1) (.int v :: st)) : G E X nL ws nc ns lv pc (.ref a :: st) := by
  obtain ⟨p, e, s, m, args, below, meth, c, R, A, Q⟩ := X
  obtain ⟨hx, hb, hml, hown, hts, hK, hA, hSt, hNe, hlk, hR⟩ := B
  intro H locs ls hP hD hS hl
  match t0, ht0, he with
  | 0, _, he => exact va_alen hx hb hK hP q 0 he (ty := .int) rfl hv hd (kk H locs ls hP hD hS hl)
  | 1, _, he => exact va_alen hx hb hK hP q 1 he (ty := .byte) rfl hv hd (kk H locs ls hP hD hS hl)
  | 2, _, he => exact va_alen hx hb hK hP q 2 he (ty := .boolean) rfl hv hd (kk H locs ls hP hD hS hl)
  | 3, _, he => exact va_alen hx hb hK hP q 3 he (ty := .long) rfl hv hd (kk H locs ls hP hD hS hl)
  | (_ + 4), h, _ => exact absurd h (by omega)
theorem g_sub {ws' : va_W} (is : List Nat) (hn : va_nd is = true) (hs : is.map (fun i => ws[i]?) = ws'.map some) (kk : G E X nL ws' nc ns lv pc st) : G E X nL ws nc ns lv pc st := by
  obtain ⟨p, e, s, m, args, below, meth, c, R, A, Q⟩ := X
  intro H locs ls hP hD hS hl
  have hP' : va_P E.2.1 vwCl ws' H := by
    intro k q hq
    have h1 : (is.map (fun i => ws[i]?))[k]? = some (some q) := by rw [hs, List.getElem?_map, hq]; rfl
    rw [List.getElem?_map] at h1
    cases hi : is[k]? with
    | none => rw [hi] at h1; cases h1
    | some i => rw [hi] at h1; exact hP i q (Option.some.inj h1)
  exact kk H locs ls hP' (hD.sub is hn hs) hS hl
theorem g_lvsub {lv' : List (Nat × Value)} (ks : List Nat) (h : lv_pick lv ks = lv') (kk : G E X nL ws nc ns lv' pc st) : G E X nL ws nc ns lv pc st := by
  obtain ⟨p, e, s, m, args, below, meth, c, R, A, Q⟩ := X
  intro H locs ls hP hD hS hl
  exact kk H locs ls hP hD hS (lv_sub hl ks h)
theorem g_iret (B : Bd E X cc own nL fr lo mc ms) {Q : Option Value → va_W → Prop} (hr : Rt E X (some .int) mc ms Q) {v : Int32} (hd : decode cc pc = .ok (.ireturn, 1)) (hc : nc ≤ mc) (hs : ns ≤ ms) (hq : Q (some (.int v)) ws) : G E X nL ws nc ns lv pc [.int v] := by
  obtain ⟨p, e, s, m, args, below, meth, c, R, A, QQ⟩ := X
  obtain ⟨hx, hb, hml, hown, hts, hK, hA, hSt, hNe, hlk, hR⟩ := B
  intro H locs ls hP hD hS hl
  obtain ⟨hr1, rfl⟩ := hr
  refine W.widen hc hs ?_
  exact W.iret (v := v) hx hb hr1 (fun t ht hW => ⟨⟨_, ws, rfl, hq, by rw [ht]; exact hP, va_K.moved hW.alike hK, hD⟩, hS.F ht⟩) hS.2.2 hd
theorem g_zret (B : Bd E X cc own nL fr lo mc ms) {Q : Option Value → va_W → Prop} (hr : Rt E X (some .boolean) mc ms Q) {v : Int32} (hn : narrow .boolean (.int v) = .int v) (hd : decode cc pc = .ok (.ireturn, 1)) (hc : nc ≤ mc) (hs : ns ≤ ms) (hq : Q (some (.int v)) ws) : G E X nL ws nc ns lv pc [.int v] := by
  obtain ⟨p, e, s, m, args, below, meth, c, R, A, QQ⟩ := X
  obtain ⟨hx, hb, hml, hown, hts, hK, hA, hSt, hNe, hlk, hR⟩ := B
  intro H locs ls hP hD hS hl
  obtain ⟨hr1, rfl⟩ := hr
  refine W.widen hc hs ?_
  exact W.zret (v := v) hx hb hr1 hn (fun t ht hW => ⟨⟨_, ws, rfl, hq, by rw [ht]; exact hP, va_K.moved hW.alike hK, hD⟩, hS.F ht⟩) hS.2.2 hd
theorem g_lret (B : Bd E X cc own nL fr lo mc ms) {Q : Option Value → va_W → Prop} (hr : Rt E X (some .long) mc ms Q) {v : Int64} (hd : decode cc pc = .ok (.lreturn, 1)) (hc : nc ≤ mc) (hs : ns ≤ ms) (hq : Q (some (.long v)) ws) : G E X nL ws nc ns lv pc [.long v] := by
  obtain ⟨p, e, s, m, args, below, meth, c, R, A, QQ⟩ := X
  obtain ⟨hx, hb, hml, hown, hts, hK, hA, hSt, hNe, hlk, hR⟩ := B
  intro H locs ls hP hD hS hl
  obtain ⟨hr1, rfl⟩ := hr
  refine W.widen hc hs ?_
  exact W.lret (v := v) hx hb hr1 (fun t ht hW => ⟨⟨_, ws, rfl, hq, by rw [ht]; exact hP, va_K.moved hW.alike hK, hD⟩, hS.F ht⟩) hS.2.2 hd
theorem g_vret (B : Bd E X cc own nL fr lo mc ms) {Q : Option Value → va_W → Prop} (hr : Rt E X none mc ms Q) (hd : decode cc pc = .ok (.return_, 1)) (hc : nc ≤ mc) (hs : ns ≤ ms) (hq : Q none ws) : G E X nL ws nc ns lv pc [] := by
  obtain ⟨p, e, s, m, args, below, meth, c, R, A, QQ⟩ := X
  obtain ⟨hx, hb, hml, hown, hts, hK, hA, hSt, hNe, hlk, hR⟩ := B
  intro H locs ls hP hD hS hl
  obtain ⟨hr1, rfl⟩ := hr
  refine W.widen hc hs ?_
  exact W.vret hx hb hr1 (fun t ht hW => ⟨⟨_, ws, rfl, hq, by rw [ht]; exact hP, va_K.moved hW.alike hK, hD⟩, hS.F ht⟩) hS.2.2 hd
theorem g_aret (B : Bd E X cc own nL fr lo mc ms) {Q : Option Value → va_W → Prop} {ot : String} (hr : Rt E X (some (.object ot)) mc ms Q) {v : Value} (hv : v = .null ∨ ∃ a, v = .ref a) (hd : decode cc pc = .ok (.areturn, 1)) (hc : nc ≤ mc) (hs : ns ≤ ms) (hq : Q (some v) ws) : G E X nL ws nc ns lv pc [v] := by
  obtain ⟨p, e, s, m, args, below, meth, c, R, A, QQ⟩ := X
  obtain ⟨hx, hb, hml, hown, hts, hK, hA, hSt, hNe, hlk, hR⟩ := B
  intro H locs ls hP hD hS hl
  obtain ⟨hr1, rfl⟩ := hr
  refine W.widen hc hs ?_
  exact W.aret (v := v) hx hb hr1 (Or.inl ⟨_, rfl⟩) hv (fun t ht hW => ⟨⟨_, ws, rfl, hq, by rw [ht]; exact hP, va_K.moved hW.alike hK, hD⟩, hS.F ht⟩) hS.2.2 hd
/-- Object's constructor -/
theorem g_obj (B : Bd E X cc own nL fr lo mc ms) {idx a : Nat} (hw : Cond.methodLink own idx objectInit ∈ g_tbl) (h1 : Cond.instanceMethod objectInit ∈ g_tbl) (h2 : Cond.code objectInit ⟨#[0xb1]⟩ 1 none ∈ g_tbl) (hf : 1 ≤ fr) (hlo : (st.map fun v => v.category).sum + 12 ≤ lo) (hd : decode cc pc = .ok (.invokespecial idx, 3)) (kk : G E X nL ws nc ns lv (pc + 3) st) : G E X nL ws nc ns lv pc (.ref a :: st) := by
  obtain ⟨p, e, s, m, args, below, meth, c, R, A, Q⟩ := X
  obtain ⟨hx, hb, hml, hown, hts, hK, hA, hSt, hNe, hlk, hR⟩ := B
  intro H locs ls hP hD hS hl
  subst hR
  exact W.objInit hx hb hown (hts _ hw) (hts _ h1) (hts _ h2) rfl (by rw [hml]; exact hl.1) rfl hd hf (by show 2 * 0 + _ + 12 ≤ lo; omega) (kk H locs ls hP hD hS hl)
/-- a new array of numbers -/
theorem g_newa (B : Bd E X cc own nL fr lo mc ms) {atype : ArrayType} {ty : FieldType} {t0 : Nat} {n : Int32} {N nc' ns' : Nat} {a0 : vp_A} {ws' : Nat → va_W} (hw : Cond.arrayClass ty ∈ g_tbl) (hty : newarray.typeOf atype = ty) (ht : (g_ty E)[t0]? = some (E.2.2.1 t0, ty)) (hk : refKind ty = false) (ha : ∀ cA : ClassId, vp_cell cA a0 = arrV cA N (fun _ => defaultValue ty)) (hn : ¬ n < 0) (hN : n.toNatClampNeg = N) (hbytes : N * componentBytes ty ≤ 536870912) (hc : nc + 1 = nc') (hs : ns + N = ns') (hcm : nc' ≤ mc) (hsm : ns' ≤ ms) (hws : ∀ q, ws ++ [(q, .inl (E.2.2.1 t0, a0))] = ws' q) (hd : decode cc pc = .ok (.newarray atype, 2)) (kk : ∀ q, G E X nL (ws' q) nc' ns' lv (pc + 2) (.ref q :: st)) : G E X nL ws nc ns lv pc (.int n :: st) := by
  obtain ⟨p, e, s, m, args, below, meth, c, R, A, Q⟩ := X
  obtain ⟨hx, hb, hml, hown, hts, hK, hA, hSt, hNe, hlk, hR⟩ := B
  intro H locs ls hP hD hS hl
  subst hc hs hR hty
  refine va_newa hx hb (hts _ hw) rfl hK hP hD hS hA ha hn hN hbytes hcm hsm hd (fun q cA H1 hK1 hP1 hD1 hS1 => ?_)
  have e1 := (hK1.2 4 _ rfl).2
  have e2 := (hK.2 t0 _ ht).2
  have e3 : cA = E.2.2.1 t0 := by
    cases atype <;> exact Option.some.inj (e1.symm.trans e2)
  subst e3
  rw [hws q] at hP1 hD1
  exact kk q H1 locs ls hP1 hD1 hS1 hl
/-- a class of which objects are made: its words -/
def NL (own : String) (idx ci N : Nat) (fs : List Value) : Prop := ∃ (C : String) (T : u_T) (ty : Nat → FieldType), vwCl[ci]? = some (C, T, N) ∧ (∀ w ∈ u_ws C T N, w ∈ g_tbl) ∧ (∀ k, k < N → parseFieldDescriptor (T k).2.2.1 = some (ty k)) ∧ Cond.classLink own idx C ∈ g_tbl ∧ Cond.instantiable C N ∈ g_tbl ∧ Cond.initialized C ∈ g_tbl ∧ ∀ j, j < N → defaultValue (ty j) = vp_V fs j
theorem g_new (B : Bd E X cc own nL fr lo mc ms) {idx ci N nc' ns' : Nat} {fs : List Value} {ws' : Nat → va_W} (hN : NL own idx ci N fs) (hc : nc + 1 = nc') (hs : ns + N = ns') (hcm : nc' ≤ mc) (hsm : ns' ≤ ms) (hws : ∀ q, ws ++ [(q, .inr (ci, fs))] = ws' q) (hd : decode cc pc = .ok (.new idx, 3)) (kk : ∀ q, G E X nL (ws' q) nc' ns' lv (pc + 3) (.ref q :: st)) : G E X nL ws nc ns lv pc st := by
  obtain ⟨p, e, s, m, args, below, meth, c, R, A, Q⟩ := X
  obtain ⟨hx, hb, hml, hown, hts, hK, hA, hSt, hNe, hlk, hR⟩ := B
  intro H locs ls hP hD hS hl
  subst hc hs hR
  obtain ⟨C, T, ty, h1, h2, h3, h4, h5, h6, h7⟩ := hN
  refine va_new (ci := ci) (fs := fs) (C := C) (T := T) (N := N) hx hb hts h2 ty h3 hown (hts _ h4) (hts _ h5) (hts _ h6) hK hP hD hS hA h1 h7 hcm hsm hd (fun q H1 hP1 hD1 hS1 => ?_)
  rw [hws q] at hP1 hD1
  exact kk q H1 locs ls hP1 hD1 hS1 hl
/-- the static table, from a nest mate -/
theorem g_getsN (B : Bd E X cc "SoundPress$Bytes" nL fr lo mc ms) (hd : decode cc pc = .ok (.getstatic NEST_B, 3)) (kk : G E X nL ws nc ns lv (pc + 3) (.ref E.2.2.2 :: st)) : G E X nL ws nc ns lv pc st := by
  obtain ⟨p, e, s, m, args, below, meth, c, R, A, Q⟩ := X
  obtain ⟨hx, hb, hml, hown, hts, hK, hA, hSt, hNe, hlk, hR⟩ := B
  intro H locs ls hP hD hS hl
  exact va_getsN hx hb hSt.1 hS hown (hNe.2.2.use rfl) (fun _ h => h) hd (kk H locs ls hP hD hS hl)
theorem g_tald (B : Bd E X cc own nL fr lo mc ms) {i : Int32} (hin : vp_in i 16) (hd : decode cc pc = .ok (.iaload, 1)) (kk : G E X nL ws nc ns lv (pc + 1) (.int (g_crc.getD i.toNatClampNeg 0) :: st)) : G E X nL ws nc ns lv pc (.int i :: .ref E.2.2.2 :: st) := by
  obtain ⟨p, e, s, m, args, below, meth, c, R, A, Q⟩ := X
  obtain ⟨hx, hb, hml, hown, hts, hK, hA, hSt, hNe, hlk, hR⟩ := B
  intro H locs ls hP hD hS hl
  exact va_ti hx hb hSt.2 hS hin rfl hd (kk H locs ls hP hD hS hl)
theorem g_mmax (B : Bd E X cc own nL fr lo mc ms) {idx : Nat} {x y : Int32} (h1 : Cond.methodLink own idx Lib.Math.max.name ∈ g_tbl) (h2 : Cond.static Lib.Math.max.name ∈ g_tbl) (h3 : Cond.initialized "java/lang/Math" ∈ g_tbl) (h4 : Cond.code Lib.Math.max.name Lib.Math.max.code 2 (some .int) ∈ g_tbl) (hf : 1 ≤ fr) (hlo : (st.map fun v => v.category).sum + 13 ≤ lo) (hc : nc ≤ mc) (hs : ns ≤ ms) (hd : decode cc pc = .ok (.invokestatic idx, 3)) (kk : G E X nL ws nc ns lv (pc + 3) (.int (if x < y then y else x) :: st)) : G E X nL ws nc ns lv pc (.int y :: .int x :: st) := by
  obtain ⟨p, e, s, m, args, below, meth, c, R, A, Q⟩ := X
  obtain ⟨hx, hb, hml, hown, hts, hK, hA, hSt, hNe, hlk, hR⟩ := B
  intro H locs ls hP hD hS hl
  subst hR
  exact va_mmax hx hb (hml.trans hl.1.symm) hown (hts _ h1) (hts _ h2) (hts _ h3) (hts _ h4) hf hlo hc hs hd (kk H locs ls hP hD hS hl)
theorem g_mmin (B : Bd E X cc own nL fr lo mc ms) {idx : Nat} {x y : Int32} (h1 : Cond.methodLink own idx Lib.Math.min.name ∈ g_tbl) (h2 : Cond.static Lib.Math.min.name ∈ g_tbl) (h3 : Cond.initialized "java/lang/Math" ∈ g_tbl) (h4 : Cond.code Lib.Math.min.name Lib.Math.min.code 2 (some .int) ∈ g_tbl) (hf : 1 ≤ fr) (hlo : (st.map fun v => v.category).sum + 13 ≤ lo) (hc : nc ≤ mc) (hs : ns ≤ ms) (hd : decode cc pc = .ok (.invokestatic idx, 3)) (kk : G E X nL ws nc ns lv (pc + 3) (.int (if y < x then y else x) :: st)) : G E X nL ws nc ns lv pc (.int y :: .int x :: st) := by
  obtain ⟨p, e, s, m, args, below, meth, c, R, A, Q⟩ := X
  obtain ⟨hx, hb, hml, hown, hts, hK, hA, hSt, hNe, hlk, hR⟩ := B
  intro H locs ls hP hD hS hl
  subst hR
  exact va_mmin hx hb (hml.trans hl.1.symm) hown (hts _ h1) (hts _ h2) (hts _ h3) (hts _ h4) hf hlo hc hs hd (kk H locs ls hP hD hS hl)
theorem g_mabs (B : Bd E X cc own nL fr lo mc ms) {idx : Nat} {x : Int32} (h1 : Cond.methodLink own idx Lib.Math.abs.name ∈ g_tbl) (h2 : Cond.static Lib.Math.abs.name ∈ g_tbl) (h3 : Cond.initialized "java/lang/Math" ∈ g_tbl) (h4 : Cond.code Lib.Math.abs.name Lib.Math.abs.code 1 (some .int) ∈ g_tbl) (hf : 1 ≤ fr) (hlo : (st.map fun v => v.category).sum + 13 ≤ lo) (hc : nc ≤ mc) (hs : ns ≤ ms) (hd : decode cc pc = .ok (.invokestatic idx, 3)) (kk : G E X nL ws nc ns lv (pc + 3) (.int (if 0 ≤ x then x else 0 - x) :: st)) : G E X nL ws nc ns lv pc (.int x :: st) := by
  obtain ⟨p, e, s, m, args, below, meth, c, R, A, Q⟩ := X
  obtain ⟨hx, hb, hml, hown, hts, hK, hA, hSt, hNe, hlk, hR⟩ := B
  intro H locs ls hP hD hS hl
  subst hR
  exact va_mabs hx hb (hml.trans hl.1.symm) hown (hts _ h1) (hts _ h2) (hts _ h3) (hts _ h4) hf hlo hc hs hd (kk H locs ls hP hD hS hl)
theorem g_mmaxl (B : Bd E X cc own nL fr lo mc ms) {idx : Nat} {x y : Int64} (h1 : Cond.methodLink own idx Lib.MathLoose.max_long.x ∈ g_tbl) (h2 : Cond.static Lib.MathLoose.max_long.x ∈ g_tbl) (h3 : Cond.initialized "java/lang/Math" ∈ g_tbl) (h4 : Cond.code Lib.MathLoose.max_long.x Lib.MathLoose.max_long.code 4 (some .long) ∈ g_tbl) (hf : 1 ≤ fr) (hlo : (st.map fun v => v.category).sum + 15 ≤ lo) (hc : nc ≤ mc) (hs : ns ≤ ms) (hd : decode cc pc = .ok (.invokestatic idx, 3)) (kk : G E X nL ws nc ns lv (pc + 3) (.long (if y < x then x else y) :: st)) : G E X nL ws nc ns lv pc (.long y :: .long x :: st) := by
  obtain ⟨p, e, s, m, args, below, meth, c, R, A, Q⟩ := X
  obtain ⟨hx, hb, hml, hown, hts, hK, hA, hSt, hNe, hlk, hR⟩ := B
  intro H locs ls hP hD hS hl
  subst hR
  exact va_mmax_long hx hb (hml.trans hl.1.symm) hown (hts _ h1) (hts _ h2) (hts _ h3) (hts _ h4) hf hlo hc hs hd (kk H locs ls hP hD hS hl)
theorem g_mminl (B : Bd E X cc own nL fr lo mc ms) {idx : Nat} {x y : Int64} (h1 : Cond.methodLink own idx Lib.MathLoose.min_long.x ∈ g_tbl) (h2 : Cond.static Lib.MathLoose.min_long.x ∈ g_tbl) (h3 : Cond.initialized "java/lang/Math" ∈ g_tbl) (h4 : Cond.code Lib.MathLoose.min_long.x Lib.MathLoose.min_long.code 4 (some .long) ∈ g_tbl) (hf : 1 ≤ fr) (hlo : (st.map fun v => v.category).sum + 15 ≤ lo) (hc : nc ≤ mc) (hs : ns ≤ ms) (hd : decode cc pc = .ok (.invokestatic idx, 3)) (kk : G E X nL ws nc ns lv (pc + 3) (.long (if y < x then y else x) :: st)) : G E X nL ws nc ns lv pc (.long y :: .long x :: st) := by
  obtain ⟨p, e, s, m, args, below, meth, c, R, A, Q⟩ := X
  obtain ⟨hx, hb, hml, hown, hts, hK, hA, hSt, hNe, hlk, hR⟩ := B
  intro H locs ls hP hD hS hl
  subst hR
  exact va_mmin_long hx hb (hml.trans hl.1.symm) hown (hts _ h1) (hts _ h2) (hts _ h3) (hts _ h4) hf hlo hc hs hd (kk H locs ls hP hD hS hl)
/-- behind a call -/
theorem g_back {p : Program} {l : Launch} {e : Env} {R : Room} {s : State} {m : MethodId} {args : Array Value} {below : List Frame} {meth : Method} {c : Code} {H : Heap} {locs : List Loc} {cells slots mc' ms' : Nat} {Q : State → Prop} {ls : Array Slot} {rest st0 : List Value} {A0 A1 : Nat → Prop} {H0 : Heap} {free : Addr → Prop} {Qc : Option Value → va_W → Prop} {a : Array Value}
    (hr : va_Run p l e R s m args below meth c H locs cells slots mc' ms' (F0 m pc ls st0) rest (g_Qc E Qc A1 a) free) (hS : va_S A0 H0 H locs) (hA : ∀ q, q < H.size → A1 q → A0 q) (hf : ∀ q, free q → A0 q)
    (kk : ∀ (v : Option Value) (w : va_W) (H1 : Heap) (locs1 : List Loc), Qc v w → va_P E.2.1 vwCl w H1 → va_D A1 w → H.size ≤ H1.size → (∀ q : Nat, q < H.size → ¬ A1 q → H1[q]? = H[q]?) → va_S A0 H0 H1 locs1 → W p l e R s m args below meth c H1 locs1 (cells + mc') (slots + ms') Q (F0 m (pc + 3) ls (v.toList ++ rest))) : W p l e R s m args below meth c H locs cells slots Q (F0 m pc ls st0) := by
  intro T hT X
  obtain ⟨v, st₀, t, T', L, h0, X', hL, e1, e2, ⟨⟨v', w, hv, hq, hP, hK, hD⟩, hz, hk⟩, st⟩ := hr T hT X
  cases hv
  rw [h0] at hz hk
  obtain ⟨t2, a1, b1⟩ := kk v w T'.heap (locs ++ L) hq (by rw [e1]; exact hP) hD (by rw [e1]; exact hz) (fun q h1 h2 => by rw [e1]; exact hk q h1 h2)
    ⟨Nat.le_trans hS.1 (by rw [e1]; exact hz), fun q h1 h2 => by rw [e1, hk q (Nat.lt_of_lt_of_le h1 hS.1) (fun z => h2 (hA q (Nat.lt_of_lt_of_le h1 hS.1) z))]; exact hS.2.1 q h1 h2, fun q hq => by
      rcases List.mem_append.mp hq with h | h
      · exact hS.2.2 q h
      · exact hf _ (hL q h)⟩ T' rfl X'
  exact ⟨t2, st t2 a1, b1⟩
theorem g_subP {D : va_G} {cl : List vw_C} {ws wc : va_W} {H : Heap} (hP : va_P D cl ws H) (is : List Nat) (hs : is.map (fun i => ws[i]?) = wc.map some) : va_P D cl wc H := by
  intro k q hq
  have h1 : (is.map (fun i => ws[i]?))[k]? = some (some q) := by rw [hs, List.getElem?_map, hq]; rfl
  rw [List.getElem?_map] at h1
  cases hi : is[k]? with
  | none => rw [hi] at h1; cases h1
  | some i => rw [hi] at h1; exact hP i q (Option.some.inj h1)
/-- a contract's start sees no frames -/
theorem g_blind {args : List Value} {wc : va_W} {sz : Nat} : FrameBlind (va_Pc args (fun U => U.heap.size = sz ∧ va_P E.2.1 vwCl wc U.heap ∧ va_K E.2.1 vwCl (g_ty E) U ∧ va_D (fun _ => True) wc ∧ g_St E (va_A wc sz) U U.heap ∧ g_N U)) := by
  intro a U g mk q
  obtain ⟨q0, q1, qP, qK, qD, qS, qN⟩ := q
  exact ⟨q0, q1, qP, va_K.moved (u := U) (U := U.calling g mk a) (Vm.Alike.refl U.vm) qK, qD, qS.moved (u := U) (U := U.calling g mk a) (Vm.Alike.refl U.vm), qN.same (u := U) (U := U.calling g mk a) rfl⟩
/-- words of a method that is called: link, code -/
def CL (own : String) (idx n : Nat) (M : g_M) : Prop := Cond.methodLink own idx M.1 ∈ g_tbl ∧ g_cw M ∈ g_tbl ∧ Cond.initialized M.1.cls ∈ g_tbl ∧ M.1.cls ≠ "java/lang/invoke/MethodHandle" ∧ M.1.cls ≠ "java/lang/invoke/VarHandle" ∧ (parseMethodDescriptor M.1.desc).map (fun d => d.parameters.length) = some n
theorem g_good {M : g_M} (h : g_cw M ∈ g_tbl) : GoodIn g_tbl (g_w M) := by
  intro w hw
  have h1 : w ∈ g_tbl := by
    rcases List.mem_cons.mp hw with h2 | h2
    · rw [h2]; exact h
    · exact h2
  exact ⟨h1, good_of_word (List.mem_filter.mp h1).2⟩
theorem g_callV (B : Bd E X cc own nL fr lo mc ms) {M : g_M} {f1 l1 c1 s1 idx n b ci nc' ns' : Nat} {As : List Value} {stk : List Value} {wc wr : va_W} {Qc : Option Value → va_W → Prop} {fs : List Value} (hC : CL own idx n M) (hI : Cond.instanceMethod M.1 ∈ g_tbl) (hV : Cond.selects M.1.cls M.1 M.1 ∈ g_tbl) (hE : Ev E M f1 l1 c1 s1 (.ref b :: As) wc Qc) (hn : As.length = n) (isC isR : List Nat) (h1 : isC.map (fun i => ws[i]?) = wc.map some) (h2 : isR.map (fun i => ws[i]?) = wr.map some) (h3 : va_nd isC = true) (h4 : va_nd isR = true) (h5 : ∀ i ∈ isR, i ∉ isC) (q0 : Nat) (he : wc[q0]? = some (b, .inr (ci, fs))) (hcl : ∀ q : vw_C, vwCl[ci]? = some q → q.1 = M.1.cls) (hci : (vwCl[ci]?).isSome = true) (hroom : f1 + 1 ≤ fr ∧ 8 + (M.2.2.1 + 11) + l1 ≤ lo) (hnc : nc + c1 = nc') (hns : ns + s1 = ns') (hcm : nc' ≤ mc) (hsm : ns' ≤ ms) (hstk : stk = As.reverse ++ .ref b :: st) (hst : (st.map fun v => v.category).sum ≤ 8) (hd : decode cc pc = .ok (.invokevirtual idx, 3)) (kk : ∀ (v : Option Value) (w : va_W), Qc v w → G E X nL (wr ++ w) nc' ns' lv (pc + 3) (v.toList ++ st)) : G E X nL ws nc ns lv pc stk := by
  obtain ⟨p, e, s, m, args, below, meth, c, R, A, Q⟩ := X
  obtain ⟨hx, hb, hml, hown, hts, hK, hA, hSt, hNe, hlk, hR⟩ := B
  intro H locs ls hP hD hS hl
  subst hnc hns hR hstk
  obtain ⟨cM, cC, cI, cn1, cn2, cd⟩ := hC
  obtain ⟨q, hq⟩ := Option.isSome_iff_exists.mp hci
  have hPc := g_subP hP isC h1
  have hDc := hD.sub isC h3 h1
  have hFc := va_free (wc := wc) hD hS hA isC h1
  obtain ⟨y, yc, yL, yr⟩ := M
  have hcw : CallW { frames := fr, cells := mc, slots := ms, locals := lo } s args own y.cls idx y yc yL yr (g_w (y, yc, yL, yr)) { frames := f1, cells := c1, slots := s1, locals := l1 } c1 s1 n := ⟨callB_of n hts (g_good cC) rfl rfl rfl (hts _ cI) (hts _ cM) ⟨cn1, cn2, cd⟩ hroom, hts _ hI, hts _ hV⟩
  refine g_back (va_runV (As := As) (rest := st) (Ts := g_tbl) ⟨hx, hb, hml, hown, hts⟩ (hE H.size) hcw ⟨g_blind, ?_, fun U hU hW => ⟨rfl, by rw [hU], by rw [hU]; exact hPc, va_K.moved hW.alike hK, hDc.weaken (fun _ _ _ _ => trivial), ?_, hNe.warm hW⟩⟩ rfl hn hl.1 rfl (lv_room hst) hd ⟨hcm, hsm⟩) hS (fun q _ h => hFc q h) hFc (fun v w H1 locs1 hqc hP1 hD1 hz1 hk1 hS1 => ?_)
  · have h9 := va_recv (q := q) hK hPc hq he
    rw [hcl q hq] at h9
    exact h9
  · rw [hU]
    exact ((hSt.kept (H1 := H) (fun a ha hna => hS.2.1 a ha hna)).narrow hFc).moved hW.alike
  · obtain ⟨hP2, hD2⟩ := va_join hP hD isC isR h1 h2 h4 h5 hk1 hFc hP1 hD1
    exact kk v w hqc H1 locs1 ls hP2 hD2 hS1 hl
theorem g_callI (B : Bd E X cc own nL fr lo mc ms) {M : g_M} {f1 l1 c1 s1 idx n b nc' ns' : Nat} {As : List Value} {stk : List Value} {wc wr : va_W} {Qc : Option Value → va_W → Prop} (hC : CL own idx n M) (hI : Cond.instanceMethod M.1 ∈ g_tbl) (hN : M.1.name = "<init>") (hrt : M.2.2.2 = none) (hE : Ev E M f1 l1 c1 s1 (.ref b :: As) wc Qc) (hn : As.length = n) (isC isR : List Nat) (h1 : isC.map (fun i => ws[i]?) = wc.map some) (h2 : isR.map (fun i => ws[i]?) = wr.map some) (h3 : va_nd isC = true) (h4 : va_nd isR = true) (h5 : ∀ i ∈ isR, i ∉ isC) (hroom : f1 + 1 ≤ fr ∧ 8 + (M.2.2.1 + 11) + l1 ≤ lo) (hnc : nc + c1 = nc') (hns : ns + s1 = ns') (hcm : nc' ≤ mc) (hsm : ns' ≤ ms) (hstk : stk = As.reverse ++ .ref b :: st) (hst : (st.map fun v => v.category).sum ≤ 8) (hd : decode cc pc = .ok (.invokespecial idx, 3)) (kk : ∀ (v : Option Value) (w : va_W), Qc v w → G E X nL (wr ++ w) nc' ns' lv (pc + 3) (v.toList ++ st)) : G E X nL ws nc ns lv pc stk := by
  obtain ⟨p, e, s, m, args, below, meth, c, R, A, Q⟩ := X
  obtain ⟨hx, hb, hml, hown, hts, hK, hA, hSt, hNe, hlk, hR⟩ := B
  intro H locs ls hP hD hS hl
  subst hnc hns hR hstk
  obtain ⟨cM, cC, cI, cn1, cn2, cd⟩ := hC
  have hPc := g_subP hP isC h1
  have hDc := hD.sub isC h3 h1
  have hFc := va_free (wc := wc) hD hS hA isC h1
  obtain ⟨y, yc, yL, yr⟩ := M
  subst hrt
  have hcw : CallB { frames := fr, cells := mc, slots := ms, locals := lo } s args own idx y yc yL none (g_w (y, yc, yL, none)) { frames := f1, cells := c1, slots := s1, locals := l1 } c1 s1 n := callB_of n hts (g_good cC) rfl rfl rfl (hts _ cI) (hts _ cM) ⟨cn1, cn2, cd⟩ hroom
  refine g_back (va_runI (As := As) (rest := st) (Ts := g_tbl) ⟨hx, hb, hml, hown, hts⟩ (hE H.size) ⟨hcw, hN, hts _ hI⟩ ⟨g_blind, fun U hU hW => ⟨rfl, by rw [hU], by rw [hU]; exact hPc, va_K.moved hW.alike hK, hDc.weaken (fun _ _ _ _ => trivial), ?_, hNe.warm hW⟩⟩ rfl hn hl.1 rfl (lv_room hst) hd ⟨hcm, hsm⟩) hS (fun q _ h => hFc q h) hFc (fun v w H1 locs1 hqc hP1 hD1 hz1 hk1 hS1 => ?_)
  · rw [hU]
    exact ((hSt.kept (H1 := H) (fun a ha hna => hS.2.1 a ha hna)).narrow hFc).moved hW.alike
  · obtain ⟨hP2, hD2⟩ := va_join hP hD isC isR h1 h2 h4 h5 hk1 hFc hP1 hD1
    exact kk v w hqc H1 locs1 ls hP2 hD2 hS1 hl
theorem g_callS (B : Bd E X cc own nL fr lo mc ms) {M : g_M} {f1 l1 c1 s1 idx n nc' ns' : Nat} {As : List Value} {stk : List Value} {wc wr : va_W} {Qc : Option Value → va_W → Prop} (hC : CL own idx n M) (hI : Cond.static M.1 ∈ g_tbl) (hE : Ev E M f1 l1 c1 s1 As wc Qc) (hn : As.length = n) (isC isR : List Nat) (h1 : isC.map (fun i => ws[i]?) = wc.map some) (h2 : isR.map (fun i => ws[i]?) = wr.map some) (h3 : va_nd isC = true) (h4 : va_nd isR = true) (h5 : ∀ i ∈ isR, i ∉ isC) (hroom : f1 + 1 ≤ fr ∧ 8 + (M.2.2.1 + 11) + l1 ≤ lo) (hnc : nc + c1 = nc') (hns : ns + s1 = ns') (hcm : nc' ≤ mc) (hsm : ns' ≤ ms) (hstk : stk = As.reverse ++ st) (hst : (st.map fun v => v.category).sum ≤ 8) (hd : decode cc pc = .ok (.invokestatic idx, 3)) (kk : ∀ (v : Option Value) (w : va_W), Qc v w → G E X nL (wr ++ w) nc' ns' lv (pc + 3) (v.toList ++ st)) : G E X nL ws nc ns lv pc stk := by
  obtain ⟨p, e, s, m, args, below, meth, c, R, A, Q⟩ := X
  obtain ⟨hx, hb, hml, hown, hts, hK, hA, hSt, hNe, hlk, hR⟩ := B
  intro H locs ls hP hD hS hl
  subst hnc hns hR hstk
  obtain ⟨cM, cC, cI, cn1, cn2, cd⟩ := hC
  have hPc := g_subP hP isC h1
  have hDc := hD.sub isC h3 h1
  have hFc := va_free (wc := wc) hD hS hA isC h1
  obtain ⟨y, yc, yL, yr⟩ := M
  have hcw : CallB { frames := fr, cells := mc, slots := ms, locals := lo } s args own idx y yc yL yr (g_w (y, yc, yL, yr)) { frames := f1, cells := c1, slots := s1, locals := l1 } c1 s1 n := callB_of n hts (g_good cC) rfl rfl rfl (hts _ cI) (hts _ cM) ⟨cn1, cn2, cd⟩ hroom
  refine g_back (va_runS (As := As) (rest := st) (Ts := g_tbl) ⟨hx, hb, hml, hown, hts⟩ (hE H.size) ⟨hcw, hts _ hI⟩ ⟨g_blind, fun U hU hW => ⟨rfl, by rw [hU], by rw [hU]; exact hPc, va_K.moved hW.alike hK, hDc.weaken (fun _ _ _ _ => trivial), ?_, hNe.warm hW⟩⟩ rfl hn hl.1 rfl (lv_room hst) hd ⟨hcm, hsm⟩) hS (fun q _ h => hFc q h) hFc (fun v w H1 locs1 hqc hP1 hD1 hz1 hk1 hS1 => ?_)
  · rw [hU]
    exact ((hSt.kept (H1 := H) (fun a ha hna => hS.2.1 a ha hna)).narrow hFc).moved hW.alike
  · obtain ⟨hP2, hD2⟩ := va_join hP hD isC isR h1 h2 h4 h5 hk1 hFc hP1 hD1
    exact kk v w hqc H1 locs1 ls hP2 hD2 hS1 hl
theorem g_ri {x x' : Int32} (h : x = x') (k : G E X nL ws nc ns lv pc (.int x' :: st)) : G E X nL ws nc ns lv pc (.int x :: st) := h ▸ k
theorem g_rl {x x' : Int64} (h : x = x') (k : G E X nL ws nc ns lv pc (.long x' :: st)) : G E X nL ws nc ns lv pc (.long x :: st) := h ▸ k
theorem g_hb : yX10_highestBit.cls ≠ "java/lang/invoke/MethodHandle" ∧ yX10_highestBit.cls ≠ "java/lang/invoke/VarHandle" ∧ (parseMethodDescriptor yX10_highestBit.desc).map (fun d => d.parameters.length) = some 1 := ⟨by decide +kernel, by decide +kernel, by decide +kernel⟩
theorem g_callSR (B : Bd E X cc "SoundPress$BitReader" nL fr lo mc ms) {f1 l1 c1 s1 nc' ns' : Nat} {yc : ByteArray} {yL : Nat} {yr : Option FieldType} {As : List Value} {stk : List Value} {wc wr : va_W} {Qc : Option Value → va_W → Prop} (cC : g_cw (yX10_highestBit, yc, yL, yr) ∈ g_tbl) (cI : Cond.initialized RX10 ∈ g_tbl) (hI : Cond.static yX10_highestBit ∈ g_tbl) (hE : Ev E (yX10_highestBit, yc, yL, yr) f1 l1 c1 s1 As wc Qc) (hn : As.length = 1) (isC isR : List Nat) (h1 : isC.map (fun i => ws[i]?) = wc.map some) (h2 : isR.map (fun i => ws[i]?) = wr.map some) (h3 : va_nd isC = true) (h4 : va_nd isR = true) (h5 : ∀ i ∈ isR, i ∉ isC) (hroom : f1 + 1 ≤ fr ∧ 8 + (yL + 11) + l1 ≤ lo) (hnc : nc + c1 = nc') (hns : ns + s1 = ns') (hcm : nc' ≤ mc) (hsm : ns' ≤ ms) (hstk : stk = As.reverse ++ st) (hst : (st.map fun v => v.category).sum ≤ 8) (hd : decode cc pc = .ok (.invokestatic NEST_R, 3)) (kk : ∀ (v : Option Value) (w : va_W), Qc v w → G E X nL (wr ++ w) nc' ns' lv (pc + 3) (v.toList ++ st)) : G E X nL ws nc ns lv pc stk := by
  obtain ⟨p, e, s, m, args, below, meth, c, R, A, Q⟩ := X
  obtain ⟨hx, hb, hml, hown, hts, hK, hA, hSt, hNe, hlk, hR⟩ := B
  intro H locs ls hP hD hS hl
  subst hnc hns hR hstk
  have hPc := g_subP hP isC h1
  have hDc := hD.sub isC h3 h1
  have hFc := va_free (wc := wc) hD hS hA isC h1
  have hcw := va_cnB (R := { frames := fr, cells := mc, slots := ms, locals := lo }) (rm := { frames := f1, cells := c1, slots := s1, locals := l1 }) (mc := c1) (ms := s1) (bytes := yc) (maxL := yL) (ret := yr) 1 hts (g_good (M := (yX10_highestBit, yc, yL, yr)) cC) rfl rfl rfl hNe.1 (hts _ cI) g_hb hroom
  refine g_back (va_runSN (As := As) (rest := st) (Ts := g_tbl) ⟨hx, hb, hml, hown, hts⟩ (hE H.size) ⟨hcw, hts _ hI, trivial⟩ ⟨g_blind, fun U hU hW => ⟨rfl, by rw [hU], by rw [hU]; exact hPc, va_K.moved hW.alike hK, hDc.weaken (fun _ _ _ _ => trivial), ?_, hNe.warm hW⟩⟩ rfl hn hl.1 rfl (lv_room hst) hd ⟨hcm, hsm⟩) hS (fun q _ h => hFc q h) hFc (fun v w H1 locs1 hqc hP1 hD1 hz1 hk1 hS1 => ?_)
  · rw [hU]
    exact ((hSt.kept (H1 := H) (fun a ha hna => hS.2.1 a ha hna)).narrow hFc).moved hW.alike
  · obtain ⟨hP2, hD2⟩ := va_join hP hD isC isR h1 h2 h4 h5 hk1 hFc hP1 hD1
    exact kk v w hqc H1 locs1 ls hP2 hD2 hS1 hl
theorem g_callSW (B : Bd E X cc "SoundPress$BitWriter" nL fr lo mc ms) {f1 l1 c1 s1 nc' ns' : Nat} {yc : ByteArray} {yL : Nat} {yr : Option FieldType} {As : List Value} {stk : List Value} {wc wr : va_W} {Qc : Option Value → va_W → Prop} (cC : g_cw (yX10_highestBit, yc, yL, yr) ∈ g_tbl) (cI : Cond.initialized RX10 ∈ g_tbl) (hI : Cond.static yX10_highestBit ∈ g_tbl) (hE : Ev E (yX10_highestBit, yc, yL, yr) f1 l1 c1 s1 As wc Qc) (hn : As.length = 1) (isC isR : List Nat) (h1 : isC.map (fun i => ws[i]?) = wc.map some) (h2 : isR.map (fun i => ws[i]?) = wr.map some) (h3 : va_nd isC = true) (h4 : va_nd isR = true) (h5 : ∀ i ∈ isR, i ∉ isC) (hroom : f1 + 1 ≤ fr ∧ 8 + (yL + 11) + l1 ≤ lo) (hnc : nc + c1 = nc') (hns : ns + s1 = ns') (hcm : nc' ≤ mc) (hsm : ns' ≤ ms) (hstk : stk = As.reverse ++ st) (hst : (st.map fun v => v.category).sum ≤ 8) (hd : decode cc pc = .ok (.invokestatic NEST_W, 3)) (kk : ∀ (v : Option Value) (w : va_W), Qc v w → G E X nL (wr ++ w) nc' ns' lv (pc + 3) (v.toList ++ st)) : G E X nL ws nc ns lv pc stk := by
  obtain ⟨p, e, s, m, args, below, meth, c, R, A, Q⟩ := X
  obtain ⟨hx, hb, hml, hown, hts, hK, hA, hSt, hNe, hlk, hR⟩ := B
  intro H locs ls hP hD hS hl
  subst hnc hns hR hstk
  have hPc := g_subP hP isC h1
  have hDc := hD.sub isC h3 h1
  have hFc := va_free (wc := wc) hD hS hA isC h1
  have hcw := va_cnB (R := { frames := fr, cells := mc, slots := ms, locals := lo }) (rm := { frames := f1, cells := c1, slots := s1, locals := l1 }) (mc := c1) (ms := s1) (bytes := yc) (maxL := yL) (ret := yr) 1 hts (g_good (M := (yX10_highestBit, yc, yL, yr)) cC) rfl rfl rfl hNe.2.1 (hts _ cI) g_hb hroom
  refine g_back (va_runSN (As := As) (rest := st) (Ts := g_tbl) ⟨hx, hb, hml, hown, hts⟩ (hE H.size) ⟨hcw, hts _ hI, trivial⟩ ⟨g_blind, fun U hU hW => ⟨rfl, by rw [hU], by rw [hU]; exact hPc, va_K.moved hW.alike hK, hDc.weaken (fun _ _ _ _ => trivial), ?_, hNe.warm hW⟩⟩ rfl hn hl.1 rfl (lv_room hst) hd ⟨hcm, hsm⟩) hS (fun q _ h => hFc q h) hFc (fun v w H1 locs1 hqc hP1 hD1 hz1 hk1 hS1 => ?_)
  · rw [hU]
    exact ((hSt.kept (H1 := H) (fun a ha hna => hS.2.1 a ha hna)).narrow hFc).moved hW.alike
  · obtain ⟨hP2, hD2⟩ := va_join hP hD isC isR h1 h2 h4 h5 hk1 hFc hP1 hD1
    exact kk v w hqc H1 locs1 ls hP2 hD2 hS1 hl
/-- System.arraycopy of bytes -/
theorem g_copyb (B : Bd E X cc own nL fr lo mc ms) {idx a a0 n0 n1 : Nat} {f g : Nat → Int32} {sp dp n : Int32} {ws' : va_W} (w1 : Cond.methodLink own idx arraycopyName ∈ g_tbl) (w2 : Cond.native arraycopyName ∈ g_tbl) (w3 : Cond.static arraycopyName ∈ g_tbl) (w4 : Cond.initialized "java/lang/System" ∈ g_tbl) (q0 q1 : Nat) (ha0 : ws[q0]? = some (a0, .inl (E.2.2.1 1, n0, .inl f))) (ha1 : ws[q1]? = some (a, .inl (E.2.2.1 1, n1, .inl g))) (h1 : ¬ sp < 0) (h2 : ¬ dp < 0) (h3 : ¬ n < 0) (h4 : sp.toNatClampNeg + n.toNatClampNeg ≤ n0) (h5 : dp.toNatClampNeg + n.toNatClampNeg ≤ n1) (hfit : ∀ i, i < n.toNatClampNeg → fits .byte (.int (f (sp.toNatClampNeg + i))) = true) (hf : 1 ≤ fr) (hlo : (st.map fun v => v.category).sum + (nativeFrameWords "java/lang/System" "arraycopy" 5 + 11) ≤ lo) (hw : ws.set q1 (a, .inl (E.2.2.1 1, n1, .inl (va_cpy f g sp.toNatClampNeg dp.toNatClampNeg n.toNatClampNeg))) = ws') (hd : decode cc pc = .ok (.invokestatic idx, 3)) (kk : G E X nL ws' nc ns lv (pc + 3) st) : G E X nL ws nc ns lv pc (.int n :: .int dp :: .ref a :: .int sp :: .ref a0 :: st) := by
  obtain ⟨p, e, s, m, args, below, meth, c, R, A, Q⟩ := X
  obtain ⟨hx, hb, hml, hown, hts, hK, hA, hSt, hNe, hlk, hR⟩ := B
  intro H locs ls hP hD hS hl
  subst hR hw
  exact va_copyi hx hb (hml.trans hl.1.symm) hown (hts _ w1) (hts _ w2) (hts _ w3) (hts _ w4) hK hP hD hS q0 q1 1 1 ha0 ha1 (ty := .byte) rfl rfl rfl h1 h2 h3 h4 h5 hfit hf hlo hd (fun H1 locs1 hP1 hD1 hS1 => kk H1 locs1 ls hP1 hD1 hS1 hl)
/-- the law's script -/
def Sc (X : g_X) (b N : Nat) (xs : Nat → Int32) : Prop := match X with
  | (_, _, s, _, _, _, _, _, _, A, _) => va_X b N xs s s.heap ∧ b < s.heap.size ∧ ¬ A b
theorem g_sld (B : Bd E X cc own nL fr lo mc ms) {b N : Nat} {xs : Nat → Int32} (hX : Sc X b N xs) {i : Int32} (hin : vp_in i N) (hd : decode cc pc = .ok (.iaload, 1)) (kk : G E X nL ws nc ns lv (pc + 1) (.int (xs i.toNatClampNeg) :: st)) : G E X nL ws nc ns lv pc (.int i :: .ref b :: st) := by
  obtain ⟨p, e, s, m, args, below, meth, c, R, A, Q⟩ := X
  obtain ⟨hx, hb, hml, hown, hts, hK, hA, hSt, hNe, hlk, hR⟩ := B
  intro H locs ls hP hD hS hl
  obtain ⟨h1, h2, h3⟩ := hX
  exact va_sld hx hb h1 h2 h3 hS hin hd (kk H locs ls hP hD hS hl)
theorem g_slen (B : Bd E X cc own nL fr lo mc ms) {b N : Nat} {xs : Nat → Int32} (hX : Sc X b N xs) (hd : decode cc pc = .ok (.arraylength, 1)) (kk : G E X nL ws nc ns lv (pc + 1) (.int (Int32.ofNat N) :: st)) : G E X nL ws nc ns lv pc (.ref b :: st) := by
  obtain ⟨p, e, s, m, args, below, meth, c, R, A, Q⟩ := X
  obtain ⟨hx, hb, hml, hown, hts, hK, hA, hSt, hNe, hlk, hR⟩ := B
  intro H locs ls hP hD hS hl
  obtain ⟨h1, h2, h3⟩ := hX
  exact va_slen hx hb h1 h2 h3 hS hd (kk H locs ls hP hD hS hl)
end LAYER
end
section
abbrev MX2_init : g_M := (yX2_init, cX2_init, 2, none)
theorem dX2_init_0 : decode cX2_init 0 = .ok (.aload_n 0, 1) := by decide +kernel
theorem dX2_init_1 : decode cX2_init 1 = .ok (.invokespecial 3, 3) := by decide +kernel
theorem w_im_obj : Cond.instanceMethod objectInit ∈ g_tbl := g_tbl_in 91 (by decide +kernel) (by decide +kernel)
theorem w_cd_obj : Cond.code objectInit ⟨#[0xb1]⟩ 1 none ∈ g_tbl := g_tbl_in 92 (by decide +kernel) (by decide +kernel)
theorem w_mlo_X2_3 : Cond.methodLink RX2 3 objectInit ∈ g_tbl := g_tbl_in 123 (by decide +kernel) (by decide +kernel)
theorem dX2_init_4 : decode cX2_init 4 = .ok (.aload_n 0, 1) := by decide +kernel
theorem dX2_init_5 : decode cX2_init 5 = .ok (.iconst 0, 1) := by decide +kernel
theorem dX2_init_6 : decode cX2_init 6 = .ok (.iload_n 1, 1) := by decide +kernel
theorem dX2_init_7 : decode cX2_init 7 = .ok (.invokestatic 9, 3) := by decide +kernel
theorem w_mlm_X2_9 : Cond.methodLink RX2 9 Lib.Math.max.name ∈ g_tbl := g_tbl_in 124 (by decide +kernel) (by decide +kernel)
theorem w_smm_max_II_I : Cond.static Lib.Math.max.name ∈ g_tbl := g_tbl_in 125 (by decide +kernel) (by decide +kernel)
theorem w_ini_Math : Cond.initialized "java/lang/Math" ∈ g_tbl := g_tbl_in 71 (by decide +kernel) (by decide +kernel)
theorem w_cdm_max_II_I : Cond.code Lib.Math.max.name Lib.Math.max.code 2 (some .int) ∈ g_tbl := g_tbl_in 126 (by decide +kernel) (by decide +kernel)
theorem dX2_init_10 : decode cX2_init 10 = .ok (.newarray .byte, 2) := by decide +kernel
theorem w_ac_byte : Cond.arrayClass .byte ∈ g_tbl := g_tbl_in 139 (by decide +kernel) (by decide +kernel)
theorem dX2_init_12 : decode cX2_init 12 = .ok (.putfield 15, 3) := by decide +kernel
theorem w_fl_X2_15 : Cond.fieldLink RX2 15 (TX2 0).1 (TX2 0).2.1 (TX2 0).2.2.1 ∈ g_tbl := g_tbl_in 127 (by decide +kernel) (by decide +kernel)
set_option maxRecDepth 100000 in
theorem inX_X2 : ∀ w ∈ u_ws RX2 TX2 2, w ∈ g_tbl := by decide +kernel
theorem fl_X2_15 : FL RX2 15 2 0 := ⟨RX2, TX2, 2, rfl, by decide, inX_X2, w_fl_X2_15⟩
theorem pf_X2_0 : PF 2 0 (.array .byte) true := fun C T N h => by cases h; exact ⟨⟨tyX2, tyX2_ok⟩, nmX2, by decide +kernel, rfl, rfl⟩
theorem dX2_init_15 : decode cX2_init 15 = .ok (.aload_n 0, 1) := by decide +kernel
theorem dX2_init_16 : decode cX2_init 16 = .ok (.iconst 0, 1) := by decide +kernel
theorem dX2_init_17 : decode cX2_init 17 = .ok (.putfield 21, 3) := by decide +kernel
theorem w_fl_X2_21 : Cond.fieldLink RX2 21 (TX2 1).1 (TX2 1).2.1 (TX2 1).2.2.1 ∈ g_tbl := g_tbl_in 130 (by decide +kernel) (by decide +kernel)
theorem fl_X2_21 : FL RX2 21 2 1 := ⟨RX2, TX2, 2, rfl, by decide, inX_X2, w_fl_X2_21⟩
theorem pf_X2_1 : PF 2 1 .int false := fun C T N h => by cases h; exact ⟨⟨tyX2, tyX2_ok⟩, nmX2, by decide +kernel, rfl, rfl⟩
theorem dX2_init_20 : decode cX2_init 20 = .ok (.return_, 1) := by decide +kernel
set_option maxRecDepth 100000 in
set_option maxHeartbeats 4000000 in
theorem ev_X2_init_6000 (E : g_E) (t : Nat)  : Ev E MX2_init 1 23 1 6000 [.ref t, .int 6000] [(t, .inr (2, [.null, .int 0]))] (fun v w => ∃ q : Nat, v = none ∧ w = [(t, .inr (2, [.ref q, .int 0])), (q, .inl (E.2.2.1 1, 6000, .inl (fun _ => 0)))]) := by
  refine Ev.intro (by decide) (Nat.le_of_ble_eq_true rfl) ?_
  intro X B hr hI
  have B : Bd E X cX2_init RX2 2 1 23 1 6000 := B
  have hr : Rt E X none 1 6000 (fun v w => ∃ q : Nat, v = none ∧ w = [(t, .inr (2, [.ref q, .int 0])), (q, .inl (E.2.2.1 1, 6000, .inl (fun _ => 0)))]) := hr
  have hI : In X := hI rfl
  show G E X 2 [(t, .inr (2, [.null, .int 0]))] 0 0 [(0, .ref t), (1, .int 6000)] 0 []
  refine g_aload_n B dX2_init_0 rfl 0 rfl ?_
  refine g_obj B w_mlo_X2_3 w_im_obj w_cd_obj (by decide) (Nat.le_of_ble_eq_true rfl) dX2_init_1 ?_
  refine g_aload_n B dX2_init_4 rfl 0 rfl ?_
  refine g_iconst (v := 0) B dX2_init_5 (by decide) ?_
  refine g_iload_n B dX2_init_6 rfl 1 rfl ?_
  refine g_mmax B w_mlm_X2_9 w_smm_max_II_I w_ini_Math w_cdm_max_II_I (by decide) (Nat.le_of_ble_eq_true rfl) (by decide) (by decide) dX2_init_7 ?_
  refine g_ri (x' := 6000) (by decide) ?_
  refine g_newa (ty := .byte) (t0 := 1) (N := 6000) (nc' := 1) (ns' := 6000) (a0 := (6000, .inl (fun _ => 0))) (ws' := fun q_1 => [(t, .inr (2, [.null, .int 0])), (q_1, .inl (E.2.2.1 1, 6000, .inl (fun _ => 0)))]) B w_ac_byte rfl rfl rfl (fun _ => rfl) (by decide) (by decide) (by decide) rfl rfl (by decide) (by decide) (fun _ => rfl) dX2_init_10 (fun q_1 => ?_)
  refine g_putF (ws' := [(t, .inr (2, [.ref q_1, .int 0])), (q_1, .inl (E.2.2.1 1, 6000, .inl (fun _ => 0)))]) B hI 0 0 fl_X2_15 pf_X2_0 (fun q h => by cases h; rfl) rfl (Nat.le_of_ble_eq_true rfl) rfl rfl rfl dX2_init_12 ?_
  refine g_aload_n B dX2_init_15 rfl 0 rfl ?_
  refine g_iconst (v := 0) B dX2_init_16 (by decide) ?_
  refine g_put (ws' := [(t, .inr (2, [.ref q_1, .int 0])), (q_1, .inl (E.2.2.1 1, 6000, .inl (fun _ => 0)))]) B 0 1 fl_X2_21 pf_X2_1 rfl (Nat.le_of_ble_eq_true rfl) rfl rfl rfl dX2_init_17 ?_
  exact g_vret B hr dX2_init_20 (by decide) (by decide) ⟨q_1, rfl, rfl⟩
set_option maxRecDepth 100000 in
set_option maxHeartbeats 4000000 in
theorem ev_X2_init_9600 (E : g_E) (t : Nat)  : Ev E MX2_init 1 23 1 9600 [.ref t, .int 9600] [(t, .inr (2, [.null, .int 0]))] (fun v w => ∃ q : Nat, v = none ∧ w = [(t, .inr (2, [.ref q, .int 0])), (q, .inl (E.2.2.1 1, 9600, .inl (fun _ => 0)))]) := by
  refine Ev.intro (by decide) (Nat.le_of_ble_eq_true rfl) ?_
  intro X B hr hI
  have B : Bd E X cX2_init RX2 2 1 23 1 9600 := B
  have hr : Rt E X none 1 9600 (fun v w => ∃ q : Nat, v = none ∧ w = [(t, .inr (2, [.ref q, .int 0])), (q, .inl (E.2.2.1 1, 9600, .inl (fun _ => 0)))]) := hr
  have hI : In X := hI rfl
  show G E X 2 [(t, .inr (2, [.null, .int 0]))] 0 0 [(0, .ref t), (1, .int 9600)] 0 []
  refine g_aload_n B dX2_init_0 rfl 0 rfl ?_
  refine g_obj B w_mlo_X2_3 w_im_obj w_cd_obj (by decide) (Nat.le_of_ble_eq_true rfl) dX2_init_1 ?_
  refine g_aload_n B dX2_init_4 rfl 0 rfl ?_
  refine g_iconst (v := 0) B dX2_init_5 (by decide) ?_
  refine g_iload_n B dX2_init_6 rfl 1 rfl ?_
  refine g_mmax B w_mlm_X2_9 w_smm_max_II_I w_ini_Math w_cdm_max_II_I (by decide) (Nat.le_of_ble_eq_true rfl) (by decide) (by decide) dX2_init_7 ?_
  refine g_ri (x' := 9600) (by decide) ?_
  refine g_newa (ty := .byte) (t0 := 1) (N := 9600) (nc' := 1) (ns' := 9600) (a0 := (9600, .inl (fun _ => 0))) (ws' := fun q_2 => [(t, .inr (2, [.null, .int 0])), (q_2, .inl (E.2.2.1 1, 9600, .inl (fun _ => 0)))]) B w_ac_byte rfl rfl rfl (fun _ => rfl) (by decide) (by decide) (by decide) rfl rfl (by decide) (by decide) (fun _ => rfl) dX2_init_10 (fun q_2 => ?_)
  refine g_putF (ws' := [(t, .inr (2, [.ref q_2, .int 0])), (q_2, .inl (E.2.2.1 1, 9600, .inl (fun _ => 0)))]) B hI 0 0 fl_X2_15 pf_X2_0 (fun q h => by cases h; rfl) rfl (Nat.le_of_ble_eq_true rfl) rfl rfl rfl dX2_init_12 ?_
  refine g_aload_n B dX2_init_15 rfl 0 rfl ?_
  refine g_iconst (v := 0) B dX2_init_16 (by decide) ?_
  refine g_put (ws' := [(t, .inr (2, [.ref q_2, .int 0])), (q_2, .inl (E.2.2.1 1, 9600, .inl (fun _ => 0)))]) B 0 1 fl_X2_21 pf_X2_1 rfl (Nat.le_of_ble_eq_true rfl) rfl rfl rfl dX2_init_17 ?_
  exact g_vret B hr dX2_init_20 (by decide) (by decide) ⟨q_2, rfl, rfl⟩
set_option maxRecDepth 100000 in
set_option maxHeartbeats 4000000 in
theorem ev_X2_init_2450 (E : g_E) (t : Nat)  : Ev E MX2_init 1 23 1 2450 [.ref t, .int 2450] [(t, .inr (2, [.null, .int 0]))] (fun v w => ∃ q : Nat, v = none ∧ w = [(t, .inr (2, [.ref q, .int 0])), (q, .inl (E.2.2.1 1, 2450, .inl (fun _ => 0)))]) := by
  refine Ev.intro (by decide) (Nat.le_of_ble_eq_true rfl) ?_
  intro X B hr hI
  have B : Bd E X cX2_init RX2 2 1 23 1 2450 := B
  have hr : Rt E X none 1 2450 (fun v w => ∃ q : Nat, v = none ∧ w = [(t, .inr (2, [.ref q, .int 0])), (q, .inl (E.2.2.1 1, 2450, .inl (fun _ => 0)))]) := hr
  have hI : In X := hI rfl
  show G E X 2 [(t, .inr (2, [.null, .int 0]))] 0 0 [(0, .ref t), (1, .int 2450)] 0 []
  refine g_aload_n B dX2_init_0 rfl 0 rfl ?_
  refine g_obj B w_mlo_X2_3 w_im_obj w_cd_obj (by decide) (Nat.le_of_ble_eq_true rfl) dX2_init_1 ?_
  refine g_aload_n B dX2_init_4 rfl 0 rfl ?_
  refine g_iconst (v := 0) B dX2_init_5 (by decide) ?_
  refine g_iload_n B dX2_init_6 rfl 1 rfl ?_
  refine g_mmax B w_mlm_X2_9 w_smm_max_II_I w_ini_Math w_cdm_max_II_I (by decide) (Nat.le_of_ble_eq_true rfl) (by decide) (by decide) dX2_init_7 ?_
  refine g_ri (x' := 2450) (by decide) ?_
  refine g_newa (ty := .byte) (t0 := 1) (N := 2450) (nc' := 1) (ns' := 2450) (a0 := (2450, .inl (fun _ => 0))) (ws' := fun q_3 => [(t, .inr (2, [.null, .int 0])), (q_3, .inl (E.2.2.1 1, 2450, .inl (fun _ => 0)))]) B w_ac_byte rfl rfl rfl (fun _ => rfl) (by decide) (by decide) (by decide) rfl rfl (by decide) (by decide) (fun _ => rfl) dX2_init_10 (fun q_3 => ?_)
  refine g_putF (ws' := [(t, .inr (2, [.ref q_3, .int 0])), (q_3, .inl (E.2.2.1 1, 2450, .inl (fun _ => 0)))]) B hI 0 0 fl_X2_15 pf_X2_0 (fun q h => by cases h; rfl) rfl (Nat.le_of_ble_eq_true rfl) rfl rfl rfl dX2_init_12 ?_
  refine g_aload_n B dX2_init_15 rfl 0 rfl ?_
  refine g_iconst (v := 0) B dX2_init_16 (by decide) ?_
  refine g_put (ws' := [(t, .inr (2, [.ref q_3, .int 0])), (q_3, .inl (E.2.2.1 1, 2450, .inl (fun _ => 0)))]) B 0 1 fl_X2_21 pf_X2_1 rfl (Nat.le_of_ble_eq_true rfl) rfl rfl rfl dX2_init_17 ?_
  exact g_vret B hr dX2_init_20 (by decide) (by decide) ⟨q_3, rfl, rfl⟩
end

/-! functions by continuations -/
def fnL {α β : Type} (t : α) (f : α → β) : β := f t
theorem fnL_eq {α β : Type} {t x : α} (h : t = x) (f : α → β) : fnL t f = f x := by subst h; rfl

def IV : XD → MD → Prop := fun _ _ => True
theorem iv_0 : IV w_0.1 w_0.2.1 := trivial
theorem law_ok : LawOk IV := sorry

/-! The reference's land: carried to an array and back. -/
/-- the kept array a holds A -/
def LkM (m : MD) (a : Nat) (A : Ld) : Prop := m.1 a 0 = nI (ln A) ∧ m.1 a 1 = nI (lo A) ∧ m.1 a 2 = ldy A ∧ ∀ h, h < ln A → m.1 a (3 + 5 * h) = nI (hk (ls A h)) ∧ m.1 a (4 + 5 * h) = nI (hf (ls A h)) ∧ m.1 a (5 + 5 * h) = nI (hh (ls A h)) ∧ m.1 a (6 + 5 * h) = nI (ha (ls A h)) ∧ m.1 a (7 + 5 * h) = nI (hlo (ls A h))
theorem gK_in {α : Type} {i : Nat} {v : Option α} (h : 98 ≤ i ∧ i < 102) : gK i v = v := if_pos h
/-- carried back: the place's number -/
theorem mo_carry_0 {m : MD} {p a : Nat} {v : Int32} (ha : 98 ≤ a ∧ a < 102) (h2 : m.2.2 = a) (h27 : m.1 83 27 = nI p) (h28 : m.1 83 28 = 0) (hp : p < 38) : f_Mo_carry v m = some (m.1 a p, (x_up m.1 83 27 (nI (p + 1)), m.2)) := by
  have e1 : nI (p + 1) - 1 = nI p := by rw [show (1 : Int32) = nI 1 from rfl, n_sub (by omega)]; rfl
  unfold f_Mo_carry b_Mo_carry_17
  rw [if_pos h28]
  unfold lt
  have e2 : x_up m.1 83 27 (nI (p + 1)) 83 27 = nI (p + 1) := by simp [x_up]
  rw [h27, show (1 : Int32) = nI 1 from rfl, n_add]
  simp only [e2]
  rw [show nI (p + 1) - nI 1 = nI p from e1, gI_n hp (by omega), n_nat (by omega), h2, gK_in ha, x_up_ne (by omega)]
/-- carried away: the place gets the number -/
theorem mo_carry_1 {m : MD} {p a : Nat} {v : Int32} (ha : 98 ≤ a ∧ a < 102) (h2 : m.2.2 = a) (h27 : m.1 83 27 = nI p) (h28 : m.1 83 28 = 1) (hp : p < 38) : f_Mo_carry v m = some (v, (x_up (x_up m.1 a p v) 83 27 (nI (p + 1)), m.2)) := by
  have e1 : nI (p + 1) - 1 = nI p := by rw [show (1 : Int32) = nI 1 from rfl, n_sub (by omega)]; rfl
  have e3 : x_up m.1 a p v 83 27 = nI p := by rw [x_up_ne (by omega)]; exact h27
  unfold f_Mo_carry b_Mo_carry_17
  rw [if_neg (by rw [h28]; decide), h2, gK_in ha, h27, gI_n hp (by omega), n_nat (by omega)]
  unfold lt
  simp only [e3]
  have e2 : x_up (x_up m.1 a p v) 83 27 (nI (p + 1)) 83 27 = nI (p + 1) := by simp [x_up]
  rw [show (1 : Int32) = nI 1 from rfl, n_add]
  simp only [e2]
  rw [show nI (p + 1) - nI 1 = nI p from e1, gI_n hp (by omega), n_nat (by omega), h2, gK_in ha, x_up_ne (by omega)]
  simp [x_up]

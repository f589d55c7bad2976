/-! The reference's horses: what its pure functions are, in natural numbers. -/
/-- the horse h of the reference is s -/
def mst (m : MD) (h : Nat) (s : Hs) : Prop := m.1 84 h = nI (hk s) ∧ m.1 85 h = nI (hf s) ∧ m.1 86 h = nI (hh s) ∧ m.1 87 h = nI (ha s) ∧ m.1 88 h = nI (hlo s)
section MK
variable {m : MD} {s : Hs} {oats h : Nat}
theorem mo_apart_n {a b : Nat} (ha : a < 1000000) (hb : b < 1000000) : f_Mo_apart (nI a) (nI b) m = some (nI (dst a b), m) := by
  unfold f_Mo_apart dst
  simp only [n_le (show a < 2147483648 by omega) (show b < 2147483648 by omega)]
  by_cases c : a ≤ b
  · rw [if_pos c, if_pos c, n_sub c]
  · rw [if_neg c, if_neg c, n_sub (by omega)]
theorem mo_least_n {a b : Nat} (ha : a < 1000000) (hb : b < 1000000) : f_Mo_least (nI a) (nI b) m = some (nI (min a b), m) := by
  unfold f_Mo_least
  simp only [n_le (show b < 2147483648 by omega) (show a < 2147483648 by omega)]
  by_cases c : b ≤ a
  · rw [if_pos c, Nat.min_eq_right c]
  · rw [if_neg c, Nat.min_eq_left (by omega)]
theorem mo_goal_n (hs : mst m h s) (hV : VH s) (hh7 : h < 7) (ho : oats ≤ 20) (h6 : m.1 83 6 = nI oats) : f_Mo_goalOf (nI h) m = some (nI (goalN oats s), m) := by
  obtain ⟨k, f, hm, a, lo⟩ := s
  obtain ⟨h1, h2, h3, h4, h5⟩ := hV
  obtain ⟨s1, s2, s3, s4, s5⟩ := hs
  dsimp only [hk, hf, hh, ha, hlo] at *
  have e20 : (20 : Int32) - nI hm = nI (20 - hm) := n_sub h3
  have d1 : dst a hm ≤ 20 := dst_le h4 h3
  have d2 : dst a (20 - hm) ≤ 20 := dst_le h4 (by omega)
  have hn : (nI h).toNatClampNeg = h := n_nat (by omega)
  unfold f_Mo_goalOf
  simp only [gI_n hh7 (show 7 < 2147483648 by omega), hn, s3, s4, e20, mo_apart_n (m := m) (show a < 1000000 by omega) (show hm < 1000000 by omega), mo_apart_n (m := m) (show a < 1000000 by omega) (show 20 - hm < 1000000 by omega), bd_s, s1, lt, b_Mo_goalOf_84, h6]
  simp only [n_le (show dst a hm < 2147483648 by omega) (show dst a (20 - hm) < 2147483648 by omega), n_le (show dst a (20 - hm) < 2147483648 by omega) (show dst a hm < 2147483648 by omega)]
  rcases kind8 h1 with rfl | rfl | rfl | rfl | rfl | rfl | rfl | rfl
  · rfl
  · rfl
  · rfl
  · show (if dst a hm ≤ dst a (20 - hm) then some (nI hm, m) else some (nI (20 - hm), m)) = some (nI (if dst a (20 - hm) < dst a hm then 20 - hm else hm), m)
    by_cases c : dst a hm ≤ dst a (20 - hm)
    · rw [if_pos c, if_neg (by omega)]
    · rw [if_neg c, if_pos (by omega)]
  · rfl
  · rfl
  · show (if dst a (20 - hm) ≤ dst a hm then some (nI hm, m) else some (nI (20 - hm), m)) = some (nI (if dst a hm < dst a (20 - hm) then 20 - hm else hm), m)
    by_cases c : dst a (20 - hm) ≤ dst a hm
    · rw [if_pos c, if_neg (by omega)]
    · rw [if_neg c, if_pos (by omega)]
  · rfl
theorem mo_pines_n (hs : mst m h s) (hV : VH s) (hh7 : h < 7) (ho : oats ≤ 20) (h6 : m.1 83 6 = nI oats) : f_Mo_pinesOf (nI h) m = some (nI (pinesN oats s), m) := by
  have hg := goal_le hV ho
  have hgo := mo_goal_n hs hV hh7 ho h6
  have d1 : dst (ha s) (goalN oats s) ≤ 20 := dst_le hV.2.2.2.1 hg
  have hap := mo_apart_n (m := m) (a := ha s) (b := goalN oats s) (by have := hV.2.2.2.1; omega) (by omega)
  obtain ⟨k, f, hm, a, lo⟩ := s
  obtain ⟨h1, h2, h3, h4, h5⟩ := hV
  obtain ⟨s1, s2, s3, s4, s5⟩ := hs
  unfold pinesN
  dsimp only [hk, hf, hh, ha, hlo] at *
  have hn : (nI h).toNatClampNeg = h := n_nat (by omega)
  unfold f_Mo_pinesOf
  simp only [gI_n hh7 (show 7 < 2147483648 by omega), hn, hgo, bd_s, s4, hap, s1, s2, lt]
  generalize dst a (goalN oats (k, f, hm, a, lo)) = d at d1 ⊢
  have e5 : (1 : Int32) + nI d / 5 = nI (1 + d / 5) := by
    rw [show (5 : Int32) = nI 5 from rfl, n_div (by omega) (by omega), show (1 : Int32) = nI 1 from rfl, n_add]
  have e2 : nI f / 2 = nI (f / 2) := by rw [show (2 : Int32) = nI 2 from rfl, n_div (by omega) (by omega)]
  rw [e5, e2, show (2 : Int32) * nI (1 + d / 5) = nI (2 * (1 + d / 5)) from n_mul 2 _, n_add, n_add, show nI (1 + d / 5) + 1 = nI (1 + d / 5 + 1) from n_add _ 1]
  rcases kind8 h1 with rfl | rfl | rfl | rfl | rfl | rfl | rfl | rfl <;> rfl
theorem mo_pace_n (hs : mst m h s) (hV : VH s) (hh7 : h < 7) : f_Mo_paceOf (nI h) m = some (nI (paceN s), m) := by
  obtain ⟨k, f, hm, a, lo⟩ := s
  obtain ⟨h1, h2, h3, h4, h5⟩ := hV
  obtain ⟨s1, s2, s3, s4, s5⟩ := hs
  unfold paceN
  dsimp only [hk, hf, hh, ha, hlo] at *
  have hn : (nI h).toNatClampNeg = h := n_nat (by omega)
  unfold f_Mo_paceOf
  have e4 : (1 : Int32) + nI lo / 4 = nI (1 + lo / 4) := by
    rw [show (4 : Int32) = nI 4 from rfl, n_div (by omega) (by omega), show (1 : Int32) = nI 1 from rfl, n_add]
  have e2 : (1 : Int32) + nI lo / 2 = nI (1 + lo / 2) := by
    rw [show (2 : Int32) = nI 2 from rfl, n_div (by omega) (by omega), show (1 : Int32) = nI 1 from rfl, n_add]
  have e3 : nI f / 3 = nI (f / 3) := by rw [show (3 : Int32) = nI 3 from rfl, n_div (by omega) (by omega)]
  simp only [gI_n hh7 (show 7 < 2147483648 by omega), hn, s1, s2, s5, lt, e4, e2, e3]
  rw [n_add, show nI (1 + lo / 4) + 1 = nI (1 + lo / 4 + 1) from n_add _ 1]
  rcases kind8 h1 with rfl | rfl | rfl | rfl | rfl | rfl | rfl | rfl <;> rfl
theorem mo_walk_n (hs : mst m h s) (hV : VH s) (hh7 : h < 7) : f_Mo_walkOf (nI h) m = some (nI (walkN s), m) := by
  obtain ⟨k, f, hm, a, lo⟩ := s
  have h1 := hV.1
  have s1 := hs.1
  dsimp only [hk, hf, hh, ha, hlo] at *
  have hn : (nI h).toNatClampNeg = h := n_nat (by omega)
  unfold f_Mo_walkOf
  simp only [gI_n hh7 (show 7 < 2147483648 by omega), hn, s1, b_Mo_walkOf_36]
  rcases kind8 h1 with rfl | rfl | rfl | rfl | rfl | rfl | rfl | rfl <;> rfl
theorem mo_costOf_n {k f : Nat} (h : k < 8) : f_Mo_costOf (nI k) (nI f) m = some (nI (priceN k f), m) := by
  unfold f_Mo_costOf
  rw [show (2 : Int32) + nI f = nI (2 + f) from n_add 2 f, show (4 : Int32) + nI f = nI (4 + f) from n_add 4 f]
  rcases kind8 h with rfl | rfl | rfl | rfl | rfl | rfl | rfl | rfl <;> rfl
end MK

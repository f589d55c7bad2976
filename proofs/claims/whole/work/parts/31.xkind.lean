/-! The class's kinds and horses: what their pure functions are, in natural numbers. -/
theorem abs_n {p q : Nat} (hp : p < 1000000) (hq : q < 1000000) : x_abs (nI p - nI q) = nI (dst q p) := by
  unfold x_abs dst
  by_cases c : q ≤ p
  · rw [if_pos c, n_sub c, if_pos (nI_pos' (by omega))]
  · rw [if_neg c]
    have h1 : ¬ (0 : Int32) ≤ nI p - nI q := by
      intro h
      rw [Int32.le_iff_toInt_le, Int32.toInt_sub, n_int (by omega), n_int (by omega), show (0 : Int32).toInt = 0 from rfl] at h
      simp only [Int.bmod] at h
      omega
    rw [if_neg h1]
    have h2 : nI q - nI p = nI (q - p) := n_sub (by omega)
    rw [← h2]
    apply Int32.toInt_inj.mp
    rw [Int32.toInt_sub, Int32.toInt_sub, Int32.toInt_sub, n_int (by omega), n_int (by omega), show (0 : Int32).toInt = 0 from rfl]
    simp only [Int.bmod]
    omega
theorem kind8 {k : Nat} (h : k < 8) : k = 0 ∨ k = 1 ∨ k = 2 ∨ k = 3 ∨ k = 4 ∨ k = 5 ∨ k = 6 ∨ k = 7 := by omega
theorem min_n {a b : Nat} (ha : a < 2147483648) (hb : b < 2147483648) : x_min (nI a) (nI b) = nI (min a b) := by
  unfold x_min
  simp only [n_lt hb ha]
  split
  · rw [Nat.min_eq_right (by omega)]
  · rw [Nat.min_eq_left (by omega)]
section XK
variable {x : XD} {s : Hs} {oats : Nat}
theorem v_goal_n (h : VH s) (ho : oats ≤ 20) : v_goal (nI (hk s)) (nI (hh s)) (nI (ha s)) (nI oats) x = some (nI (goalN oats s), x) := by
  obtain ⟨k, f, hm, a, lo⟩ := s
  obtain ⟨h1, h2, h3, h4, h5⟩ := h
  dsimp only [hk, hf, hh, ha, hlo] at *
  have e20 : (20 : Int32) - nI hm = nI (20 - hm) := n_sub h3
  have t1 : x_abs (nI hm - nI a) = nI (dst a hm) := abs_n (by omega) (by omega)
  have t2 : x_abs ((20 : Int32) - nI hm - nI a) = nI (dst a (20 - hm)) := by rw [e20]; exact abs_n (by omega) (by omega)
  have d1 : dst a hm ≤ 20 := dst_le h4 h3
  have d2 : dst a (20 - hm) ≤ 20 := dst_le h4 (by omega)
  rcases kind8 h1 with rfl | rfl | rfl | rfl | rfl | rfl | rfl | rfl
  · rfl
  · rfl
  · show some ((20 : Int32) - nI hm, x) = _
    rw [e20]; rfl
  · show (if x_abs (nI hm - nI a) ≤ x_abs ((20 : Int32) - nI hm - nI a) then some (nI hm, x) else some ((20 : Int32) - nI hm, x)) = some (nI (if dst a (20 - hm) < dst a hm then 20 - hm else hm), x)
    rw [t1, t2, e20]
    simp only [n_le (show dst a hm < 2147483648 by omega) (show dst a (20 - hm) < 2147483648 by omega), n_le (show dst a (20 - hm) < 2147483648 by omega) (show dst a hm < 2147483648 by omega)]
    by_cases c : dst a hm ≤ dst a (20 - hm)
    · rw [if_pos c, if_neg (by omega)]
    · rw [if_neg c, if_pos (by omega)]
  · rfl
  · rfl
  · show (if x_abs ((20 : Int32) - nI hm - nI a) ≤ x_abs (nI hm - nI a) then some (nI hm, x) else some ((20 : Int32) - nI hm, x)) = some (nI (if dst a hm < dst a (20 - hm) then 20 - hm else hm), x)
    rw [t1, t2, e20]
    simp only [n_le (show dst a hm < 2147483648 by omega) (show dst a (20 - hm) < 2147483648 by omega), n_le (show dst a (20 - hm) < 2147483648 by omega) (show dst a hm < 2147483648 by omega)]
    by_cases c : dst a (20 - hm) ≤ dst a hm
    · rw [if_pos c, if_neg (by omega)]
    · rw [if_neg c, if_pos (by omega)]
  · rfl
theorem ho_pines_n {m : Nat} {v : Int32} (hm : m < 1000) : f_Ho_pines v (nI m) x = some (nI (1 + m / 5), x) := by
  show some ((1 : Int32) + nI m / 5, x) = _
  rw [show (5 : Int32) = nI 5 from rfl, n_div (by omega) (by omega), show (1 : Int32) = nI 1 from rfl, n_add]
theorem ho_pace_n {m : Nat} {v : Int32} (hm : m < 1000) : f_Ho_pace v (nI m) x = some (nI (1 + m / 4), x) := by
  show some ((1 : Int32) + nI m / 4, x) = _
  rw [show (4 : Int32) = nI 4 from rfl, n_div (by omega) (by omega), show (1 : Int32) = nI 1 from rfl, n_add]
theorem v_pines_n (h : VH s) (ho : oats ≤ 20) : v_pines (nI (hk s)) (nI (hf s)) (nI (dst (ha s) (goalN oats s))) x = some (nI (pinesN oats s), x) := by
  have hg := goal_le h ho
  have d1 : dst (ha s) (goalN oats s) ≤ 20 := dst_le h.2.2.2.1 hg
  obtain ⟨k, f, hm, a, lo⟩ := s
  obtain ⟨h1, h2, h3, h4, h5⟩ := h
  dsimp only [hk, hf, hh, ha, hlo] at *
  unfold pinesN
  dsimp only [hk, hf, hh, ha, hlo]
  generalize dst a (goalN oats (k, f, hm, a, lo)) = m at d1 ⊢
  have p0 : ∀ v, f_Ho_pines v (nI m) x = some (nI (1 + m / 5), x) := fun v => ho_pines_n (by omega)
  rcases kind8 h1 with rfl | rfl | rfl | rfl | rfl | rfl | rfl | rfl
  · rw [show v_pines (nI 0) (nI f) (nI m) x = f_Ho_pines (nI f) (nI m) x from rfl]
    exact p0 _
  · rfl
  · rw [show v_pines (nI 2) (nI f) (nI m) x = f_Bl_pines (nI f) (nI m) x from rfl]
    unfold f_Bl_pines
    rw [p0, bd_s]
    show some ((2 : Int32) * nI (1 + m / 5), x) = _
    rw [show (2 : Int32) = nI 2 from rfl, n_mul]; rfl
  · rw [show v_pines (nI 3) (nI f) (nI m) x = f_Ho_pines (nI f) (nI m) x from rfl]
    exact p0 _
  · rw [show v_pines (nI 4) (nI f) (nI m) x = f_Dr_pines (nI f) (nI m) x from rfl]
    unfold f_Dr_pines
    rw [p0, bd_s]
    show some (nI (1 + m / 5) + nI f, x) = _
    rw [n_add]; rfl
  · rw [show v_pines (nI 5) (nI f) (nI m) x = f_Fo_pines (nI f) (nI m) x from rfl]
    unfold f_Fo_pines
    rw [p0, bd_s]
    show some (nI (1 + m / 5) + nI f / 2, x) = _
    rw [show (2 : Int32) = nI 2 from rfl, n_div (by omega) (by omega), n_add]; rfl
  · rw [show v_pines (nI 6) (nI f) (nI m) x = f_Ma_pines (nI f) (nI m) x from rfl]
    unfold f_Ma_pines
    rw [p0, bd_s]
    show some (nI (1 + m / 5) + 1, x) = _
    rw [show (1 : Int32) = nI 1 from rfl, n_add]; rfl
  · rfl
theorem v_pace_n (h : VH s) : v_pace (nI (hk s)) (nI (hf s)) (nI (hlo s)) x = some (nI (paceN s), x) := by
  obtain ⟨k, f, hm, a, lo⟩ := s
  obtain ⟨h1, h2, h3, h4, h5⟩ := h
  dsimp only [hk, hf, hh, ha, hlo] at *
  have p0 : ∀ v, f_Ho_pace v (nI lo) x = some (nI (1 + lo / 4), x) := fun v => ho_pace_n (by omega)
  rcases kind8 h1 with rfl | rfl | rfl | rfl | rfl | rfl | rfl | rfl
  · rw [show v_pace (nI 0) (nI f) (nI lo) x = f_Ho_pace (nI f) (nI lo) x from rfl]
    exact p0 _
  · rfl
  · rw [show v_pace (nI 2) (nI f) (nI lo) x = f_Bl_pace (nI f) (nI lo) x from rfl]
    unfold f_Bl_pace
    show some ((1 : Int32) + nI lo / 2, x) = _
    rw [show (2 : Int32) = nI 2 from rfl, n_div (by omega) (by omega), show (1 : Int32) = nI 1 from rfl, n_add]; rfl
  · rw [show v_pace (nI 3) (nI f) (nI lo) x = f_Ho_pace (nI f) (nI lo) x from rfl]
    exact p0 _
  · rw [show v_pace (nI 4) (nI f) (nI lo) x = f_Ho_pace (nI f) (nI lo) x from rfl]
    exact p0 _
  · rw [show v_pace (nI 5) (nI f) (nI lo) x = f_Fo_pace (nI f) (nI lo) x from rfl]
    unfold f_Fo_pace
    rw [p0, bd_s]
    show some (nI (1 + lo / 4) + 1, x) = _
    rw [show (1 : Int32) = nI 1 from rfl, n_add]; rfl
  · rw [show v_pace (nI 6) (nI f) (nI lo) x = f_Ma_pace (nI f) (nI lo) x from rfl]
    unfold f_Ma_pace
    rw [p0, bd_s]
    show some (nI (1 + lo / 4) + nI f / 3, x) = _
    rw [show (3 : Int32) = nI 3 from rfl, n_div (by omega) (by omega), n_add]; rfl
  · rfl
theorem v_walk_n (h : VH s) : v_walk (nI (hk s)) x = some (nI (walkN s), x) := by
  obtain ⟨k, f, hm, a, lo⟩ := s
  have h1 := h.1
  dsimp only [hk] at *
  rcases kind8 h1 with rfl | rfl | rfl | rfl | rfl | rfl | rfl | rfl <;> rfl
theorem v_number_n {k : Nat} (h : k < 8) : v_number (nI k) x = some (nI k, x) := by
  rcases kind8 h with rfl | rfl | rfl | rfl | rfl | rfl | rfl | rfl <;> rfl
theorem v_price_n {k f : Nat} (h : k < 8) (hf : f < 10) : v_price (nI k) (nI f) x = some (nI (priceN k f), x) := by
  rcases kind8 h with rfl | rfl | rfl | rfl | rfl | rfl | rfl | rfl
  · rfl
  · rfl
  · show some ((2 : Int32) + nI f, x) = _
    rw [show (2 : Int32) = nI 2 from rfl, n_add]; rfl
  · rfl
  · rfl
  · show some ((2 : Int32) - 1, x) = _
    rw [show (2 : Int32) - 1 = nI 1 from by decide]; rfl
  · show some ((2 : Int32) * 2 + nI f, x) = _
    rw [show (2 : Int32) * 2 = nI 4 from rfl, n_add]; rfl
  · rfl
end XK

/-! The class's steeds: moves, rides, stays. -/
theorem sle0 {g a : Nat} (hg : g < 1000000) (ha : a < 1000000) : (nI g - nI a ≤ 0) = (g ≤ a) := by
  rw [Int32.le_iff_toInt_le, Int32.toInt_sub, n_int (by omega), n_int (by omega), show (0 : Int32).toInt = 0 from rfl]
  simp only [Int.bmod]
  apply propext
  omega
theorem neg1 {g a : Nat} (hg : g < 1000000) (ha : a < 1000000) : (-1 : Int32) * (nI g - nI a) = nI a - nI g := by
  apply Int32.toInt_inj.mp
  rw [Int32.toInt_mul, Int32.toInt_sub, Int32.toInt_sub, n_int (by omega), n_int (by omega), show (-1 : Int32).toInt = -1 from by decide]
  simp only [Int.bmod]
  omega
theorem addneg {a m : Nat} (h : m ≤ a) (ha : a < 1000000) : nI a + (-1 : Int32) * nI m = nI (a - m) := by
  apply Int32.toInt_inj.mp
  rw [Int32.toInt_add, Int32.toInt_mul, n_int (by omega), n_int (by omega), n_int (by omega), show (-1 : Int32).toInt = -1 from by decide]
  simp only [Int.bmod]
  omega
theorem cmp_n {p q : Nat} {x : XD} (hp : p < 1000000) (hq : q < 1000000) : f_In_compare (nI p) (nI q) x = some (if p < q then -1 else if p = q then 0 else 1, x) := by
  unfold f_In_compare
  simp only [n_le (show q < 2147483648 by omega) (show p < 2147483648 by omega), n_eq (show p < 2147483648 by omega) (show q < 2147483648 by omega)]
  by_cases c : q ≤ p
  · have c9 : ¬ p < q := by omega
    rw [if_pos c]
    simp only [c9, if_false]
    split <;> rfl
  · rw [if_neg c, if_pos (by omega)]
theorem one_mul32 (z : Int32) : (1 : Int32) * z = z := Int32.one_mul z
section XR
variable {o oats yard : Nat}
theorem st_move_n {x : XD} {s : Hs} (h : xst x o s) (hV : VH s) (ho : oats ≤ 20) (hy : yard ≤ 20) (hne : ha s ≠ yard) : f_St_move o (nI yard) (nI oats) x = some ((), x_up x o 3 (nI (moveN yard oats s))) := by
  have hg := goal_le hV ho
  have h4 := hV.2.2.2.1
  have hp := pace_le hV
  have hw := @walk_pos s
  unfold f_St_move
  rw [h.2.2.2.1, cmp_n (by omega) (by omega), bd_s]
  simp only [h.1, h.2.1, h.2.2.1, h.2.2.2.1, h.2.2.2.2, v_goal_n hV ho, bd_s, v_walk_n hV, v_pace_n hV]
  unfold b_St_move_69 lt moveN milesN
  by_cases c : ha s < yard
  · rw [if_neg (show ¬ yard < ha s by omega), if_neg (show ¬ yard = ha s by omega)]
    simp only [one_mul32, sle0 (show goalN oats s < 1000000 by omega) (show ha s < 1000000 by omega), h.2.2.2.1, abs_n (show yard < 1000000 by omega) (show ha s < 1000000 by omega), c, if_true]
    have d1 : dst (ha s) yard = yard - ha s := by unfold dst; rw [if_pos (by omega)]
    rw [d1]
    by_cases c2 : goalN oats s ≤ ha s
    · rw [if_pos c2, if_neg (by omega), min_n (by omega) (by omega), n_add]
    · rw [if_neg c2, if_pos (by omega), n_sub (by omega), min_n (by omega) (by omega), min_n (by omega) (by omega), n_add]
  · rw [if_pos (show yard < ha s by omega)]
    simp only [neg1 (show goalN oats s < 1000000 by omega) (show ha s < 1000000 by omega), sle0 (show ha s < 1000000 by omega) (show goalN oats s < 1000000 by omega), h.2.2.2.1, abs_n (show yard < 1000000 by omega) (show ha s < 1000000 by omega), c, if_false]
    have d1 : dst (ha s) yard = ha s - yard := by unfold dst; rw [if_neg (by omega)]
    rw [d1]
    by_cases c2 : ha s ≤ goalN oats s
    · rw [if_pos c2, if_neg (by omega), min_n (by omega) (by omega), addneg (by omega) (by omega)]
    · rw [if_neg c2, if_pos (by omega), n_sub (by omega), min_n (by omega) (by omega), min_n (by omega) (by omega), addneg (by omega) (by omega)]
theorem st_ride_l : ∀ (k n c : Nat) (x : XD) (s : Hs), k < n → xst x o s → VH s → oats ≤ 20 → yard ≤ 20 → dst (ha s) yard ≤ k → c + dst (ha s) yard ≤ 20 → ∃ x', b_St_ride_2 o (nI yard) (nI oats) n (nI c) x = some (nI (c + (rideF yard oats k s).1), x') ∧ xst x' o (rideF yard oats k s).2 ∧ frO o x x' := by
  intro k
  induction k with
  | zero =>
    intro n c x s hn h hV ho hy hd hc
    obtain ⟨n, rfl⟩ : ∃ m, n = m + 1 := ⟨n - 1, by omega⟩
    have he : ha s = yard := (dst_z.mp (Nat.le_zero.mp hd)).symm
    refine ⟨x, ?_, h, frO.rf⟩
    rw [b_St_ride_2, h.2.2.2.1, if_pos (by rw [he])]
    rfl
  | succ k ih =>
    intro n c x s hn h hV ho hy hd hc
    obtain ⟨n, rfl⟩ : ∃ m, n = m + 1 := ⟨n - 1, by omega⟩
    have h4 := hV.2.2.2.1
    rw [b_St_ride_2]
    simp only [h.2.2.2.1, n_eq (show ha s < 2147483648 by omega) (show yard < 2147483648 by omega)]
    by_cases he : ha s = yard
    · rw [if_pos he]
      refine ⟨x, ?_, ?_, frO.rf⟩
      · rw [show (rideF yard oats (k + 1) s).1 = 0 from by unfold rideF; rw [if_pos he]]
        rfl
      · rw [show (rideF yard oats (k + 1) s).2 = s from by unfold rideF; rw [if_pos he]]
        exact h
    · have hnear := move_near (oats := oats) he
      have hm := move_le (oats := oats) hV hy
      have hx1 := xst_up3 (v := moveN yard oats s) h
      have hV1 := go_V (oats := oats) hV hy
      have hx2 := st_day (oats := oats) (s := goN yard oats s) hx1
      rw [if_neg he, show (21 : Int32) = nI 21 from rfl]
      simp only [n_le (show 21 < 2147483648 by omega) (show c < 2147483648 by omega)]
      rw [if_neg (by omega), st_move_n h hV ho hy he, bd_s]
      simp only
      rw [st_pine_n (s := goN yard oats s) hx1 hV1 ho, bd_s]
      simp only
      rw [show (1 : Int32) = nI 1 from rfl, n_add]
      obtain ⟨x', q1, q2, q3⟩ := ih n (c + 1) _ (dayN oats (goN yard oats s)) (by omega) hx2 (day_V hV1) ho hy (by show dst (moveN yard oats s) yard ≤ k; omega) (by show c + 1 + dst (moveN yard oats s) yard ≤ 20; omega)
      refine ⟨x', ?_, ?_, (frO.up.tr frO.up).tr q3⟩
      · rw [q1, show (rideF yard oats (k + 1) s).1 = (rideF yard oats k (dayN oats (goN yard oats s))).1 + 1 from by conv => lhs; unfold rideF; rw [if_neg he], show c + 1 + (rideF yard oats k (dayN oats (goN yard oats s))).1 = c + ((rideF yard oats k (dayN oats (goN yard oats s))).1 + 1) from by omega]
      · rw [show (rideF yard oats (k + 1) s).2 = (rideF yard oats k (dayN oats (goN yard oats s))).2 from by conv => lhs; unfold rideF; rw [if_neg he]]
        exact q2
theorem dst20 {a b : Nat} (h1 : a ≤ 20) (h2 : b ≤ 20) : dst a b ≤ 20 := dst_le h1 h2
theorem st_ride_n {x : XD} {s : Hs} (h : xst x o s) (hV : VH s) (ho : oats ≤ 20) (hy : yard ≤ 20) : ∃ x', f_St_ride o (nI yard) (nI oats) x = some (nI (rideN yard oats s).1, x') ∧ xst x' o (rideN yard oats s).2 ∧ frO o x x' := by
  have h4 := dst20 hV.2.2.2.1 hy
  obtain ⟨x', q1, q2, q3⟩ := st_ride_l (o := o) (oats := oats) (yard := yard) 21 fu 0 x s (by decide) h hV ho hy (by omega) (by omega)
  exact ⟨x', by unfold f_St_ride rideN; rw [show (0 : Int32) = nI 0 from rfl, q1, Nat.zero_add], q2, q3⟩
theorem st_stay_l : ∀ (k n c m : Nat) (x : XD) (s : Hs), k < n → xst x o s → VH s → oats ≤ 20 → c + k = m → m < 1000000 → ∃ x', b_St_stay_2 o (nI m) (nI oats) n (nI c) x = some ((), x') ∧ xst x' o (stayN oats k s) ∧ frO o x x' := by
  intro k
  induction k with
  | zero =>
    intro n c m x s hn h hV ho hc hm
    obtain ⟨n, rfl⟩ : ∃ m, n = m + 1 := ⟨n - 1, by omega⟩
    refine ⟨x, ?_, h, frO.rf⟩
    rw [b_St_stay_2, if_pos (nI_le (by omega) (by omega))]
  | succ k ih =>
    intro n c m x s hn h hV ho hc hm
    obtain ⟨n, rfl⟩ : ∃ m, n = m + 1 := ⟨n - 1, by omega⟩
    rw [b_St_stay_2]
    simp only [n_le (show m < 2147483648 by omega) (show c < 2147483648 by omega)]
    rw [if_neg (by omega), st_pine_n h hV ho, bd_s]
    simp only
    rw [show (1 : Int32) = nI 1 from rfl, n_add]
    obtain ⟨x', q1, q2, q3⟩ := ih n (c + 1) m _ (dayN oats s) (by omega) (st_day h) (day_V hV) ho (by omega) hm
    exact ⟨x', q1, q2, frO.up.tr q3⟩
theorem st_stay_n {x : XD} {s : Hs} {m : Nat} (h : xst x o s) (hV : VH s) (ho : oats ≤ 20) (hm : m < 900) : ∃ x', f_St_stay o (nI m) (nI oats) x = some ((), x') ∧ xst x' o (stayN oats m s) ∧ frO o x x' := by
  unfold f_St_stay
  exact st_stay_l m fu 0 m x s (by show m < 1000; omega) h hV ho (by omega) (by omega)
end XR

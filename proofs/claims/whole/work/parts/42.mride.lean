/-! The reference's land: days and rides. -/
theorem stay_add {oats : Nat} : ∀ (k : Nat) (s : Hs), stayN oats k (dayN oats s) = stayN oats (k + 1) s := fun _ _ => rfl
theorem pass_z (A : Ld) : passA 0 A = A := by
  obtain ⟨n, o, d, s⟩ := A
  show (n, o, d + nI 0, s) = (n, o, d, s)
  rw [show nI 0 = (0 : Int32) from rfl, Int32.add_zero]
theorem pass_add (k : Nat) (A : Ld) : passA k (passA 1 A) = passA (k + 1) A := by
  show (ln A, lo A, ldy A + nI 1 + nI k, _) = (ln A, lo A, ldy A + nI (k + 1), _)
  rw [Int32.add_assoc, n_add, Nat.add_comm 1 k]
  rfl
theorem mo_goDays_l {c : Nat} (hc : c < 1000000) : ∀ (k n j : Nat) (m : MD) (A : Ld), j + k = c → k < n → LnM m A → VA A → ∃ m', b_Mo_goDays_2 (nI c) n (nI j) m = some ((), m') ∧ LnM m' (passA k A) ∧ frM m m' := by
  intro k
  induction k with
  | zero =>
    intro n j m A hj hn hL hV
    obtain ⟨n, rfl⟩ : ∃ m, n = m + 1 := ⟨n - 1, by omega⟩
    refine ⟨m, ?_, by rw [pass_z]; exact hL, frM.rf⟩
    rw [b_Mo_goDays_2, if_pos (nI_le (by omega) (by omega))]
  | succ k ih =>
    intro n j m A hj hn hL hV
    obtain ⟨n, rfl⟩ : ∃ m, n = m + 1 := ⟨n - 1, by omega⟩
    obtain ⟨m1, p1, p2, p3⟩ := mo_day_n hL hV
    obtain ⟨m', q1, q2, q3⟩ := ih n (j + 1) m1 (passA 1 A) (by omega) (by omega) p2 (pass_V hV)
    refine ⟨m', ?_, by rw [← pass_add]; exact q2, p3.tr q3⟩
    rw [b_Mo_goDays_2]
    simp only [n_le (show c < 2147483648 by omega) (show j < 2147483648 by omega)]
    rw [if_neg (by omega), p1, bd_s]
    simp only
    rw [show (1 : Int32) = nI 1 from rfl, n_add]
    exact q1
theorem mo_goDays_n {m : MD} {A : Ld} {c : Nat} (hc : c < 900) (hL : LnM m A) (hV : VA A) : ∃ m', f_Mo_goDays (nI c) m = some ((), m') ∧ LnM m' (passA c A) ∧ frM m m' :=
  mo_goDays_l (c := c) (by omega) c fu 0 m A (by omega) (by show c < 1000; omega) hL hV
theorem LnM_87 {m : MD} {A : Ld} {h v : Nat} (hL : LnM m A) : LnM (x_up m.1 87 h (nI v), m.2) (setS A h (hk (ls A h), hf (ls A h), hh (ls A h), v, hlo (ls A h))) := by
  obtain ⟨h0, h6, h7, hs⟩ := hL
  refine ⟨h0, h6, h7, fun i hi => ?_⟩
  show mst _ i (if i = h then _ else ls A i)
  by_cases c : i = h
  · rw [if_pos c]
    subst c
    exact mst_87 (hs i hi)
  · rw [if_neg c]
    exact mst_ne (hs i hi) c
/-- a day of a ride -/
theorem mo_rideOn_n {m : MD} {A : Ld} {yard h : Nat} (hL : LnM m A) (hV : VA A) (hh7 : h < ln A) (hy : yard ≤ 20) (hne : ha (ls A h) ≠ yard) : ∃ m', f_Mo_rideOn (nI h) (nI yard) m = some ((), m') ∧ LnM m' (passA 1 (setS A h (goN yard (lo A) (ls A h)))) ∧ frM m m' := by
  have h7 : h < 7 := Nat.lt_of_lt_of_le hh7 hV.1
  have hs := hL.2.2.2 h hh7
  have hVh := hV.2.2 h hh7
  have h4 := hVh.2.2.2.1
  have hg := goal_le (oats := lo A) hVh hV.2.1
  have hp := pace_le hVh
  have hw := walk_pos (s := ls A h)
  have hn : (nI h).toNatClampNeg = h := n_nat (by omega)
  have d1 := dst_le h4 hy
  have d2 := dst_le h4 hg
  have key : f_Mo_rideOn (nI h) (nI yard) m = (f_Mo_dayBy 0 (x_up m.1 87 h (nI (moveN yard (lo A) (ls A h))), m.2)).bind fun p3 => some ((), p3.2) := by
    have ap1 := mo_apart_n (m := m) (a := ha (ls A h)) (b := yard) (by omega) (by omega)
    have ap2 := mo_apart_n (m := m) (a := ha (ls A h)) (b := goalN (lo A) (ls A h)) (by omega) (by omega)
    have l1 : ∀ v5 v4, b_Mo_rideOn_56 (nI h) (nI yard) (nI (ha (ls A h))) v4 v5 0 m = b_Mo_rideOn_106 (nI h) (nI (ha (ls A h))) v5 (nI (min (dst (ha (ls A h)) yard) (walkN (ls A h)))) m := fun v5 v4 => by
      rw [b_Mo_rideOn_56, ap1, bd_s]
      simp only
      rw [if_pos trivial, mo_walk_n hs hVh h7, bd_s]
      simp only
      rw [mo_least_n (by omega) (by omega), bd_s]
    have l2 : ∀ v5, b_Mo_rideOn_56 (nI h) (nI yard) (nI (ha (ls A h))) (nI (goalN (lo A) (ls A h))) v5 1 m = b_Mo_rideOn_106 (nI h) (nI (ha (ls A h))) v5 (nI (min (dst (ha (ls A h)) yard) (min (paceN (ls A h)) (dst (ha (ls A h)) (goalN (lo A) (ls A h)))))) m := fun v5 => by
      rw [b_Mo_rideOn_56, ap1, bd_s]
      simp only
      rw [if_neg (by decide), mo_pace_n hs hVh h7, bd_s]
      simp only
      rw [ap2, bd_s]
      simp only
      rw [mo_least_n (by omega) (by omega), bd_s]
      simp only
      rw [mo_least_n (by omega) (by omega), bd_s]
    have l3 : ∀ v5 w, nI (ha (ls A h)) + v5 * nI w = nI (moveN yard (lo A) (ls A h)) → b_Mo_rideOn_106 (nI h) (nI (ha (ls A h))) v5 (nI w) m = (f_Mo_dayBy 0 (x_up m.1 87 h (nI (moveN yard (lo A) (ls A h))), m.2)).bind fun p3 => some ((), p3.2) := fun v5 w e => by
      rw [b_Mo_rideOn_106, gI_n h7 (by omega), e, hn]
      rfl
    unfold f_Mo_rideOn
    rw [gI_n h7 (by omega), mo_goal_n hs hVh h7 hV.2.1 hL.2.1, bd_s]
    simp only [hn, hs.2.2.2.1, n_le (show yard < 2147483648 by omega) (show ha (ls A h) < 2147483648 by omega)]
    by_cases c : yard ≤ ha (ls A h)
    · rw [if_pos c, b_Mo_rideOn_24, if_pos (by decide)]
      simp only [n_le (show ha (ls A h) < 2147483648 by omega) (show goalN (lo A) (ls A h) < 2147483648 by omega)]
      by_cases c2 : ha (ls A h) ≤ goalN (lo A) (ls A h)
      · rw [if_pos c2, l1]
        refine l3 _ _ ?_
        rw [addneg (by unfold dst; split <;> omega) (by omega)]
        refine congrArg nI ?_
        unfold moveN milesN dst
        rw [if_neg (show ¬ ha (ls A h) < yard by omega), if_neg (show ¬ ha (ls A h) < yard by omega), if_neg (show ¬ goalN (lo A) (ls A h) < ha (ls A h) by omega), if_neg (show ¬ ha (ls A h) ≤ yard by omega), Nat.min_comm]
      · rw [if_neg c2, l2]
        refine l3 _ _ ?_
        rw [addneg (by unfold dst; split <;> omega) (by omega)]
        refine congrArg nI ?_
        unfold moveN milesN dst
        rw [if_neg (show ¬ ha (ls A h) < yard by omega), if_neg (show ¬ ha (ls A h) < yard by omega), if_pos (show goalN (lo A) (ls A h) < ha (ls A h) by omega), if_neg (show ¬ ha (ls A h) ≤ yard by omega), if_neg c2]
        congr 1
        exact Nat.min_comm _ _
    · rw [if_neg c, b_Mo_rideOn_24, if_neg (by decide)]
      simp only [n_le (show goalN (lo A) (ls A h) < 2147483648 by omega) (show ha (ls A h) < 2147483648 by omega)]
      by_cases c2 : goalN (lo A) (ls A h) ≤ ha (ls A h)
      · rw [if_pos c2, l1]
        refine l3 _ _ ?_
        rw [one_mul32, n_add]
        refine congrArg nI ?_
        unfold moveN milesN dst
        rw [if_pos (show ha (ls A h) < yard by omega), if_pos (show ha (ls A h) < yard by omega), if_neg (show ¬ ha (ls A h) < goalN (lo A) (ls A h) by omega), if_pos (show ha (ls A h) ≤ yard by omega), Nat.min_comm]
      · rw [if_neg c2, l2]
        refine l3 _ _ ?_
        rw [one_mul32, n_add]
        refine congrArg nI ?_
        unfold moveN milesN dst
        rw [if_pos (show ha (ls A h) < yard by omega), if_pos (show ha (ls A h) < yard by omega), if_pos (show ha (ls A h) < goalN (lo A) (ls A h) by omega), if_pos (show ha (ls A h) ≤ yard by omega), if_pos (show ha (ls A h) ≤ goalN (lo A) (ls A h) by omega)]
        congr 1
        exact Nat.min_comm _ _
  have hL1 := LnM_87 (h := h) (v := moveN yard (lo A) (ls A h)) hL
  have hV1 := setS_V (j := h) hV (go_V (oats := lo A) hVh hy)
  obtain ⟨m', q1, q2, q3⟩ := mo_day_n hL1 hV1
  refine ⟨m', ?_, q2, (frA.up.M (by omega) (by omega)).tr q3⟩
  rw [key, q1, bd_s]

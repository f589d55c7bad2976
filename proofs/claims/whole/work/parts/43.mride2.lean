/-! The reference's land: a ride. -/
theorem mo_ride_l {yard h : Nat} (hy : yard ≤ 20) : ∀ (k n c : Nat) (m : MD) (A : Ld), k < n → LnM m A → VA A → h < ln A → dst (ha (ls A h)) yard ≤ k → c + dst (ha (ls A h)) yard ≤ 20 → ∃ m', b_Mo_ride_2 (nI h) (nI yard) n (nI c) m = some (nI (c + (rideL yard h k A).1), m') ∧ LnM m' (rideL yard h k A).2 ∧ frM m m' := by
  intro k
  induction k with
  | zero =>
    intro n c m A hn hL hV hh hd hc
    obtain ⟨n, rfl⟩ : ∃ m, n = m + 1 := ⟨n - 1, by omega⟩
    have hh7 : h < 7 := Nat.lt_of_lt_of_le hh hV.1
    have he : ha (ls A h) = yard := (dst_z.mp (Nat.le_zero.mp hd)).symm
    refine ⟨m, ?_, hL, frM.rf⟩
    rw [b_Mo_ride_2, gI_n hh7 (by omega), n_nat (by omega), (hL.2.2.2 h hh).2.2.2.1, if_pos (by rw [he])]
    rfl
  | succ k ih =>
    intro n c m A hn hL hV hh hd hc
    obtain ⟨n, rfl⟩ : ∃ m, n = m + 1 := ⟨n - 1, by omega⟩
    have hh7 : h < 7 := Nat.lt_of_lt_of_le hh hV.1
    have hs := hL.2.2.2 h hh
    have hVh := hV.2.2 h hh
    have h4 := hVh.2.2.2.1
    rw [b_Mo_ride_2, gI_n hh7 (by omega), n_nat (by omega)]
    simp only [hs.2.2.2.1, n_eq (show ha (ls A h) < 2147483648 by omega) (show yard < 2147483648 by omega)]
    by_cases he : ha (ls A h) = yard
    · rw [if_pos he]
      refine ⟨m, ?_, ?_, frM.rf⟩
      · rw [show (rideL yard h (k + 1) A).1 = 0 from by unfold rideL; rw [if_pos he]]
        rfl
      · rw [show (rideL yard h (k + 1) A).2 = A from by unfold rideL; rw [if_pos he]]
        exact hL
    · have hnear := move_near (oats := lo A) he
      obtain ⟨m1, p1, p2, p3⟩ := mo_rideOn_n hL hV hh hy he
      have hV1 := setS_V (j := h) hV (go_V (oats := lo A) hVh hy)
      rw [if_neg he, p1, bd_s]
      simp only
      rw [show (1 : Int32) = nI 1 from rfl, n_add]
      have e9 : ls (passA 1 (setS A h (goN yard (lo A) (ls A h)))) h = dayN (lo A) (goN yard (lo A) (ls A h)) := by
        show dayN (lo A) (if h = h then _ else _) = _
        rw [if_pos rfl]
      obtain ⟨m', q1, q2, q3⟩ := ih n (c + 1) m1 (passA 1 (setS A h (goN yard (lo A) (ls A h)))) (by omega) p2 (pass_V hV1) hh (by rw [e9]; show dst (moveN yard (lo A) (ls A h)) yard ≤ k; omega) (by rw [e9]; show c + 1 + dst (moveN yard (lo A) (ls A h)) yard ≤ 20; omega)
      refine ⟨m', ?_, ?_, p3.tr q3⟩
      · rw [q1, show (rideL yard h (k + 1) A).1 = (rideL yard h k (passA 1 (setS A h (goN yard (lo A) (ls A h))))).1 + 1 from by conv => lhs; unfold rideL; rw [if_neg he], Nat.add_assoc, Nat.add_comm 1]
      · rw [show (rideL yard h (k + 1) A).2 = (rideL yard h k (passA 1 (setS A h (goN yard (lo A) (ls A h))))).2 from by conv => lhs; unfold rideL; rw [if_neg he]]
        exact q2
theorem mo_ride_n {m : MD} {A : Ld} {yard h : Nat} (hL : LnM m A) (hV : VA A) (hh : h < ln A) (hy : yard ≤ 20) : ∃ m', f_Mo_ride (nI h) (nI yard) m = some (nI (rideA yard h A).1, m') ∧ LnM m' (rideA yard h A).2 ∧ frM m m' := by
  have h4 := dst20 (hV.2.2 h hh).2.2.2.1 hy
  obtain ⟨m', q1, q2, q3⟩ := mo_ride_l (yard := yard) (h := h) hy 21 fu 0 m A (by decide) hL hV hh (by omega) (by omega)
  exact ⟨m', by unfold f_Mo_ride rideA; rw [show (0 : Int32) = nI 0 from rfl, q1, Nat.zero_add], q2, q3⟩

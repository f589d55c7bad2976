/-! The reference's land: sums. -/
theorem mo_allLonging_l {m : MD} {A : Ld} (hL : LnM m A) (hV : VA A) : ∀ (k n j : Nat), j + k = ln A → k < n → b_Mo_allLonging_4 n (nI (sumK hlo (ls A) j)) (nI j) m = some (nI (sumK hlo (ls A) (ln A)), m) := by
  have h7 := hV.1
  intro k
  induction k with
  | zero =>
    intro n j hj hn
    obtain ⟨n, rfl⟩ : ∃ m, n = m + 1 := ⟨n - 1, by omega⟩
    rw [b_Mo_allLonging_4, hL.1, if_pos (nI_le (by omega) (by omega)), show j = ln A by omega]
  | succ k ih =>
    intro n j hj hn
    obtain ⟨n, rfl⟩ : ∃ m, n = m + 1 := ⟨n - 1, by omega⟩
    rw [b_Mo_allLonging_4, hL.1]
    simp only [n_le (show ln A < 2147483648 by omega) (show j < 2147483648 by omega)]
    rw [if_neg (by omega), gI_n (show j < 7 by omega) (by omega), n_nat (by omega), (hL.2.2.2 j (by omega)).2.2.2.2, show (1 : Int32) = nI 1 from rfl, n_add, n_add]
    exact ih n (j + 1) (by omega) (by omega)
theorem mo_allLonging_n {m : MD} {A : Ld} (hL : LnM m A) (hV : VA A) : f_Mo_allLonging m = some (nI (sumK hlo (ls A) (ln A)), m) :=
  mo_allLonging_l hL hV (ln A) fu 0 (by omega) (by have := hV.1; show ln A < 1000; omega)
theorem mo_atGoals_l {m : MD} {A : Ld} (hL : LnM m A) (hV : VA A) : ∀ (k n j : Nat), j + k = ln A → k < n → b_Mo_atGoals_4 n (nI (sumK (restN (lo A)) (ls A) j)) (nI j) m = some (nI (sumK (restN (lo A)) (ls A) (ln A)), m) := by
  have h7 := hV.1
  intro k
  induction k with
  | zero =>
    intro n j hj hn
    obtain ⟨n, rfl⟩ : ∃ m, n = m + 1 := ⟨n - 1, by omega⟩
    rw [b_Mo_atGoals_4, hL.1, if_pos (nI_le (by omega) (by omega)), show j = ln A by omega]
  | succ k ih =>
    intro n j hj hn
    obtain ⟨n, rfl⟩ : ∃ m, n = m + 1 := ⟨n - 1, by omega⟩
    have hi := ih n (j + 1) (by omega) (by omega)
    have hsum : sumK (restN (lo A)) (ls A) (j + 1) = sumK (restN (lo A)) (ls A) j + restN (lo A) (ls A j) := rfl
    have hsj := hL.2.2.2 j (by omega)
    have hVj := hV.2.2 j (by omega)
    have h4 := hVj.2.2.2.1
    have hg := goal_le hVj hV.2.1
    rw [hsum] at hi
    rw [b_Mo_atGoals_4, hL.1]
    simp only [n_le (show ln A < 2147483648 by omega) (show j < 2147483648 by omega)]
    rw [if_neg (by omega), gI_n (show j < 7 by omega) (by omega), mo_goal_n hsj hVj (by omega) hV.2.1 hL.2.1, bd_s]
    simp only [n_nat (show j < 2147483648 by omega), hsj.2.2.2.1, n_eq (show ha (ls A j) < 2147483648 by omega) (show goalN (lo A) (ls A j) < 2147483648 by omega)]
    by_cases c : ha (ls A j) = goalN (lo A) (ls A j)
    · rw [if_pos c, b_Mo_atGoals_32, show (1 : Int32) = nI 1 from rfl, n_add, n_add]
      rw [show restN (lo A) (ls A j) = 1 from if_pos c] at hi
      exact hi
    · rw [if_neg c, b_Mo_atGoals_32, show (1 : Int32) = nI 1 from rfl, show (0 : Int32) = nI 0 from rfl, n_add, n_add]
      rw [show restN (lo A) (ls A j) = 0 from if_neg c] at hi
      exact hi
theorem mo_atGoals_n {m : MD} {A : Ld} (hL : LnM m A) (hV : VA A) : f_Mo_atGoals m = some (nI (sumK (restN (lo A)) (ls A) (ln A)), m) :=
  mo_atGoals_l hL hV (ln A) fu 0 (by omega) (by have := hV.1; show ln A < 1000; omega)

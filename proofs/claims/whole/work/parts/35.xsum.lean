/-! The class's lands: sums, and a land that becomes another. -/
def sumK (f : Hs → Nat) (s : Nat → Hs) : Nat → Nat
  | 0 => 0
  | n + 1 => sumK f s n + f (s n)
theorem sumK_le {f : Hs → Nat} {s : Nat → Hs} {b : Nat} : ∀ (n : Nat), (∀ h, h < n → f (s h) ≤ b) → sumK f s n ≤ n * b
  | 0, _ => Nat.zero_le _
  | n + 1, h => by
    have h1 := sumK_le n (fun i hi => h i (by omega))
    have h2 := h n (by omega)
    rw [Nat.succ_mul]
    exact Nat.add_le_add h1 h2
abbrev restN (oats : Nat) (s : Hs) : Nat := if ha s = goalN oats s then 1 else 0
section XM
variable {o : Nat}
theorem la_allLonging_l {x : XD} {A : Ld} (hL : LnX x o A) (hV : VA A) : ∀ (k n j : Nat), j + k = ln A → k < n → b_La_allLonging_4 o n (nI (sumK hlo (ls A) j)) (nI j) x = some (nI (sumK hlo (ls A) (ln A)), x) := by
  have h7 := hV.1
  intro k
  induction k with
  | zero =>
    intro n j hj hn
    obtain ⟨n, rfl⟩ : ∃ m, n = m + 1 := ⟨n - 1, by omega⟩
    rw [b_La_allLonging_4, hL.1, if_pos (nI_le (by omega) (by omega)), show j = ln A by omega]
  | succ k ih =>
    intro n j hj hn
    obtain ⟨n, rfl⟩ : ∃ m, n = m + 1 := ⟨n - 1, by omega⟩
    rw [b_La_allLonging_4, hL.1]
    simp only [n_le (show ln A < 2147483648 by omega) (show j < 2147483648 by omega)]
    rw [if_neg (by omega), gI_n (show j < 7 by omega) (by omega), sid_n (by omega), (hL.2.2.2 j (by omega)).2.2.2.2, show (1 : Int32) = nI 1 from rfl, n_add, n_add]
    exact ih n (j + 1) (by omega) (by omega)
theorem la_allLonging_n {x : XD} {A : Ld} (hL : LnX x o A) (hV : VA A) : f_La_allLonging o x = some (nI (sumK hlo (ls A) (ln A)), x) :=
  la_allLonging_l hL hV (ln A) fu 0 (by omega) (by have := hV.1; show ln A < 1000; omega)
theorem la_allPace_l {x : XD} {A : Ld} (hL : LnX x o A) (hV : VA A) : ∀ (k n j : Nat), j + k = ln A → k < n → b_La_allPace_4 o n (nI (sumK paceN (ls A) j)) (nI j) x = some (nI (sumK paceN (ls A) (ln A)), x) := by
  have h7 := hV.1
  intro k
  induction k with
  | zero =>
    intro n j hj hn
    obtain ⟨n, rfl⟩ : ∃ m, n = m + 1 := ⟨n - 1, by omega⟩
    rw [b_La_allPace_4, hL.1, if_pos (nI_le (by omega) (by omega)), show j = ln A by omega]
  | succ k ih =>
    intro n j hj hn
    obtain ⟨n, rfl⟩ : ∃ m, n = m + 1 := ⟨n - 1, by omega⟩
    rw [b_La_allPace_4, hL.1]
    simp only [n_le (show ln A < 2147483648 by omega) (show j < 2147483648 by omega)]
    rw [if_neg (by omega), gI_n (show j < 7 by omega) (by omega), sid_n (by omega), st_pace_n (hL.2.2.2 j (by omega)) (hV.2.2 j (by omega)), bd_s]
    simp only
    rw [show (1 : Int32) = nI 1 from rfl, n_add, n_add]
    exact ih n (j + 1) (by omega) (by omega)
theorem la_allPace_n {x : XD} {A : Ld} (hL : LnX x o A) (hV : VA A) : f_La_allPace o x = some (nI (sumK paceN (ls A) (ln A)), x) :=
  la_allPace_l hL hV (ln A) fu 0 (by omega) (by have := hV.1; show ln A < 1000; omega)
theorem la_allResting_l {x : XD} {A : Ld} (hL : LnX x o A) (hV : VA A) : ∀ (k n j : Nat), j + k = ln A → k < n → b_La_allResting_4 o n (nI (sumK (restN (lo A)) (ls A) j)) (nI j) x = some (nI (sumK (restN (lo A)) (ls A) (ln A)), x) := by
  have h7 := hV.1
  intro k
  induction k with
  | zero =>
    intro n j hj hn
    obtain ⟨n, rfl⟩ : ∃ m, n = m + 1 := ⟨n - 1, by omega⟩
    rw [b_La_allResting_4, hL.1, if_pos (nI_le (by omega) (by omega)), show j = ln A by omega]
  | succ k ih =>
    intro n j hj hn
    obtain ⟨n, rfl⟩ : ∃ m, n = m + 1 := ⟨n - 1, by omega⟩
    have hi := ih n (j + 1) (by omega) (by omega)
    have hsum : sumK (restN (lo A)) (ls A) (j + 1) = sumK (restN (lo A)) (ls A) j + restN (lo A) (ls A j) := rfl
    rw [hsum] at hi
    rw [b_La_allResting_4, hL.1]
    simp only [n_le (show ln A < 2147483648 by omega) (show j < 2147483648 by omega)]
    rw [if_neg (by omega), gI_n (show j < 7 by omega) (by omega), sid_n (by omega), hL.2.1, st_rests_n (hL.2.2.2 j (by omega)) (hV.2.2 j (by omega)) hV.2.1, bd_s]
    simp only
    by_cases c : ha (ls A j) = goalN (lo A) (ls A j)
    · rw [if_pos c, if_neg (by decide), b_La_allResting_34, show (1 : Int32) = nI 1 from rfl, n_add, n_add]
      rw [show restN (lo A) (ls A j) = 1 from if_pos c] at hi
      exact hi
    · rw [if_neg c, if_pos rfl, b_La_allResting_34, show (1 : Int32) = nI 1 from rfl, show (0 : Int32) = nI 0 from rfl, n_add, n_add]
      rw [show restN (lo A) (ls A j) = 0 from if_neg c] at hi
      exact hi
theorem la_allResting_n {x : XD} {A : Ld} (hL : LnX x o A) (hV : VA A) : f_La_allResting o x = some (nI (sumK (restN (lo A)) (ls A) (ln A)), x) :=
  la_allResting_l hL hV (ln A) fu 0 (by omega) (by have := hV.1; show ln A < 1000; omega)
theorem la_become_l {o1 : Nat} {A : Ld} (ho : 10 ≤ o ∧ o < 16) (ho1 : 10 ≤ o1 ∧ o1 < 16) (hne : o1 ≠ o) (h7 : ln A ≤ 7) : ∀ (k n j : Nat) (x : XD), j + k = ln A → k < n → x o 2 = nI (ln A) → (∀ h, h < ln A → xst x (22 + 7 * (o1 - 10) + h) (ls A h)) → (∀ h, h < j → xst x (22 + 7 * (o - 10) + h) (ls A h)) → ∃ x', b_La_become_26 o o1 n (nI j) x = some ((), x') ∧ (∀ h, h < ln A → xst x' (22 + 7 * (o - 10) + h) (ls A h)) ∧ frT o x x' := by
  intro k
  induction k with
  | zero =>
    intro n j x hj hn h2 hA hB
    obtain ⟨n, rfl⟩ : ∃ m, n = m + 1 := ⟨n - 1, by omega⟩
    refine ⟨x, ?_, fun h hh => hB h (by omega), frT.rf⟩
    rw [b_La_become_26, h2, if_pos (nI_le (by omega) (by omega))]
  | succ k ih =>
    intro n j x hj hn h2 hA hB
    obtain ⟨n, rfl⟩ : ∃ m, n = m + 1 := ⟨n - 1, by omega⟩
    obtain ⟨x1, q1, q2, q3⟩ := st_become_n (o := 22 + 7 * (o - 10) + j) (o1 := 22 + 7 * (o1 - 10) + j) (by omega) (hA j (by omega))
    have q4 : frT o x x1 := q3.T (o := o) (by omega) (by omega)
    obtain ⟨x', r1, r2, r3⟩ := ih n (j + 1) x1 (by omega) (by omega) (by rw [q4 o (by omega)]; exact h2) (fun h hh => xst_fr (hA h hh) (q4 _ (by omega))) (fun h hh => by
      by_cases c : h = j
      · rw [c]; exact q2
      · exact xst_fr (hB h (by omega)) (q3 _ (by omega)))
    refine ⟨x', ?_, r2, q4.tr r3⟩
    rw [b_La_become_26, h2]
    simp only [n_le (show ln A < 2147483648 by omega) (show j < 2147483648 by omega)]
    rw [if_neg (by omega), gI_n (show j < 7 by omega) (by omega), gI_n (show j < 7 by omega) (by omega), sid_n (by omega), sid_n (by omega), q1, bd_s]
    simp only
    rw [show (1 : Int32) = nI 1 from rfl, n_add]
    exact r1
theorem la_become_n {o1 : Nat} {x : XD} {A : Ld} (ho : 10 ≤ o ∧ o < 16) (ho1 : 10 ≤ o1 ∧ o1 < 16) (hne : o1 ≠ o) (hL : LnX x o1 A) (h7 : ln A ≤ 7) : ∃ x', f_La_become o o1 x = some ((), x') ∧ LnX x' o A ∧ frL o x x' := by
  obtain ⟨h2, h3, h4, hs⟩ := hL
  have F : frL o x (x_up (x_up (x_up x o 2 (x o1 2)) o 3 (x o1 3)) o 4 (x o1 4)) := (frL.up.tr frL.up).tr frL.up
  obtain ⟨x', q1, q2, q3⟩ := la_become_l (A := A) ho ho1 hne h7 (ln A) fu 0 (x_up (x_up (x_up x o 2 (x o1 2)) o 3 (x o1 3)) o 4 (x o1 4)) (by omega) (by show ln A < 1000; omega) (by simp [x_up, h2]) (fun h hh => xst_fr (hs h hh) (F _ (by omega) (by omega))) (fun h hh => absurd hh (Nat.not_lt_zero _))
  have e := q3 o (by omega)
  refine ⟨x', ?_, ⟨?_, ?_, ?_, q2⟩, F.tr q3.L⟩
  · have e1 : x_up x o 2 (x o1 2) o1 = x o1 := x_up_ne hne
    have e2 : x_up (x_up x o 2 (x o1 2)) o 3 (x o1 3) o1 = x o1 := (x_up_ne hne).trans e1
    unfold f_La_become lt
    show b_La_become_26 o o1 fu 0 (x_up (x_up (x_up x o 2 (x o1 2)) o 3 (x_up x o 2 (x o1 2) o1 3)) o 4 (x_up (x_up x o 2 (x o1 2)) o 3 (x_up x o 2 (x o1 2) o1 3) o1 4)) = _
    rw [e1, e2]
    exact q1
  · rw [e]; simp [x_up, h2]
  · rw [e]; simp [x_up, h3]
  · rw [e]; simp [x_up, h4]
end XM

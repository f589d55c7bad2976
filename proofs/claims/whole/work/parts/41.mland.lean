/-! The reference's land: its days. -/
def LnM (m : MD) (A : Ld) : Prop := m.1 83 0 = nI (ln A) ∧ m.1 83 6 = nI (lo A) ∧ m.1 83 7 = ldy A ∧ ∀ h, h < ln A → mst m h (ls A h)
/-- only the array a is another -/
def frA (a : Nat) (m m' : MD) : Prop := m'.2 = m.2 ∧ ∀ k, k ≠ a → m'.1 k = m.1 k
/-- only the land of the reference is another -/
def frM (m m' : MD) : Prop := m'.2 = m.2 ∧ (∀ k, k < 83 ∨ 88 < k → m'.1 k = m.1 k) ∧ ∀ j, j ≠ 0 → j ≠ 6 → j ≠ 7 → m'.1 83 j = m.1 83 j
theorem frA.rf {a : Nat} {m : MD} : frA a m m := ⟨rfl, fun _ _ => rfl⟩
theorem frA.tr {a : Nat} {m m1 m2 : MD} (h : frA a m m1) (h' : frA a m1 m2) : frA a m m2 := ⟨h'.1.trans h.1, fun k hk => (h'.2 k hk).trans (h.2 k hk)⟩
theorem frA.up {a j : Nat} {m : MD} {v : Int32} : frA a m (x_up m.1 a j v, m.2) := ⟨rfl, fun _ hk => x_up_ne hk⟩
theorem frA.M {a : Nat} {m m' : MD} (h : frA a m m') (h1 : 83 < a) (h2 : a ≤ 88) : frM m m' := ⟨h.1, fun k hk => h.2 k (by omega), fun j _ _ _ => by rw [h.2 83 (by omega)]⟩
theorem frM.rf {m : MD} : frM m m := ⟨rfl, fun _ _ => rfl, fun _ _ _ _ => rfl⟩
theorem frM.tr {m m1 m2 : MD} (h : frM m m1) (h' : frM m1 m2) : frM m m2 := ⟨h'.1.trans h.1, fun k hk => (h'.2.1 k hk).trans (h.2.1 k hk), fun j a b c => (h'.2.2 j a b c).trans (h.2.2 j a b c)⟩
theorem frM.up {j : Nat} {m : MD} {v : Int32} (hj : j = 0 ∨ j = 6 ∨ j = 7) : frM m (x_up m.1 83 j v, m.2) := ⟨rfl, fun k hk => x_up_ne (show ¬ k = 83 by omega), fun i a b c => by
  show x_up m.1 83 j v 83 i = _
  rw [x_up_eq]
  exact if_neg (by omega)⟩
theorem mst_88 {m : MD} {h v : Nat} {s : Hs} (hs : mst m h s) : mst (x_up m.1 88 h (nI v), m.2) h (hk s, hf s, hh s, ha s, v) := by
  obtain ⟨s1, s2, s3, s4, s5⟩ := hs
  exact ⟨s1, s2, s3, s4, by simp [x_up]⟩
theorem mst_87 {m : MD} {h v : Nat} {s : Hs} (hs : mst m h s) : mst (x_up m.1 87 h (nI v), m.2) h (hk s, hf s, hh s, v, hlo s) := by
  obtain ⟨s1, s2, s3, s4, s5⟩ := hs
  exact ⟨s1, s2, s3, by simp [x_up], s5⟩
theorem mst_ne {m : MD} {a h i : Nat} {v : Int32} {s : Hs} (hs : mst m i s) (hne : i ≠ h) : mst (x_up m.1 a h v, m.2) i s := by
  obtain ⟨s1, s2, s3, s4, s5⟩ := hs
  have e : ∀ k, x_up m.1 a h v k i = m.1 k i := fun k => by
    simp [x_up, hne]
  exact ⟨(e _).trans s1, (e _).trans s2, (e _).trans s3, (e _).trans s4, (e _).trans s5⟩
theorem mst_83 {m : MD} {h j : Nat} {v : Int32} {s : Hs} (hs : mst m h s) : mst (x_up m.1 83 j v, m.2) h s := hs
theorem mo_day12 {A : Ld} (hV : VA A) : ∀ (k n j : Nat) (m : MD), j + k = ln A → k < n → m.1 83 0 = nI (ln A) → m.1 83 6 = nI (lo A) → (∀ i, i < ln A → mst m i (if i < j then dayN (lo A) (ls A i) else ls A i)) → ∃ m', b_Mo_dayBy_12 0 n (nI j) m = some ((), m') ∧ (∀ i, i < ln A → mst m' i (dayN (lo A) (ls A i))) ∧ frA 88 m m' := by
  have h7 := hV.1
  intro k
  induction k with
  | zero =>
    intro n j m hj hn h0 h6 hs
    obtain ⟨n, rfl⟩ : ∃ m, n = m + 1 := ⟨n - 1, by omega⟩
    refine ⟨m, ?_, fun i hi => by have := hs i hi; rwa [if_pos (by omega)] at this, frA.rf⟩
    rw [b_Mo_dayBy_12, h0, if_pos (nI_le (by omega) (by omega))]
  | succ k ih =>
    intro n j m hj hn h0 h6 hs
    obtain ⟨n, rfl⟩ : ∃ m, n = m + 1 := ⟨n - 1, by omega⟩
    have hsj := hs j (by omega)
    rw [if_neg (by omega)] at hsj
    have hVj := hV.2.2 j (by omega)
    have hg := goal_le hVj hV.2.1
    have hp := pines_le hVj hV.2.1
    have h4 := hVj.2.2.2.1
    have h5 := hVj.2.2.2.2
    have hn7 : (nI j).toNatClampNeg = j := n_nat (by omega)
    have key : b_Mo_dayBy_12 0 (n + 1) (nI j) m = b_Mo_dayBy_12 0 n (nI (j + 1)) (x_up m.1 88 j (nI (pineN (lo A) (ls A j))), m.2) := by
      rw [b_Mo_dayBy_12, h0]
      simp only [n_le (show ln A < 2147483648 by omega) (show j < 2147483648 by omega)]
      rw [if_neg (by omega), if_pos trivial, gI_n (show j < 7 by omega) (by omega), mo_goal_n hsj hVj (by omega) hV.2.1 h6, bd_s]
      simp only [hn7, hsj.2.2.2.1, n_eq (show ha (ls A j) < 2147483648 by omega) (show goalN (lo A) (ls A j) < 2147483648 by omega)]
      unfold pineN
      by_cases c : ha (ls A j) = goalN (lo A) (ls A j)
      · rw [if_pos c, if_pos c.symm, b_Mo_dayBy_43, if_neg (by decide), gI_n (show j < 7 by omega) (by omega), hn7, b_Mo_dayBy_81, gI_n (show j < 7 by omega) (by omega), hsj.2.2.2.2, hn7, show (2 : Int32) = nI 2 from rfl, n_div (by omega) (by omega), show (1 : Int32) = nI 1 from rfl, n_add]
        rfl
      · rw [if_neg c, if_neg (fun e => c e.symm), b_Mo_dayBy_43, if_pos rfl, gI_n (show j < 7 by omega) (by omega), mo_pines_n hsj hVj (by omega) hV.2.1 h6, bd_s]
        simp only [hn7, hsj.2.2.2.2]
        rw [n_add, show (99 : Int32) = nI 99 from rfl, mo_least_n (by omega) (by omega), bd_s]
        simp only
        rw [b_Mo_dayBy_81, gI_n (show j < 7 by omega) (by omega), hn7, show (1 : Int32) = nI 1 from rfl, n_add, show min 99 (hlo (ls A j) + pinesN (lo A) (ls A j)) = (if hlo (ls A j) + pinesN (lo A) (ls A j) ≤ 99 then hlo (ls A j) + pinesN (lo A) (ls A j) else 99) from by split <;> omega]
        rfl
    obtain ⟨m', q1, q2, q3⟩ := ih n (j + 1) (x_up m.1 88 j (nI (pineN (lo A) (ls A j))), m.2) (by omega) (by omega) h0 h6 (fun i hi => by
      by_cases c : i = j
      · subst c
        rw [if_pos (by omega)]
        exact mst_88 hsj
      · have h9 := hs i hi
        by_cases c2 : i < j
        · rw [if_pos c2] at h9
          rw [if_pos (by omega)]
          exact mst_ne h9 c
        · rw [if_neg c2] at h9
          rw [if_neg (by omega)]
          exact mst_ne h9 c)
    exact ⟨m', key.trans q1, q2, frA.up.tr q3⟩
theorem mo_day_n {m : MD} {A : Ld} (h : LnM m A) (hV : VA A) : ∃ m', f_Mo_dayBy 0 m = some ((), m') ∧ LnM m' (passA 1 A) ∧ frM m m' := by
  obtain ⟨h0, h6, h7, hs⟩ := h
  obtain ⟨m', q1, q2, q3⟩ := mo_day12 (A := A) hV (ln A) fu 0 (x_up m.1 83 7 (m.1 83 7 + 1), m.2) (by omega) (by have := hV.1; show ln A < 1000; omega) (by simp [x_up, h0]) (by simp [x_up, h6]) (fun i hi => by
    rw [if_neg (by omega)]
    exact hs i hi)
  have e : m'.1 83 = x_up m.1 83 7 (m.1 83 7 + 1) 83 := q3.2 83 (by omega)
  refine ⟨m', q1, ⟨?_, ?_, ?_, q2⟩, (frM.up (Or.inr (Or.inr rfl))).tr (q3.M (by omega) (by omega))⟩
  · rw [e]; simp [x_up, h0]; rfl
  · rw [e]; simp [x_up, h6]; rfl
  · rw [e]; simp [x_up, h7]; rfl

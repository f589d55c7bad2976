/-! Chains of the reference, and both sides. -/
/-- the least so far, and whose -/
def tk (v f : Nat) (st : Nat × Nat) : Nat × Nat := if v < st.1 then (v, f) else st
theorem tk_le {v f : Nat} {st : Nat × Nat} (h : st.1 ≤ 1000) : (tk v f st).1 ≤ 1000 := by
  unfold tk
  split
  · dsimp only; omega
  · exact h
theorem tk_1000 {f : Nat} {st : Nat × Nat} (h : st.1 ≤ 1000) : tk 1000 f st = st := if_neg (by omega)
theorem tk_tk {v w f : Nat} {st : Nat × Nat} : tk w f (tk v f st) = tk (min v w) f st := by
  unfold tk
  by_cases c : v < st.1
  · rw [if_pos c]
    by_cases c2 : w < v
    · rw [if_pos c2, Nat.min_eq_right (by omega), if_pos (by omega)]
    · rw [if_neg c2, Nat.min_eq_left (by omega), if_pos c]
  · rw [if_neg c]
    by_cases c2 : w < st.1
    · rw [if_pos c2, Nat.min_eq_right (by omega), if_pos c2]
    · rw [if_neg c2, if_neg (by omega)]
def SC (m : MD) (st : Nat × Nat) : Prop := m.1 83 30 = (if st.1 = 1000 then -4 else nI st.1) ∧ m.1 83 31 = (if st.1 = 1000 then -4 else nI st.2) ∧ st.1 ≤ 1000
theorem SC_fr {m m' : MD} {st : Nat × Nat} (h : SC m st) (e : ∀ j, j = 30 ∨ j = 31 → m'.1 83 j = m.1 83 j) : SC m' st := ⟨(e 30 (Or.inl rfl)).trans h.1, (e 31 (Or.inr rfl)).trans h.2.1, h.2.2⟩
/-- kept arrays from b to 100, the land, and the chain found are others -/
def frC (b : Nat) (m m' : MD) : Prop := m'.2.1 = m.2.1 ∧ (∀ k, k < 83 ∨ (88 < k ∧ k < b) ∨ 100 < k → m'.1 k = m.1 k) ∧ ∀ j, j ≠ 0 → j ≠ 6 → j ≠ 7 → j ≠ 27 → j ≠ 28 → j ≠ 30 → j ≠ 31 → m'.1 83 j = m.1 83 j
theorem frC.rf {b : Nat} {m : MD} : frC b m m := ⟨rfl, fun _ _ => rfl, fun _ _ _ _ _ _ _ _ => rfl⟩
theorem frC.tr {b : Nat} {m m1 m2 : MD} (h : frC b m m1) (h' : frC b m1 m2) : frC b m m2 := ⟨h'.1.trans h.1, fun k hk => (h'.2.1 k hk).trans (h.2.1 k hk), fun j a b c d e f g => (h'.2.2 j a b c d e f g).trans (h.2.2 j a b c d e f g)⟩
theorem frC.le {b b' : Nat} {m m' : MD} (h : frC b m m') (hb : b' ≤ b) : frC b' m m' := ⟨h.1, fun k hk => h.2.1 k (by omega), h.2.2⟩
theorem frK.C {a b : Nat} {m m' : MD} (h : frK a m m') (h1 : b ≤ a) (h2 : a ≤ 100) (h3 : 88 < b := by omega) : frC b m m' := ⟨h.1, fun k hk => h.2.1 k (by omega) (by omega), fun j a b c d e _ _ => h.2.2 j a b c d e⟩
theorem frB.C {b : Nat} {m m' : MD} (h : frB m m') (hb : b ≤ 100) : frC b m m' := ⟨h.1, fun k hk => h.2.1 k (by omega), fun j a b c d e _ _ => h.2.2 j a b c d e⟩
theorem frC.S {b : Nat} {m m' : MD} (h : frC b m m') (hb : 93 < b) : frS m m' := ⟨by rw [h.1], fun k h1 h2 => h.2.1 k (by omega), h.2.1 101 (by omega), h.2.2 26 (by omega) (by omega) (by omega) (by omega) (by omega) (by omega) (by omega)⟩
theorem LkM_C {m m' : MD} {a b : Nat} {A : Ld} (h : LkM m a A) (f : frC b m m') (h1 : 88 < a) (h2 : a < b) : LkM m' a A := by
  unfold LkM
  rw [f.2.1 a (by omega)]
  exact h
theorem SC_B {m m' : MD} {st : Nat × Nat} (h : SC m st) (f : frB m m') : SC m' st := SC_fr h (fun j hj => f.2.2 j (by omega) (by omega) (by omega) (by omega) (by omega))
theorem SC_K {m m' : MD} {a : Nat} {st : Nat × Nat} (h : SC m st) (f : frK a m m') : SC m' st := SC_fr h (fun j hj => f.2.2 j (by omega) (by omega) (by omega) (by omega) (by omega))
theorem mo_takeC {m : MD} {A : Ld} {d f : Nat} {st : Nat × Nat} (hd : d < 1000) (hS : SC m st) (hM : LnM m A) : ∃ m', f_Mo_takeChain (nI d) (nI f) m = some ((), m') ∧ SC m' (tk d f st) ∧ LnM m' A ∧ frC 101 m m' := by
  obtain ⟨h1, h2, h3⟩ := hS
  have put : b_Mo_takeChain_15 (nI d) (nI f) m = some ((), (x_up (x_up m.1 83 30 (nI d)) 83 31 (nI f), m.2)) := by
    unfold b_Mo_takeChain_15
    rw [lt_e, lt_e]
  have hM1 : LnM (x_up m.1 83 30 (nI d), m.2) A := LnM_83 hM (by decide)
  have good : tk d f st = (d, f) → SC (x_up (x_up m.1 83 30 (nI d)) 83 31 (nI f), m.2) (tk d f st) ∧ LnM (x_up (x_up m.1 83 30 (nI d)) 83 31 (nI f), m.2) A ∧ frC 101 m (x_up (x_up m.1 83 30 (nI d)) 83 31 (nI f), m.2) := fun e => by
    refine ⟨?_, LnM_83 (m := (x_up m.1 83 30 (nI d), m.2)) hM1 (by decide), rfl, fun k hk => ?_, fun j _ _ _ _ _ j1 j2 => ?_⟩
    · rw [e]
      refine ⟨?_, ?_, by dsimp only; omega⟩
      · dsimp only
        rw [if_neg (by omega), x_up_nj (by decide), x_up_at]
      · dsimp only
        rw [if_neg (by omega), x_up_at]
    · dsimp only
      rw [x_up_ne (by omega), x_up_ne (by omega)]
    · dsimp only
      rw [x_up_nj j2, x_up_nj j1]
  unfold f_Mo_takeChain
  by_cases c : st.1 = 1000
  · rw [h1, if_pos c, if_pos (show (-4 : Int32) < 0 from by decide), put]
    exact ⟨_, rfl, good (if_pos (by omega))⟩
  · rw [h1, if_neg c, if_neg (nneg (by omega))]
    simp only [n_le (show st.1 < 2147483648 by omega) (show d < 2147483648 by omega)]
    by_cases c2 : st.1 ≤ d
    · rw [if_pos c2]
      have e : tk d f st = st := if_neg (by omega)
      exact ⟨m, rfl, by rw [e]; exact ⟨h1, h2, h3⟩, hM, frC.rf⟩
    · rw [if_neg c2, put]
      exact ⟨_, rfl, good (if_pos (by omega))⟩
def E3 (A : Ld) (a b frm to before c : Nat) : Nat := if c ≠ a ∧ c ≠ b ∧ ha (ls A c) = frm then before + (rideA to c A).1 else 1000
theorem third_l {A : Ld} {a b frm to before : Nat} {st : Nat × Nat} (hV : VA A) (ha7 : a < 7) (hb7 : b < 7) (hfr : frm ≤ 20) (hto : to ≤ 20) (hb : before ≤ 100) : ∀ (k n j : Nat) (m : MD), j + k = ln A → k < n → LnM m A → SC m (tk (mn (E3 A a b frm to before) j) a st) → ∃ m', b_Mo_thirdRides_3 (nI frm) (nI to) (nI before) (nI a) (nI b) n (nI j) m = some ((), m') ∧ LnM m' A ∧ SC m' (tk (mn (E3 A a b frm to before) (ln A)) a st) ∧ frC 100 m m' := by
  have h7 := hV.1
  intro k
  induction k with
  | zero =>
    intro n j m hj hn hM hS
    obtain ⟨n, rfl⟩ : ∃ m, n = m + 1 := ⟨n - 1, by omega⟩
    obtain rfl : j = ln A := by omega
    exact ⟨m, by rw [b_Mo_thirdRides_3, hM.1, if_pos (nI_le (by omega) (by omega))], hM, hS, frC.rf⟩
  | succ k ih =>
    intro n j m hj hn hM hS
    obtain ⟨n, rfl⟩ : ∃ m, n = m + 1 := ⟨n - 1, by omega⟩
    have h4 := (hV.2.2 j (by omega)).2.2.2.1
    have hm := mn_le (E3 A a b frm to before) j
    have hstep : mn (E3 A a b frm to before) (j + 1) = min (mn (E3 A a b frm to before) j) (E3 A a b frm to before j) := rfl
    have em : m.1 87 (nI j).toNatClampNeg = nI (ha (ls A j)) := by
      rw [n_nat (by omega)]
      exact (hM.2.2.2 j (by omega)).2.2.2.1
    have skip : ¬ (j ≠ a ∧ j ≠ b ∧ ha (ls A j) = frm) → ∃ m', b_Mo_thirdRides_3 (nI frm) (nI to) (nI before) (nI a) (nI b) n (nI (j + 1)) m = some ((), m') ∧ LnM m' A ∧ SC m' (tk (mn (E3 A a b frm to before) (ln A)) a st) ∧ frC 100 m m' := fun c => by
      refine ih n (j + 1) m (by omega) (by omega) hM ?_
      rw [hstep, show E3 A a b frm to before j = 1000 from if_neg c, Nat.min_eq_left hm]
      exact hS
    rw [b_Mo_thirdRides_3, hM.1]
    simp only [n_le (show ln A < 2147483648 by omega) (show j < 2147483648 by omega), n_eq (show j < 2147483648 by omega) (show a < 2147483648 by omega), n_eq (show j < 2147483648 by omega) (show b < 2147483648 by omega), b_Mo_thirdRides_70, show nI j + 1 = nI (j + 1) from n_add j 1]
    rw [if_neg (by omega)]
    by_cases c1 : j = a
    · rw [if_pos c1]
      exact skip (fun z => z.1 c1)
    rw [if_neg c1]
    by_cases c2 : j = b
    · rw [if_pos c2]
      exact skip (fun z => z.2.1 c2)
    rw [if_neg c2, gI_n (by omega) (by omega), em]
    simp only [n_eq (show ha (ls A j) < 2147483648 by omega) (show frm < 2147483648 by omega)]
    by_cases c3 : ha (ls A j) = frm
    · rw [if_pos c3]
      have hd := ride_le hV (show j < ln A by omega) hto
      obtain ⟨m1, e1, a1, k1, f1⟩ := mo_save_n (a := 100) (by omega) hM h7
      obtain ⟨m2, e2, a2, f2⟩ := mo_ride_n a1 hV (show j < ln A by omega) hto
      obtain ⟨m3, e3, s3, a3, f3⟩ := mo_takeC (d := before + (rideA to j A).1) (f := a) (by omega) (SC_B (SC_K hS f1) f2.B) a2
      obtain ⟨m4, e4, a4, f4⟩ := mo_back_n (a := 100) (by omega) (LkM_C (LkM_B (by omega) k1 f2.B) f3 (by omega) (by omega)) h7
      have hS4 := SC_B s3 f4
      rw [tk_tk, show before + (rideA to j A).1 = E3 A a b frm to before j from (if_pos ⟨c1, c2, c3⟩).symm, ← hstep] at hS4
      obtain ⟨m', e5, a5, s5, f5⟩ := ih n (j + 1) m4 (by omega) (by omega) a4 hS4
      refine ⟨m', ?_, a5, s5, (((f1.C (by omega) (by omega)).tr (f2.B.C (by omega))).tr (f3.le (by omega))).tr ((f4.C (by omega)).tr f5)⟩
      rw [e1, bd_s]
      dsimp only
      rw [e2, bd_s]
      dsimp only
      rw [n_add, e3, bd_s]
      dsimp only
      rw [e4, bd_s]
      exact e5
    · rw [if_neg c3]
      exact skip (fun z => c3 z.2.2)
def V3 (A : Ld) (a b frm to before : Nat) : Nat := mn (E3 A a b frm to before) (ln A)
theorem third_n {A : Ld} {a b frm to before : Nat} {st : Nat × Nat} {m : MD} (hV : VA A) (ha7 : a < 7) (hb7 : b < 7) (hfr : frm ≤ 20) (hto : to ≤ 20) (hb : before ≤ 100) (hM : LnM m A) (hS : SC m st) : ∃ m', f_Mo_thirdRides (nI frm) (nI to) (nI before) (nI a) (nI b) m = some ((), m') ∧ LnM m' A ∧ SC m' (tk (V3 A a b frm to before) a st) ∧ frC 100 m m' :=
  third_l hV ha7 hb7 hfr hto hb (ln A) fu 0 m (by omega) (by have := hV.1; show ln A < 1000; omega) hM (by
    show SC m (tk 1000 a st)
    rw [tk_1000 hS.2.2]
    exact hS)
def E2 (A : Ld) (a frm to before b y : Nat) : Nat := if b ≠ a ∧ ha (ls A b) = frm ∧ y ≠ frm then (if y = to then before + (rideA y b A).1 else V3 (rideA y b A).2 a b y to (before + (rideA y b A).1)) else 1000
abbrev F2 (A : Ld) (a frm to before k : Nat) : Nat := E2 A a frm to before (k / 21) (k % 21)
theorem second_l {A : Ld} {a frm to before : Nat} {st : Nat × Nat} (hV : VA A) (ha7 : a < 7) (hfr : frm ≤ 20) (hto : to ≤ 20) (hb : before ≤ 50) : ∀ (k n j : Nat) (m : MD), j + k = 21 * ln A → k < n → LnM m A → SC m (tk (mn (F2 A a frm to before) j) a st) → ∃ m', b_Mo_secondRides_3 (nI frm) (nI to) (nI before) (nI a) n (nI j) m = some ((), m') ∧ LnM m' A ∧ SC m' (tk (mn (F2 A a frm to before) (21 * ln A)) a st) ∧ frC 99 m m' := by
  have h7 := hV.1
  intro k
  induction k with
  | zero =>
    intro n j m hj hn hM hS
    obtain ⟨n, rfl⟩ : ∃ m, n = m + 1 := ⟨n - 1, by omega⟩
    obtain rfl : j = 21 * ln A := by omega
    refine ⟨m, ?_, hM, hS, frC.rf⟩
    rw [b_Mo_secondRides_3, hM.1, show (21 : Int32) * nI (ln A) = nI (21 * ln A) from n_mul 21 _, if_pos (nI_le (by omega) (by omega))]
  | succ k ih =>
    intro n j m hj hn hM hS
    obtain ⟨n, rfl⟩ : ∃ m, n = m + 1 := ⟨n - 1, by omega⟩
    have hb9 : j / 21 < ln A := by omega
    have hy9 : j % 21 ≤ 20 := by omega
    have h4 := (hV.2.2 (j / 21) hb9).2.2.2.1
    have hm := mn_le (F2 A a frm to before) j
    have hstep : mn (F2 A a frm to before) (j + 1) = min (mn (F2 A a frm to before) j) (F2 A a frm to before j) := rfl
    have w1 : nI j / 21 = nI (j / 21) := n_div (a := j) (b := 21) (by omega) (by omega)
    have w2 : x_rem (nI j) 21 = nI (j % 21) := n_rem (a := j) (b := 21) (by omega) (by omega)
    have em : m.1 87 (nI (j / 21)).toNatClampNeg = nI (ha (ls A (j / 21))) := by
      rw [n_nat (by omega)]
      exact (hM.2.2.2 _ hb9).2.2.2.1
    have skip : ¬ (j / 21 ≠ a ∧ ha (ls A (j / 21)) = frm ∧ j % 21 ≠ frm) → ∃ m', b_Mo_secondRides_3 (nI frm) (nI to) (nI before) (nI a) n (nI (j + 1)) m = some ((), m') ∧ LnM m' A ∧ SC m' (tk (mn (F2 A a frm to before) (21 * ln A)) a st) ∧ frC 99 m m' := fun c => by
      refine ih n (j + 1) m (by omega) (by omega) hM ?_
      rw [hstep, show F2 A a frm to before j = 1000 from if_neg c, Nat.min_eq_left hm]
      exact hS
    rw [b_Mo_secondRides_3, hM.1, show (21 : Int32) * nI (ln A) = nI (21 * ln A) from n_mul 21 _, w1, w2]
    simp only [n_le (show 21 * ln A < 2147483648 by omega) (show j < 2147483648 by omega), n_eq (show j / 21 < 2147483648 by omega) (show a < 2147483648 by omega), n_eq (show j % 21 < 2147483648 by omega) (show frm < 2147483648 by omega), n_eq (show j % 21 < 2147483648 by omega) (show to < 2147483648 by omega), b_Mo_secondRides_113, b_Mo_secondRides_104, show nI j + 1 = nI (j + 1) from n_add j 1]
    rw [if_neg (by omega)]
    by_cases c1 : j / 21 = a
    · rw [if_pos c1]
      exact skip (fun z => z.1 c1)
    rw [if_neg c1, gI_n (by omega) (by omega), em]
    simp only [n_eq (show ha (ls A (j / 21)) < 2147483648 by omega) (show frm < 2147483648 by omega)]
    by_cases c2 : ha (ls A (j / 21)) = frm
    · rw [if_pos c2]
      by_cases c3 : j % 21 = frm
      · rw [if_pos c3]
        exact skip (fun z => z.2.2 c3)
      rw [if_neg c3]
      have hd := ride_le hV hb9 hy9
      have hVr := rideA_V hy9 hV hb9
      have hln := ride_ln hV hb9 hy9
      obtain ⟨m1, e1, a1, k1, f1⟩ := mo_save_n (a := 99) (by omega) hM h7
      obtain ⟨m2, e2, a2, f2⟩ := mo_ride_n a1 hV hb9 hy9
      have hS2 := SC_B (SC_K hS f1) f2.B
      have hk2 : LkM m2 99 A := LkM_B (by omega) k1 f2.B
      rw [e1, bd_s]
      dsimp only
      rw [e2, bd_s]
      dsimp only
      rw [n_add]
      obtain ⟨m3, e3, s3, f3⟩ : ∃ m3, (if j % 21 = to then (f_Mo_takeChain (nI (before + (rideA (j % 21) (j / 21) A).1)) (nI a) m2) else (f_Mo_thirdRides (nI (j % 21)) (nI to) (nI (before + (rideA (j % 21) (j / 21) A).1)) (nI a) (nI (j / 21)) m2)) = some ((), m3) ∧ SC m3 (tk (F2 A a frm to before j) a (tk (mn (F2 A a frm to before) j) a st)) ∧ frC 100 m2 m3 := by
        by_cases c4 : j % 21 = to
        · obtain ⟨m3, e3, s3, a3, f3⟩ := mo_takeC (d := before + (rideA (j % 21) (j / 21) A).1) (f := a) (by omega) hS2 a2
          refine ⟨m3, by rw [if_pos c4]; exact e3, ?_, f3.le (by omega)⟩
          rw [show F2 A a frm to before j = before + (rideA (j % 21) (j / 21) A).1 from (if_pos ⟨c1, c2, c3⟩).trans (if_pos c4)]
          exact s3
        · obtain ⟨m3, e3, a3, s3, f3⟩ := third_n (a := a) (b := j / 21) (frm := j % 21) (to := to) (before := before + (rideA (j % 21) (j / 21) A).1) hVr ha7 (by omega) hy9 hto (by omega) a2 hS2
          refine ⟨m3, by rw [if_neg c4]; exact e3, ?_, f3⟩
          rw [show F2 A a frm to before j = V3 (rideA (j % 21) (j / 21) A).2 a (j / 21) (j % 21) to (before + (rideA (j % 21) (j / 21) A).1) from (if_pos ⟨c1, c2, c3⟩).trans (if_neg c4)]
          exact s3
      obtain ⟨m4, e4, a4, f4⟩ := mo_back_n (a := 99) (by omega) (LkM_C hk2 f3 (by omega) (by omega)) h7
      have hS4 := SC_B s3 f4
      rw [tk_tk, ← hstep] at hS4
      obtain ⟨m', e5, a5, s5, f5⟩ := ih n (j + 1) m4 (by omega) (by omega) a4 hS4
      refine ⟨m', ?_, a5, s5, (((f1.C (by omega) (by omega)).tr (f2.B.C (by omega))).tr (f3.le (by omega))).tr ((f4.C (by omega)).tr f5)⟩
      by_cases c4 : j % 21 = to
      · rw [if_pos c4] at e3 ⊢
        rw [e3, bd_s]
        dsimp only
        rw [e4, bd_s]
        exact e5
      · rw [if_neg c4] at e3 ⊢
        rw [e3, bd_s]
        dsimp only
        rw [e4, bd_s]
        exact e5
    · rw [if_neg c2]
      exact skip (fun z => c2 z.2.1)
def V2 (A : Ld) (a frm to before : Nat) : Nat := mn (F2 A a frm to before) (21 * ln A)
theorem second_n {A : Ld} {a frm to before : Nat} {st : Nat × Nat} {m : MD} (hV : VA A) (ha7 : a < 7) (hfr : frm ≤ 20) (hto : to ≤ 20) (hb : before ≤ 50) (hM : LnM m A) (hS : SC m st) : ∃ m', f_Mo_secondRides (nI frm) (nI to) (nI before) (nI a) m = some ((), m') ∧ LnM m' A ∧ SC m' (tk (V2 A a frm to before) a st) ∧ frC 99 m m' :=
  second_l hV ha7 hfr hto hb (21 * ln A) fu 0 m (by omega) (by have := hV.1; show 21 * ln A < 1000; omega) hM (by
    show SC m (tk 1000 a st)
    rw [tk_1000 hS.2.2]
    exact hS)
def E1 (A : Ld) (frm to a y : Nat) : Nat := if ha (ls A a) = frm ∧ y ≠ frm then (if y = to then (rideA y a A).1 else V2 (rideA y a A).2 a y to (rideA y a A).1) else 1000
def fK (A : Ld) (frm to : Nat) : Nat → Nat × Nat
  | 0 => (1000, 0)
  | k + 1 => tk (E1 A frm to (k / 21) (k % 21)) (k / 21) (fK A frm to k)
theorem fK_le {A : Ld} {frm to : Nat} : ∀ k, (fK A frm to k).1 ≤ 1000
  | 0 => Nat.le_refl _
  | k + 1 => tk_le (fK_le k)
theorem mo_chain_l {A : Ld} {frm to : Nat} {v3 : Int32} (hV : VA A) (hfr : frm ≤ 20) (hto : to ≤ 20) : ∀ (k n j : Nat) (m : MD), j + k = 21 * ln A → k < n → LnM m A → SC m (fK A frm to j) → ∃ m', b_Mo_chain_62 (nI frm) (nI to) v3 n (nI j) m = some (if v3 = 0 then (if (fK A frm to (21 * ln A)).1 = 1000 then -4 else nI (fK A frm to (21 * ln A)).1) else (if (fK A frm to (21 * ln A)).1 = 1000 then -4 else nI (fK A frm to (21 * ln A)).2), m') ∧ LnM m' A ∧ frC 98 m m' := by
  have h7 := hV.1
  intro k
  induction k with
  | zero =>
    intro n j m hj hn hM hS
    obtain ⟨n, rfl⟩ : ∃ m, n = m + 1 := ⟨n - 1, by omega⟩
    obtain rfl : j = 21 * ln A := by omega
    refine ⟨m, ?_, hM, frC.rf⟩
    rw [b_Mo_chain_62, hM.1, show (21 : Int32) * nI (ln A) = nI (21 * ln A) from n_mul 21 _, if_pos (nI_le (by omega) (by omega)), hS.1, hS.2.1]
    split <;> rfl
  | succ k ih =>
    intro n j m hj hn hM hS
    obtain ⟨n, rfl⟩ : ∃ m, n = m + 1 := ⟨n - 1, by omega⟩
    have hb9 : j / 21 < ln A := by omega
    have hy9 : j % 21 ≤ 20 := by omega
    have h4 := (hV.2.2 (j / 21) hb9).2.2.2.1
    have hstep : fK A frm to (j + 1) = tk (E1 A frm to (j / 21) (j % 21)) (j / 21) (fK A frm to j) := rfl
    have w1 : nI j / 21 = nI (j / 21) := n_div (a := j) (b := 21) (by omega) (by omega)
    have w2 : x_rem (nI j) 21 = nI (j % 21) := n_rem (a := j) (b := 21) (by omega) (by omega)
    have em : m.1 87 (nI (j / 21)).toNatClampNeg = nI (ha (ls A (j / 21))) := by
      rw [n_nat (by omega)]
      exact (hM.2.2.2 _ hb9).2.2.2.1
    have skip : ¬ (ha (ls A (j / 21)) = frm ∧ j % 21 ≠ frm) → ∃ m', b_Mo_chain_62 (nI frm) (nI to) v3 n (nI (j + 1)) m = some (if v3 = 0 then (if (fK A frm to (21 * ln A)).1 = 1000 then -4 else nI (fK A frm to (21 * ln A)).1) else (if (fK A frm to (21 * ln A)).1 = 1000 then -4 else nI (fK A frm to (21 * ln A)).2), m') ∧ LnM m' A ∧ frC 98 m m' := fun c => by
      refine ih n (j + 1) m (by omega) (by omega) hM ?_
      rw [hstep, show E1 A frm to (j / 21) (j % 21) = 1000 from if_neg c, tk_1000 (fK_le j)]
      exact hS
    rw [b_Mo_chain_62, hM.1, show (21 : Int32) * nI (ln A) = nI (21 * ln A) from n_mul 21 _, w1, w2]
    simp only [n_le (show 21 * ln A < 2147483648 by omega) (show j < 2147483648 by omega), n_eq (show j % 21 < 2147483648 by omega) (show frm < 2147483648 by omega), n_eq (show j % 21 < 2147483648 by omega) (show to < 2147483648 by omega), b_Mo_chain_151, b_Mo_chain_147, show nI j + 1 = nI (j + 1) from n_add j 1]
    rw [if_neg (by omega), gI_n (by omega) (by omega), em]
    simp only [n_eq (show ha (ls A (j / 21)) < 2147483648 by omega) (show frm < 2147483648 by omega)]
    by_cases c2 : ha (ls A (j / 21)) = frm
    · rw [if_pos c2]
      by_cases c3 : j % 21 = frm
      · rw [if_pos c3]
        exact skip (fun z => z.2 c3)
      rw [if_neg c3]
      have hd := ride_le hV hb9 hy9
      have hVr := rideA_V hy9 hV hb9
      have hln := ride_ln hV hb9 hy9
      obtain ⟨m1, e1, a1, k1, f1⟩ := mo_open_n hM h7
      obtain ⟨m2, e2, a2, f2⟩ := mo_ride_n a1 hV hb9 hy9
      have hS2 := SC_B (SC_K hS f1) f2.B
      have hk2 : LkM m2 98 A := LkM_B (by omega) k1 f2.B
      rw [e1, bd_s]
      dsimp only
      rw [e2, bd_s]
      dsimp only
      obtain ⟨m3, e3, s3, f3⟩ : ∃ m3, (if j % 21 = to then (f_Mo_takeChain (nI (rideA (j % 21) (j / 21) A).1) (nI (j / 21)) m2) else (f_Mo_secondRides (nI (j % 21)) (nI to) (nI (rideA (j % 21) (j / 21) A).1) (nI (j / 21)) m2)) = some ((), m3) ∧ SC m3 (tk (E1 A frm to (j / 21) (j % 21)) (j / 21) (fK A frm to j)) ∧ frC 99 m2 m3 := by
        by_cases c4 : j % 21 = to
        · obtain ⟨m3, e3, s3, a3, f3⟩ := mo_takeC (d := (rideA (j % 21) (j / 21) A).1) (f := j / 21) (by omega) hS2 a2
          refine ⟨m3, by rw [if_pos c4]; exact e3, ?_, f3.le (by omega)⟩
          rw [show E1 A frm to (j / 21) (j % 21) = (rideA (j % 21) (j / 21) A).1 from (if_pos ⟨c2, c3⟩).trans (if_pos c4)]
          exact s3
        · obtain ⟨m3, e3, a3, s3, f3⟩ := second_n (a := j / 21) (frm := j % 21) (to := to) (before := (rideA (j % 21) (j / 21) A).1) hVr (by omega) hy9 hto (by omega) a2 hS2
          refine ⟨m3, by rw [if_neg c4]; exact e3, ?_, f3⟩
          rw [show E1 A frm to (j / 21) (j % 21) = V2 (rideA (j % 21) (j / 21) A).2 (j / 21) (j % 21) to (rideA (j % 21) (j / 21) A).1 from (if_pos ⟨c2, c3⟩).trans (if_neg c4)]
          exact s3
      obtain ⟨m4, e4, a4, _, f4⟩ := mo_close_n (LkM_C hk2 f3 (by omega) (by omega)) h7
      have hS4 := SC_B s3 f4
      rw [← hstep] at hS4
      obtain ⟨m', e5, a5, f5⟩ := ih n (j + 1) m4 (by omega) (by omega) a4 hS4
      refine ⟨m', ?_, a5, (((f1.C (by omega) (by omega)).tr (f2.B.C (by omega))).tr (f3.le (by omega))).tr ((f4.C (by omega)).tr f5)⟩
      by_cases c4 : j % 21 = to
      · rw [if_pos c4] at e3 ⊢
        rw [e3, bd_s]
        dsimp only
        rw [e4, bd_s]
        exact e5
      · rw [if_neg c4] at e3 ⊢
        rw [e3, bd_s]
        dsimp only
        rw [e4, bd_s]
        exact e5
    · rw [if_neg c2]
      exact skip (fun z => c2 z.1)
/-! The same numbers. -/
theorem u1_is : ∀ a, a < 7 → ∀ c, c < 7 → (frU (1 <<< (nI a &&& 31)) c ↔ c ≠ a) := by decide +kernel
theorem u2_is : ∀ a, a < 7 → ∀ b, b < 7 → ∀ c, c < 7 → (frU (ub (1 <<< (nI a &&& 31)) b) c ↔ (c ≠ a ∧ c ≠ b)) := by decide +kernel
theorem mn_one {f : Nat → Nat} {t : Nat} (ht : f t ≤ 1000) : ∀ n, (∀ i, i < n → i ≠ t → 1000 ≤ f i) → mn f n = if t < n then f t else 1000
  | 0, _ => (if_neg (Nat.not_lt_zero t)).symm
  | n + 1, h => by
    show min (mn f n) (f n) = _
    rw [mn_one ht n (fun i hi => h i (by omega))]
    by_cases c : n = t
    · subst c
      rw [if_neg (Nat.lt_irrefl n), if_pos (Nat.lt_succ_self n)]
      omega
    · have h1 := h n (by omega) c
      by_cases c2 : t < n
      · rw [if_pos c2, if_pos (by omega)]
        omega
      · rw [if_neg c2, if_neg (by omega)]
        omega
theorem xO3_is {used : Int32} {y : Nat} {A : Ld} : xO3 used y A = 1000 := by
  unfold xO3 gO
  rw [mn_c (g := fun _ => 1000) _ (fun i _ => ite_self _), mn_1000]
theorem xW2_is {used : Int32} {to c : Nat} {A : Ld} (hV : VA A) (hl : c < ln A) (hto : to ≤ 20) (hne : ha (ls A c) ≠ to) : xW2 to used A c = (rideA to c A).1 := by
  have hd := ride_le hV hl hto
  unfold xW2 gW
  have e : (if to = ha (ls A c) then 1000 else (rideA to c A).1 + (if to = to then 0 else xO3 used to (rideA to c A).2)) = (rideA to c A).1 := by
    rw [if_neg (fun z => hne z.symm), if_pos rfl, Nat.add_zero]
  rw [mn_one (t := to) (by rw [e]; omega) 21 (fun i hi hi2 => by
    split
    · exact Nat.le_refl _
    · rw [xO3_is]
      omega), if_pos (by omega), e]
theorem V3_is {A : Ld} {a b y to before : Nat} (hV : VA A) (ha7 : a < 7) (hb7 : b < 7) (hto : to ≤ 20) (hne : y ≠ to) (hb : before ≤ 50) : V3 A a b y to before = min 1000 (before + xO2 to (ub (1 <<< (nI a &&& 31)) b) y A) := by
  have h7 := hV.1
  unfold V3 xO2 gO
  refine mn_shift _ (fun c hc => ?_)
  have hu := u2_is a ha7 b hb7 c (by omega)
  unfold E3
  by_cases q : c ≠ a ∧ c ≠ b ∧ ha (ls A c) = y
  · rw [if_pos q, if_pos ⟨hu.mpr ⟨q.1, q.2.1⟩, q.2.2⟩]
    show _ = min 1000 (before + xW2 to (ub (ub (1 <<< (nI a &&& 31)) b) c) A c)
    rw [xW2_is hV hc hto (by rw [q.2.2]; exact hne)]
    have hd := ride_le hV hc hto
    omega
  · rw [if_neg q, if_neg (fun z => q ⟨(hu.mp z.1).1, (hu.mp z.1).2, z.2⟩)]
    omega
theorem V2_is {A : Ld} {a y to before : Nat} (hV : VA A) (ha7 : a < 7) (hto : to ≤ 20) (hb : before ≤ 20) : V2 A a y to before = min 1000 (before + xO1 to (1 <<< (nI a &&& 31)) y A) := by
  have h7 := hV.1
  unfold V2
  rw [mn_pair (F := E2 A a y to before)]
  unfold xO1 gO
  refine mn_shift _ (fun b hbl => ?_)
  have hu := u1_is a ha7 b (by omega)
  by_cases q : b ≠ a ∧ ha (ls A b) = y
  · rw [if_pos ⟨hu.mpr q.1, q.2⟩]
    unfold xW1 gW
    refine mn_shift 21 (fun y' hy' => ?_)
    unfold E2
    by_cases q2 : y' = y
    · rw [if_neg (fun z => z.2.2 q2), if_pos (show y' = ha (ls A b) from by rw [q2, q.2])]
      omega
    · rw [if_pos ⟨q.1, q.2, q2⟩, if_neg (show ¬ y' = ha (ls A b) from by rw [q.2]; exact q2)]
      have hd := ride_le hV hbl (show y' ≤ 20 by omega)
      by_cases q3 : y' = to
      · rw [if_pos q3, if_pos q3]
        omega
      · rw [if_neg q3, if_neg q3, V3_is (rideA_V (by omega) hV hbl) ha7 (by omega) hto q3 (by omega), Nat.add_assoc]
  · rw [if_neg (fun z => q ⟨hu.mp z.1, z.2⟩)]
    rw [mn_c (f := E2 A a y to before b) (g := fun _ => 1000) 21 (fun y' _ => if_neg (fun (z : b ≠ a ∧ ha (ls A b) = y ∧ y' ≠ y) => q ⟨z.1, z.2.1⟩)), mn_1000]
    omega
def xa (A : Ld) (frm to a : Nat) : Nat := if ha (ls A a) = frm then xW0 to (1 <<< (nI a &&& 31)) A a else 1000
theorem E1_is {A : Ld} {frm to a : Nat} (hV : VA A) (hl : a < ln A) (hto : to ≤ 20) : mn (E1 A frm to a) 21 = xa A frm to a := by
  have h7 := hV.1
  unfold xa
  by_cases q : ha (ls A a) = frm
  · rw [if_pos q]
    unfold xW0 gW
    refine mn_cl 21 (fun y hy => ?_)
    unfold E1
    by_cases q2 : y = frm
    · rw [if_neg (fun z => z.2 q2), if_pos (show y = ha (ls A a) from by rw [q2, q])]
      rfl
    · rw [if_pos ⟨q, q2⟩, if_neg (show ¬ y = ha (ls A a) from by rw [q]; exact q2)]
      have hd := ride_le hV hl (show y ≤ 20 by omega)
      by_cases q3 : y = to
      · rw [if_pos q3, if_pos q3]
        omega
      · rw [if_neg q3, if_neg q3, V2_is (rideA_V (by omega) hV hl) (by omega) hto hd]
  · rw [if_neg q, mn_c (f := E1 A frm to a) (g := fun _ => 1000) 21 (fun y _ => if_neg (fun (z : ha (ls A a) = frm ∧ y ≠ frm) => q z.1)), mn_1000]
def fA (A : Ld) (frm to : Nat) : Nat → Nat × Nat
  | 0 => (1000, 0)
  | a + 1 => tk (xa A frm to a) a (fA A frm to a)
theorem fA_le {A : Ld} {frm to : Nat} : ∀ k, (fA A frm to k).1 ≤ 1000
  | 0 => Nat.le_refl _
  | k + 1 => tk_le (fA_le k)
theorem fK_A {A : Ld} {frm to : Nat} (hV : VA A) (hto : to ≤ 20) : ∀ a, a ≤ ln A → fK A frm to (21 * a) = fA A frm to a := by
  intro a
  induction a with
  | zero => intro _; rw [Nat.mul_zero]; rfl
  | succ a ih =>
    intro ha'
    have h1 := ih (by omega)
    have h2 : ∀ i, i ≤ 21 → fK A frm to (21 * a + i) = tk (mn (E1 A frm to a) i) a (fA A frm to a) := by
      intro i
      induction i with
      | zero =>
        intro _
        rw [Nat.add_zero, h1]
        exact (tk_1000 (fA_le a)).symm
      | succ i ih2 =>
        intro hi
        show tk (E1 A frm to ((21 * a + i) / 21) ((21 * a + i) % 21)) ((21 * a + i) / 21) (fK A frm to (21 * a + i)) = _
        rw [ih2 (by omega), show (21 * a + i) / 21 = a by omega, show (21 * a + i) % 21 = i by omega, tk_tk]
        rfl
    rw [show 21 * (a + 1) = 21 * a + 21 by omega, h2 21 (Nat.le_refl _), E1_is hV (by omega) hto]
    rfl
def xF (st : Nat × Nat) : Int32 := if st.1 = 1000 then -4 else nI st.2
theorem hb_chain_l {A : Ld} {frm to : Nat} {v3 : Int32} (hV : VA A) (hfr : frm ≤ 20) (hto : to ≤ 20) : ∀ (k n j : Nat) (x : XD), j + k = ln A → k < n → LnX x 10 A → LnX x 12 A → ∃ x', b_Hb_chain_64 (nI frm) (nI to) v3 n (nI (fA A frm to j).1) (xF (fA A frm to j)) (nI j) x = some (if v3 = 0 then (if (fA A frm to (ln A)).1 = 1000 then -4 else nI (fA A frm to (ln A)).1) else (if (fA A frm to (ln A)).1 = 1000 then -4 else nI (fA A frm to (ln A)).2), x') ∧ frX x x' := by
  have h7 := hV.1
  intro k
  induction k with
  | zero =>
    intro n j x hj hn hX hX2
    obtain ⟨n, rfl⟩ : ∃ m, n = m + 1 := ⟨n - 1, by omega⟩
    obtain rfl : j = ln A := by omega
    have hle := fA_le (A := A) (frm := frm) (to := to) (ln A)
    refine ⟨x, ?_, frX.rf⟩
    rw [b_Hb_chain_64, hX.1, if_pos (nI_le (by omega) (by omega)), show (1000 : Int32) = nI 1000 from rfl]
    simp only [n_lt (show (fA A frm to (ln A)).1 < 2147483648 by omega) (show 1000 < 2147483648 by omega)]
    unfold xF
    by_cases c : (fA A frm to (ln A)).1 = 1000
    · rw [if_neg (by omega), if_pos c, if_pos c, ite_self]
    · rw [if_pos (by omega), if_neg c, if_neg c]
      split <;> rfl
  | succ k ih =>
    intro n j x hj hn hX hX2
    obtain ⟨n, rfl⟩ : ∃ m, n = m + 1 := ⟨n - 1, by omega⟩
    have hle := fA_le (A := A) (frm := frm) (to := to) j
    have h4 := (hV.2.2 j (by omega)).2.2.2.1
    have es : x (sid 10 (nI j)) 3 = nI (ha (ls A j)) := by
      rw [sid10 (by omega)]
      exact (LnX_s (h := j) hX (by omega)).2.2.2.1
    have hstep : fA A frm to (j + 1) = tk (xa A frm to j) j (fA A frm to j) := rfl
    -- the number of this horse, then what is done with it
    obtain ⟨x1, e1, f1⟩ : ∃ x1, (∀ K : Int32 → XD → Option (Int32 × XD), (if x (sid 10 (nI j)) 3 = nI frm then (f_Hb_chainWith 4 0 (nI j) (nI to) (1 <<< (nI j &&& 31)) x).bind fun p6 => (K p6.1 p6.2) else K 1000 x) = K (nI (xa A frm to j)) x1) ∧ frG 1 x x1 := by
      unfold xa
      by_cases c : ha (ls A j) = frm
      · obtain ⟨x1, e1, f1⟩ := x_W0 (used := 1 <<< (nI j &&& 31)) hto hX2 hV (show j < ln A by omega)
        refine ⟨x1, fun K => ?_, f1⟩
        have e1' : f_Hb_chainWith 4 0 (nI j) (nI to) (1 <<< (nI j &&& 31)) x = some (nI (xW0 to (1 <<< (nI j &&& 31)) A j), x1) := e1
        rw [if_pos (show x (sid 10 (nI j)) 3 = nI frm from by rw [es, c]), if_pos c, e1', bd_s]
      · refine ⟨x, fun K => ?_, frG.rf⟩
        rw [if_neg (show ¬ x (sid 10 (nI j)) 3 = nI frm from by rw [es, n_eq (by omega) (by omega)]; exact c), if_neg c]
        rfl
    have fX : frX x x1 := (f1.le (Nat.zero_le 1)).X
    have hxa : xa A frm to j ≤ 1000 := by
      rw [← E1_is hV (by omega) hto]
      exact mn_le _ _
    obtain ⟨x', e2, f2⟩ := ih n (j + 1) x1 (by omega) (by omega) (LnX_X hX hV fX) (LnX_G (g := 0) hX2 h7 f1 (by omega) (by omega))
    refine ⟨x', ?_, fX.tr f2⟩
    rw [b_Hb_chain_64, hX.1]
    simp only [n_le (show ln A < 2147483648 by omega) (show j < 2147483648 by omega)]
    rw [if_neg (by omega), gI_n (by omega) (by omega)]
    refine (e1 (fun v y => b_Hb_chain_114 (b_Hb_chain_64 (nI frm) (nI to) v3 n) (nI frm) (nI to) v3 (nI (fA A frm to j).1) (xF (fA A frm to j)) (nI j) v y)).trans ?_
    rw [b_Hb_chain_114]
    simp only [n_le (show (fA A frm to j).1 < 2147483648 by omega) (show xa A frm to j < 2147483648 by omega), b_Hb_chain_131, show nI j + 1 = nI (j + 1) from n_add j 1]
    rw [hstep] at e2
    by_cases c : (fA A frm to j).1 ≤ xa A frm to j
    · rw [if_pos c]
      rw [show tk (xa A frm to j) j (fA A frm to j) = fA A frm to j from if_neg (by omega)] at e2
      exact e2
    · rw [if_neg c]
      rw [show tk (xa A frm to j) j (fA A frm to j) = (xa A frm to j, j) from if_pos (by omega)] at e2
      rw [show xF (xa A frm to j, j) = nI j from if_neg (by dsimp only; omega)] at e2
      exact e2
theorem op_chain (a1 a2 a3 : Int32) : St2 IV (f_Hb_chain a1 a2 a3) (f_Mo_chain a1 a2 a3) := by
  intro x m ⟨A, hV, hX, hM, hr⟩
  show R2 _ _
  unfold f_Hb_chain f_Mo_chain
  refine R2_14 hM hr fun m hM hr => ?_
  have hI : IV x m := ⟨A, hV, hX, hM, hr⟩
  refine g_yard (fail2 hI) fun frm hfr e => pass2 ?_
  refine g_yard (fail2 hI) fun to hto e2 => pass2 ?_
  refine g_either (fail2 hI) fun _ => pass2 ?_
  refine R2_ite (fun _ => ?_) fun _ => ?_
  · exact R2_ite (fun _ => R2_eq hI 0 rfl rfl) fun _ => R2_eq hI (-4) rfl rfl
  subst e e2
  have h7 := hV.1
  obtain ⟨x1, e1, s1, f1⟩ := la_become_n (o := 12) (o1 := 10) (x := x) (by decide) (by decide) (by decide) hX h7
  have fX : frX x x1 := f1.X (by omega)
  obtain ⟨x', e2, f2⟩ := hb_chain_l (frm := frm) (to := to) (v3 := a3) hV hfr hto (ln A) fu 0 x1 (by omega) (by show ln A < 1000; omega) (LnX_X hX hV fX) s1
  have hM1 : LnM (x_up m.1 83 30 (-4), m.2) A := LnM_83 hM (by decide)
  have hM2 : LnM (x_up (x_up m.1 83 30 (-4)) 83 31 (-4), m.2) A := LnM_83 (m := (x_up m.1 83 30 (-4), m.2)) hM1 (by decide)
  have hS : SC (x_up (x_up m.1 83 30 (-4)) 83 31 (-4), m.2) (fK A frm to 0) := by
    refine ⟨?_, ?_, Nat.le_refl _⟩
    · dsimp only
      rw [x_up_nj (by decide), x_up_at]
      rfl
    · dsimp only
      rw [x_up_at]
      rfl
  obtain ⟨m', e3, a3', f3⟩ := mo_chain_l (frm := frm) (to := to) (v3 := a3) hV hfr hto (21 * ln A) fu 0 _ (by omega) (by show 21 * ln A < 1000; omega) hM2 hS
  rw [fK_A hV hto (ln A) (Nat.le_refl _)] at e3
  refine R2_in hV hr hX ?_ (fX.tr f2) ?_ a3' (((frS.up (a := 83) (j := 30) (v := -4) (Or.inl (by decide)) (fun _ => by decide)).tr (frS.up (m := (x_up m.1 83 30 (-4), m.2)) (a := 83) (j := 31) (v := -4) (Or.inl (by decide)) (fun _ => by decide))).tr (f3.S (by omega))) (r := if a3 = 0 then (if (fA A frm to (ln A)).1 = 1000 then -4 else nI (fA A frm to (ln A)).1) else (if (fA A frm to (ln A)).1 = 1000 then -4 else nI (fA A frm to (ln A)).2))
  · dsimp only
    rw [e1, bd_s]
    exact e2
  · rw [lt_e, lt_e]
    exact e3

/-! What holds between calls, and how both sides refuse alike. -/
/-- a row on both sides -/
def RwD (x : XD) (m : MD) (d : Nat) : Prop := ∃ so n, so < 3 ∧ n ≤ 100 ∧ x (67 + d) 3 = nI so ∧ m.1 92 d = nI so ∧ x (67 + d) 4 = nI n ∧ m.1 93 d = nI n ∧ ∀ i, i < 100 → m.2.1 94 (100 * d + i) = (x (75 + d) i).toInt64
/-- a kind on both sides -/
def KdD (x : XD) (m : MD) (d : Nat) : Prop := ∃ k f, k < 8 ∧ f < 10 ∧ x (67 + d) 1 = nI k ∧ m.1 90 d = nI k ∧ x (67 + d) 2 = nI f ∧ m.1 91 d = nI f
def ShD (x : XD) (m : MD) (d : Nat) : Prop := (x (67 + d) 0 = 0 ∧ m.1 89 d = 0) ∨ (x (67 + d) 0 = 1 ∧ m.1 89 d = 1 ∧ KdD x m d) ∨ (x (67 + d) 0 = 2 ∧ m.1 89 d = 2 ∧ RwD x m d)
def ImD (x : XD) (m : MD) : Prop := (x 0 6 = 0 ∧ m.1 83 26 = 0) ∨ (x 0 6 = 1 ∧ m.1 83 26 = 1 ∧ ∃ B, VA B ∧ LnX x 11 B ∧ LkM m 101 B)
/-- all but the land -/
def IVr (x : XD) (m : MD) : Prop := ImD x m ∧ ∀ d, d < 8 → ShD x m d
def IV (x : XD) (m : MD) : Prop := ∃ A, VA A ∧ LnX x 10 A ∧ LnM m A ∧ IVr x m
theorem iv_0 : IV w_0.1 w_0.2.1 := ⟨(0, 0, 0, fun _ => (0, 0, 0, 0, 0)), ⟨Nat.zero_le _, Nat.zero_le _, fun h hh => absurd hh (Nat.not_lt_zero _)⟩, ⟨rfl, rfl, rfl, fun h hh => absurd hh (Nat.not_lt_zero _)⟩, ⟨rfl, rfl, rfl, fun h hh => absurd hh (Nat.not_lt_zero _)⟩, Or.inl ⟨rfl, rfl⟩, fun _ _ => Or.inl ⟨rfl, rfl⟩⟩
/-- image and shelves of the class are as they were -/
def frR (x x' : XD) : Prop := ∀ k, k = 0 ∨ k = 11 ∨ (29 ≤ k ∧ k < 36) ∨ 64 < k → x' k = x k
/-- all of the class but what is in mind is as it was -/
def frX (x x' : XD) : Prop := ∀ k, k < 12 ∨ (15 < k ∧ k < 36) ∨ 64 < k → x' k = x k
/-- image and shelves of the reference are as they were -/
def frS (m m' : MD) : Prop := m'.2.1 94 = m.2.1 94 ∧ (∀ k, 88 < k → k < 94 → m'.1 k = m.1 k) ∧ m'.1 101 = m.1 101 ∧ m'.1 83 26 = m.1 83 26
theorem frR.rf {x : XD} : frR x x := fun _ _ => rfl
theorem frR.tr {x y z : XD} (h : frR x y) (h' : frR y z) : frR x z := fun k hk => (h' k hk).trans (h k hk)
theorem frX.rf {x : XD} : frX x x := fun _ _ => rfl
theorem frX.tr {x y z : XD} (h : frX x y) (h' : frX y z) : frX x z := fun k hk => (h' k hk).trans (h k hk)
theorem frX.R {x y : XD} (h : frX x y) : frR x y := fun k hk => h k (by omega)
theorem frO.X {x y : XD} {o : Nat} (h : frO o x y) (ho : (11 < o ∧ o < 16) ∨ (35 < o ∧ o < 65)) : frX x y := fun k hk => h k (by omega)
theorem frL.X {x y : XD} {o : Nat} (h : frL o x y) (ho : 11 < o ∧ o < 16) : frX x y := fun k hk => h k (by omega) (by omega)
theorem frL.R {x y : XD} (h : frL 10 x y) : frR x y := fun k hk => h k (by omega) (by omega)
theorem frO.R {x y : XD} {o : Nat} (h : frO o x y) (ho : (0 < o ∧ o < 11) ∨ (11 < o ∧ o < 29) ∨ (35 < o ∧ o < 65)) : frR x y := fun k hk => h k (by omega)
theorem frS.rf {m : MD} : frS m m := ⟨rfl, fun _ _ _ => rfl, rfl, rfl⟩
theorem frS.tr {m m1 m2 : MD} (h : frS m m1) (h' : frS m1 m2) : frS m m2 := ⟨h'.1.trans h.1, fun k a b => (h'.2.1 k a b).trans (h.2.1 k a b), h'.2.2.1.trans h.2.2.1, h'.2.2.2.trans h.2.2.2⟩
theorem frK.S {m m' : MD} {a : Nat} (h : frK a m m') (ha : 93 < a) (h1 : a ≠ 101) : frS m m' := ⟨by rw [h.1], fun k h1 h2 => h.2.1 k (by omega) (by omega), h.2.1 101 (by omega) (by omega), h.2.2 26 (by omega) (by omega) (by omega) (by omega) (by omega)⟩
theorem frB.S {m m' : MD} (h : frB m m') : frS m m' := ⟨by rw [h.1], fun k h1 h2 => h.2.1 k (by omega), h.2.1 101 (by omega), h.2.2 26 (by omega) (by omega) (by omega) (by omega) (by omega)⟩
theorem frS.up {m : MD} {a j : Nat} {v : Int32} (h : a < 89 ∨ (93 < a ∧ a ≠ 101)) (h1 : a = 83 → j ≠ 26) : frS m (x_up m.1 a j v, m.2) := ⟨rfl, fun k _ _ => x_up_ne (by omega), x_up_ne (by omega), x_up_el (by omega)⟩
theorem LnX_eq {x y : XD} {o : Nat} {A : Ld} (h : LnX x o A) (h7 : ln A ≤ 7) (e : ∀ k, k = o ∨ (22 + 7 * (o - 10) ≤ k ∧ k < 29 + 7 * (o - 10)) → y k = x k) : LnX y o A := by
  obtain ⟨h1, h2, h3, h4⟩ := h
  have e0 := e o (Or.inl rfl)
  exact ⟨by rw [e0]; exact h1, by rw [e0]; exact h2, by rw [e0]; exact h3, fun i hi => xst_fr (h4 i hi) (e _ (by omega))⟩
theorem LnX_X {x y : XD} {A : Ld} (h : LnX x 10 A) (hV : VA A) (f : frX x y) : LnX y 10 A := LnX_eq h hV.1 (fun k hk => f k (by omega))
theorem ShA_fr {x x' : XD} {m m' : MD} (h2 : ∀ d, d < 8 → ShD x m d) (fx : ∀ k, 64 < k → x' k = x k) (fm : frS m m' ∨ (m'.2.1 94 = m.2.1 94 ∧ ∀ k, 88 < k → k < 94 → m'.1 k = m.1 k)) : ∀ d, d < 8 → ShD x' m' d := fun d hd => by
  have f1 : m'.2.1 94 = m.2.1 94 := by
    rcases fm with f | f
    · exact f.1
    · exact f.1
  have f2 : ∀ k, 88 < k → k < 94 → m'.1 k = m.1 k := by
    rcases fm with f | f
    · exact f.2.1
    · exact f.2
  have e1 : x' (67 + d) = x (67 + d) := fx _ (by omega)
  have e2 : x' (75 + d) = x (75 + d) := fx _ (by omega)
  have g := h2 d hd
  unfold ShD KdD RwD at g ⊢
  rw [e1, e2, f1, f2 89 (by omega) (by omega), f2 90 (by omega) (by omega), f2 91 (by omega) (by omega), f2 92 (by omega) (by omega), f2 93 (by omega) (by omega)]
  exact g
theorem ImD_fr {x x' : XD} {m m' : MD} (h1 : ImD x m) (fx : ∀ k, k = 0 ∨ k = 11 ∨ (29 ≤ k ∧ k < 36) → x' k = x k) (f1 : m'.1 101 = m.1 101) (f2 : m'.1 83 26 = m.1 83 26) : ImD x' m' := by
  have e0 : x' 0 = x 0 := fx 0 (Or.inl rfl)
  rcases h1 with ⟨a, b⟩ | ⟨a, b, B, hV, hX, hM⟩
  · exact Or.inl ⟨by rw [e0]; exact a, by rw [f2]; exact b⟩
  · refine Or.inr ⟨by rw [e0]; exact a, by rw [f2]; exact b, B, hV, LnX_eq hX hV.1 (fun k hk => fx k (by omega)), ?_⟩
    unfold LkM
    rw [f1]
    exact hM
theorem IVr_fr {x x' : XD} {m m' : MD} (h : IVr x m) (fx : frR x x') (fm : frS m m') : IVr x' m' :=
  ⟨ImD_fr h.1 (fun k hk => fx k (by omega)) fm.2.2.1 fm.2.2.2, ShA_fr h.2 (fun k hk => fx k (by omega)) (Or.inl fm)⟩
theorem LnM_83 {m : MD} {A : Ld} {j : Nat} {v : Int32} (h : LnM m A) (h1 : j ≠ 0 ∧ j ≠ 6 ∧ j ≠ 7) : LnM (x_up m.1 83 j v, m.2) A := by
  obtain ⟨l1, l2, l3, l4⟩ := h
  exact ⟨(show x_up m.1 83 j v 83 0 = m.1 83 0 from x_up_nj (fun e => h1.1 e.symm)).trans l1, (show x_up m.1 83 j v 83 6 = m.1 83 6 from x_up_nj (fun e => h1.2.1 e.symm)).trans l2, (show x_up m.1 83 j v 83 7 = m.1 83 7 from x_up_nj (fun e => h1.2.2 e.symm)).trans l3, l4⟩
theorem LnM_fr {m m' : MD} {A : Ld} (h : LnM m A) (e : ∀ k, 83 < k → k < 89 → m'.1 k = m.1 k) (e0 : ∀ j, j = 0 ∨ j = 6 ∨ j = 7 → m'.1 83 j = m.1 83 j) : LnM m' A := by
  obtain ⟨l1, l2, l3, l4⟩ := h
  refine ⟨(e0 _ (by omega)).trans l1, (e0 _ (by omega)).trans l2, (e0 _ (by omega)).trans l3, fun i hi => ?_⟩
  unfold mst
  rw [e 84 (by omega) (by omega), e 85 (by omega) (by omega), e 86 (by omega) (by omega), e 87 (by omega) (by omega), e 88 (by omega) (by omega)]
  exact l4 i hi
/-- both sides come to one answer -/
def R2 {α : Type} (X : Option (α × XD)) (M : Option (α × MD)) : Prop := ∃ r x' m', X = some (r, x') ∧ M = some (r, m') ∧ IV x' m'
theorem R2_14 {α : Type} {A : Ld} {x : XD} {m : MD} {X : Option (α × XD)} {k : MD → Option (α × MD)} (hM : LnM m A) (hr : IVr x m) (H : ∀ m1, LnM m1 A → IVr x m1 → R2 X (k m1)) : R2 X (lt (x_up m.1 83 14 0, m.2) k) :=
  H _ (LnM_83 hM (by decide)) (IVr_fr hr frR.rf (frS.up (Or.inl (by decide)) (fun _ => by decide)))
theorem R2_fin {α : Type} {A : Ld} {x x' : XD} {m m' : MD} {r : α} (hV : VA A) (hr : IVr x m) (hX : LnX x' 10 A) (hM : LnM m' A) (fx : frR x x') (fm : frS m m') : R2 (some (r, x')) (some (r, m')) := ⟨r, x', m', rfl, rfl, A, hV, hX, hM, IVr_fr hr fx fm⟩
/-- nothing of the class but what is in mind has changed -/
theorem R2_in {α : Type} {A : Ld} {x x' : XD} {m m' : MD} {r : α} {X : Option (α × XD)} {M : Option (α × MD)} (hV : VA A) (hr : IVr x m) (hX : LnX x 10 A) (eX : X = some (r, x')) (fx : frX x x') (eM : M = some (r, m')) (hM : LnM m' A) (fm : frS m m') : R2 X M := ⟨r, x', m', eX, eM, A, hV, LnX_X hX hV fx, hM, IVr_fr hr fx.R fm⟩
theorem one_ne0 : ¬ (1 : Int32) = 0 := by decide
theorem fail2 {α : Type} {x : XD} {m : MD} {r : α} {b : Option (α × XD)} {b' : Option (α × MD)} (h : IV x m) : R2 (if (0 : Int32) = 0 then some (r, x) else b) (if (0 : Int32) = 0 then some (r, m) else b') := ⟨r, x, m, if_pos rfl, if_pos rfl, h⟩
theorem pass2 {α : Type} {a b : Option (α × XD)} {a' b' : Option (α × MD)} (H : R2 b b') : R2 (if (1 : Int32) = 0 then a else b) (if (1 : Int32) = 0 then a' else b') := by
  rw [if_neg one_ne0, if_neg one_ne0]
  exact H
theorem rng_natg {v : Int32} {a b : Nat} (ha : a < 1000000) (hb : b < 1000000) (h : rng (nI a) (nI b) v = 1) : ∃ n, a ≤ n ∧ n ≤ b ∧ v = nI n := by
  unfold rng at h
  split at h
  · exact absurd h (by decide)
  · split at h
    · exact absurd h (by decide)
    · rename_i h1 h2
      have h3 : (a : Int) ≤ v.toInt := Int.not_lt.mp (fun e => h1 (Int32.lt_iff_toInt_lt.mpr (by rw [n_int (by omega)]; exact e)))
      have h4 : v.toInt ≤ b := Int.not_lt.mp (fun e => h2 (Int32.lt_iff_toInt_lt.mpr (by rw [n_int (by omega)]; exact e)))
      refine ⟨v.toInt.toNat, by omega, by omega, Int32.toInt_inj.mp ?_⟩
      rw [n_int (by omega)]
      omega
theorem rng_horse {v : Int32} {n : Nat} (hn : n ≤ 7) (h : rng 0 (nI n - 1) v = 1) : ∃ i, i < n ∧ v = nI i := by
  cases n with
  | zero =>
    exfalso
    unfold rng at h
    split at h
    · exact absurd h (by decide)
    · split at h
      · exact absurd h (by decide)
      · rename_i h1 h2
        apply h2
        rw [show nI 0 - 1 = (-1 : Int32) from by decide]
        rw [Int32.lt_iff_toInt_lt] at h1 ⊢
        rw [show (0 : Int32).toInt = 0 from rfl] at h1
        rw [show (-1 : Int32).toInt = -1 from by decide]
        omega
  | succ k =>
    rw [show nI (k + 1) - 1 = nI k from by rw [show (1 : Int32) = nI 1 from rfl, n_sub (by omega)]; rfl] at h
    obtain ⟨i, h1, h2⟩ := rng_nat (by omega) h
    exact ⟨i, by omega, h2⟩
theorem R2_eq {α : Type} {x : XD} {m : MD} {X : Option (α × XD)} {M : Option (α × MD)} (h : IV x m) (r : α) (eX : X = some (r, x)) (eM : M = some (r, m)) : R2 X M := ⟨r, x, m, eX, eM, h⟩
theorem R2_ite {α : Type} {c : Prop} {inst : Decidable c} {inst2 : Decidable c} {a b : Option (α × XD)} {a' b' : Option (α × MD)} (H1 : c → R2 a a') (H2 : ¬ c → R2 b b') : R2 (@ite _ c inst a b) (@ite _ c inst2 a' b') := by
  by_cases h : c
  · rw [if_pos h, if_pos h]; exact H1 h
  · rw [if_neg h, if_neg h]; exact H2 h
section GD
variable {α : Type} {A : Ld} {x : XD} {m : MD} {v : Int32} {KX : Int32 × XD → Option (α × XD)} {KM : Int32 × MD → Option (α × MD)}
theorem g_horse (hV : VA A) (hX : LnX x 10 A) (hM : LnM m A) (H0 : R2 (KX (0, x)) (KM (0, m))) (H1 : ∀ h, h < ln A → v = nI h → R2 (KX (1, x)) (KM (1, m))) : R2 ((f_Hb_isHorse v x).bind KX) ((f_Mo_isHorse v m).bind KM) := by
  rw [hb_isHorse, mo_isHorse_r, bd_s, bd_s, hX.1, hM.1]
  rcases rng_01 (a := 0) (b := nI (ln A) - 1) (v := v) with e | e
  · rw [e]; exact H0
  · obtain ⟨h, h1, h2⟩ := rng_horse hV.1 e
    rw [e]; exact H1 h h1 h2
theorem g_yard (H0 : R2 (KX (0, x)) (KM (0, m))) (H1 : ∀ y, y ≤ 20 → v = nI y → R2 (KX (1, x)) (KM (1, m))) : R2 ((f_Hb_isYard v x).bind KX) ((f_Mo_isYard v m).bind KM) := by
  rw [hb_isYard, mo_isYard_r, bd_s, bd_s]
  rcases rng_01 (a := 0) (b := 20) (v := v) with e | e
  · rw [e]; exact H0
  · obtain ⟨h, h1, h2⟩ := rng_nat (b := 20) (by omega) e
    rw [e]; exact H1 h h1 h2
theorem g_in {c c' : Int32} {d d' : Int64} (a b : Nat) (ea : c = nI a) (eb : c' = nI b) (fa : d = c.toInt64) (fb : d' = c'.toInt64) (hb : a < 1000000 ∧ b < 1000000) (H0 : R2 (KX (0, x)) (KM (0, m))) (H1 : ∀ n, a ≤ n → n ≤ b → v = nI n → R2 (KX (1, x)) (KM (1, m))) : R2 ((f_Hb_isWithin v c c' x).bind KX) ((f_Mo_in v.toInt64 d d' m).bind KM) := by
  rw [fa, fb, hb_within, mo_in_r, bd_s, bd_s]
  rcases rng_01 (a := c) (b := c') (v := v) with e | e
  · rw [e]; exact H0
  · obtain ⟨n, h1, h2, h3⟩ := rng_natg (a := a) (b := b) (by omega) (by omega) (by rw [← ea, ← eb]; exact e)
    rw [e]; exact H1 n h1 h2 h3
theorem hb_isEither {x : XD} : f_Hb_isEither v x = some (rng 0 1 v, x) := by
  unfold f_Hb_isEither b_Hb_isEither_9
  by_cases c : v = 0
  · rw [if_pos c, c]; rfl
  · rw [if_neg c]
    by_cases c1 : v = 1
    · rw [if_pos c1, c1]; rfl
    · rw [if_neg c1]
      rcases rng_01 (a := 0) (b := 1) (v := v) with e | e
      · rw [e]
      · exfalso
        obtain ⟨n, h1, h2⟩ := rng_nat (b := 1) (by omega) e
        rcases Nat.le_one_iff_eq_zero_or_eq_one.mp h1 with h3 | h3
        · exact c (by rw [h2, h3]; rfl)
        · exact c1 (by rw [h2, h3]; rfl)
theorem g_either (H0 : R2 (KX (0, x)) (KM (0, m))) (H1 : v = 0 ∨ v = 1 → R2 (KX (1, x)) (KM (1, m))) : R2 ((f_Hb_isEither v x).bind KX) ((f_Mo_in v.toInt64 0 1 m).bind KM) := by
  rw [hb_isEither, show (0 : Int64) = (0 : Int32).toInt64 from by decide, show (1 : Int64) = (1 : Int32).toInt64 from by decide, mo_in_r, bd_s, bd_s]
  rcases rng_01 (a := 0) (b := 1) (v := v) with e | e
  · rw [e]; exact H0
  · obtain ⟨n, h1, h2⟩ := rng_nat (b := 1) (by omega) e
    rw [e]
    refine H1 ?_
    rcases Nat.le_one_iff_eq_zero_or_eq_one.mp h1 with h3 | h3
    · exact Or.inl (by rw [h2, h3]; rfl)
    · exact Or.inr (by rw [h2, h3]; rfl)
theorem hid_n {d : Nat} (h : d < 8) : hid (nI d) = 67 + d := by
  unfold hid
  rw [n_nat (by omega)]
theorem hb_isShelf {x : XD} : f_Hb_isShelf v x = some (rng 0 7 v, x) := by
  unfold f_Hb_isShelf
  rw [hb_within, bd_s]
  exact gB_rng
theorem g_shelf (H0 : R2 (KX (0, x)) (KM (0, m))) (H1 : ∀ d, d < 8 → v = nI d → R2 (KX (1, x)) (KM (1, m))) : R2 ((f_Hb_isShelf v x).bind KX) ((f_Mo_in v.toInt64 0 7 m).bind KM) := by
  rw [hb_isShelf, show (0 : Int64) = (0 : Int32).toInt64 from by decide, show (7 : Int64) = (7 : Int32).toInt64 from by decide, mo_in_r, bd_s, bd_s]
  rcases rng_01 (a := 0) (b := 7) (v := v) with e | e
  · rw [e]; exact H0
  · obtain ⟨n, h1, h2⟩ := rng_nat (b := 7) (by omega) e
    rw [e]
    exact H1 n (by omega) h2
/-- what a shelf refuses, on both sides: w is what is wanted (1 or 2) -/
def refC (w : Int32) (h : Int32) : Int32 := if h = 0 then -11 else if h = w then 0 else -12
theorem hb_refusal {x : XD} {w : Int32} : f_Hb_refusalOf v w x = if rng 0 7 v = 0 then some (-1, x) else some (refC w (x (hid v) 0), x) := by
  unfold f_Hb_refusalOf refC
  rw [hb_isShelf, bd_s]
  rcases rng_01 (a := 0) (b := 7) (v := v) with e | e
  · rw [e, if_pos rfl, if_pos rfl]
  · obtain ⟨n, h1, h2⟩ := rng_nat (b := 7) (by omega) e
    rw [e, if_neg one_ne0, if_neg one_ne0, h2, gI_n (by omega) (by omega)]
    split
    · rfl
    · rw [gI_n (by omega) (by omega)]
      split <;> rfl
theorem mo_wrongRow {m : MD} : f_Mo_wrongRow v m = if rng 0 7 v = 0 then some (-1, m) else some (refC 2 (m.1 89 v.toNatClampNeg), m) := by
  unfold f_Mo_wrongRow refC
  rw [show (0 : Int64) = (0 : Int32).toInt64 from by decide, show (7 : Int64) = (7 : Int32).toInt64 from by decide, mo_in_r, bd_s]
  rcases rng_01 (a := 0) (b := 7) (v := v) with e | e
  · rw [e, if_pos rfl, if_pos rfl]
  · obtain ⟨n, h1, h2⟩ := rng_nat (b := 7) (by omega) e
    rw [e, if_neg one_ne0, if_neg one_ne0, h2, gI_n (by omega) (by omega)]
    split
    · rfl
    · rw [gI_n (by omega) (by omega)]
      split <;> rfl
theorem mo_wrongKept {m : MD} : f_Mo_wrongKept v m = if rng 0 7 v = 0 then some (-1, m) else some (refC 1 (m.1 89 v.toNatClampNeg), m) := by
  unfold f_Mo_wrongKept refC
  rw [show (0 : Int64) = (0 : Int32).toInt64 from by decide, show (7 : Int64) = (7 : Int32).toInt64 from by decide, mo_in_r, bd_s]
  rcases rng_01 (a := 0) (b := 7) (v := v) with e | e
  · rw [e, if_pos rfl, if_pos rfl]
  · obtain ⟨n, h1, h2⟩ := rng_nat (b := 7) (by omega) e
    rw [e, if_neg one_ne0, if_neg one_ne0, h2, gI_n (by omega) (by omega)]
    split
    · rfl
    · rw [gI_n (by omega) (by omega)]
      split <;> rfl
/-- what a refusal may be -/
def rfc (c : Int32) : Prop := c = -1 ∨ c = -11 ∨ c = -12
/-- a shelf that should hold a row -/
theorem sh_row (hr : IVr x m) : (∃ c, rfc c ∧ f_Hb_refusalOfRow v x = some (c, x) ∧ f_Mo_wrongRow v m = some (c, m)) ∨ (∃ d, d < 8 ∧ v = nI d ∧ x (67 + d) 0 = 2 ∧ m.1 89 d = 2 ∧ RwD x m d ∧ f_Hb_refusalOfRow v x = some (0, x) ∧ f_Mo_wrongRow v m = some (0, m)) := by
  unfold f_Hb_refusalOfRow
  rw [hb_refusal, mo_wrongRow]
  rcases rng_01 (a := 0) (b := 7) (v := v) with e | e
  · rw [e, if_pos rfl, if_pos rfl]
    exact Or.inl ⟨-1, Or.inl rfl, rfl, rfl⟩
  · obtain ⟨d, h1, h2⟩ := rng_nat (b := 7) (by omega) e
    rw [e, if_neg one_ne0, if_neg one_ne0, h2, n_nat (by omega), hid_n (by omega)]
    rcases hr.2 d (by omega) with ⟨a, b⟩ | ⟨a, b, c⟩ | ⟨a, b, c⟩
    · rw [a, b]; exact Or.inl ⟨-11, Or.inr (Or.inl rfl), rfl, rfl⟩
    · rw [a, b]; exact Or.inl ⟨-12, Or.inr (Or.inr rfl), rfl, rfl⟩
    · exact Or.inr ⟨d, by omega, rfl, a, b, c, by rw [a]; rfl, by rw [b]; rfl⟩
/-- a shelf that should hold a kind -/
theorem sh_kind (hr : IVr x m) : (∃ c, rfc c ∧ f_Hb_refusalOfKind v x = some (c, x) ∧ f_Mo_wrongKept v m = some (c, m)) ∨ (∃ d, d < 8 ∧ v = nI d ∧ x (67 + d) 0 = 1 ∧ m.1 89 d = 1 ∧ KdD x m d ∧ f_Hb_refusalOfKind v x = some (0, x) ∧ f_Mo_wrongKept v m = some (0, m)) := by
  unfold f_Hb_refusalOfKind
  rw [hb_refusal, mo_wrongKept]
  rcases rng_01 (a := 0) (b := 7) (v := v) with e | e
  · rw [e, if_pos rfl, if_pos rfl]
    exact Or.inl ⟨-1, Or.inl rfl, rfl, rfl⟩
  · obtain ⟨d, h1, h2⟩ := rng_nat (b := 7) (by omega) e
    rw [e, if_neg one_ne0, if_neg one_ne0, h2, n_nat (by omega), hid_n (by omega)]
    rcases hr.2 d (by omega) with ⟨a, b⟩ | ⟨a, b, c⟩ | ⟨a, b, c⟩
    · rw [a, b]; exact Or.inl ⟨-11, Or.inr (Or.inl rfl), rfl, rfl⟩
    · exact Or.inr ⟨d, by omega, rfl, a, b, c, by rw [a]; rfl, by rw [b]; rfl⟩
    · rw [a, b]; exact Or.inl ⟨-12, Or.inr (Or.inr rfl), rfl, rfl⟩
end GD

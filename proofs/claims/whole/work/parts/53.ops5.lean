/-! Fastest, fees, two: both sides. -/
def amax (f : Nat → Nat) : Nat → Nat × Nat
  | 0 => (0, 0)
  | k + 1 => if f k ≤ (amax f k).2 then amax f k else (k, f k)
theorem amax_keep {f : Nat → Nat} {j : Nat} (c : f j ≤ (amax f j).2) : amax f (j + 1) = amax f j := if_pos c
theorem amax_take {f : Nat → Nat} {j : Nat} (c : ¬ f j ≤ (amax f j).2) : amax f (j + 1) = (j, f j) := if_neg c
theorem amax_p (f : Nat → Nat) (b : Nat) : ∀ k, (∀ i, i < k → 1 ≤ f i ∧ f i ≤ b) → (amax f k).2 ≤ b ∧ (0 < k → (amax f k).1 < k ∧ f (amax f k).1 = (amax f k).2)
  | 0, _ => ⟨Nat.zero_le _, fun h => absurd h (Nat.lt_irrefl 0)⟩
  | k + 1, hf => by
    have h := amax_p f b k (fun i hi => hf i (by omega))
    have h1 := hf k (by omega)
    unfold amax
    by_cases c : f k ≤ (amax f k).2
    · rw [if_pos c]
      have hk : 0 < k := by
        rcases Nat.eq_zero_or_pos k with e | e
        · exfalso
          subst e
          have : f 0 ≤ 0 := c
          omega
        · exact e
      exact ⟨h.1, fun _ => ⟨by have := (h.2 hk).1; omega, (h.2 hk).2⟩⟩
    · rw [if_neg c]
      exact ⟨h1.2, fun _ => ⟨Nat.lt_succ_self k, rfl⟩⟩
def xbs (f : Nat → Nat) (j : Nat) : Int32 := if j = 0 then -4 else nI (amax f j).1
theorem xbs_s {f : Nat → Nat} {j : Nat} : xbs f (j + 1) = nI (amax f (j + 1)).1 := if_neg (by omega)
theorem xbs_p {f : Nat → Nat} {j : Nat} (h : 0 < j) : xbs f j = nI (amax f j).1 := if_neg (by omega)
theorem xbs_keep {f : Nat → Nat} {j : Nat} (h : 1 ≤ f j) (c : f j ≤ (amax f j).2) : xbs f (j + 1) = xbs f j := by
  rw [xbs_s, amax_keep c]
  rcases Nat.eq_zero_or_pos j with e | e
  · exfalso
    subst e
    have : f 0 ≤ 0 := c
    omega
  · exact (xbs_p e).symm
def fasN (c : Nat) (A : Ld) (j : Nat) : Nat := paceN (stayN (lo A) c (ls A j))
theorem fas_b {c j : Nat} {A : Ld} (hV : VA A) (hj : j < ln A) : 1 ≤ fasN c A j ∧ fasN c A j ≤ 60 := ⟨pace_pos, pace_le (stay_V c (hV.2.2 j hj))⟩
theorem hb_fast_l {A : Ld} {c : Nat} (hV : VA A) (hc : c ≤ 60) : ∀ (k n j : Nat) (x : XD), j + k = ln A → k < n → LnX x 10 A → ∃ x', b_Hb_fastest_20 (nI c) n (xbs (fasN c A) j) (nI (amax (fasN c A) j).2) (nI j) x = some (xbs (fasN c A) (ln A), x') ∧ frX x x' := by
  have h7 := hV.1
  intro k
  induction k with
  | zero =>
    intro n j x hj hn hX
    obtain ⟨n, rfl⟩ : ∃ m, n = m + 1 := ⟨n - 1, by omega⟩
    refine ⟨x, ?_, frX.rf⟩
    rw [b_Hb_fastest_20, hX.1, if_pos (nI_le (by omega) (by omega)), show j = ln A by omega]
  | succ k ih =>
    intro n j x hj hn hX
    obtain ⟨n, rfl⟩ : ∃ m, n = m + 1 := ⟨n - 1, by omega⟩
    have hVj := hV.2.2 j (by omega)
    obtain ⟨x1, e1, s1, f1⟩ := st_become_n (o := 64) (o1 := 22 + j) (x := x) (by omega) (LnX_s (h := j) hX (by omega))
    have o1 : x1 10 3 = nI (lo A) := by rw [f1 10 (by decide)]; exact hX.2.1
    obtain ⟨x2, e2, s2, f2⟩ := st_stay_n (m := c) s1 hVj hV.2.1 (by omega)
    have e3 : f_St_pace 64 x2 = some (nI (fasN c A j), x2) := st_pace_n s2 (stay_V c hVj)
    have fX : frX x x2 := (f1.tr f2).X (by omega)
    obtain ⟨x', e4, f4⟩ := ih n (j + 1) x2 (by omega) (by omega) (LnX_X hX hV fX)
    refine ⟨x', ?_, fX.tr f4⟩
    have hb := fas_b (c := c) hV (show j < ln A by omega)
    have hm := (amax_p (fasN c A) 60 j (fun i hi => fas_b hV (by omega))).1
    rw [b_Hb_fastest_20, hX.1]
    simp only [n_le (show ln A < 2147483648 by omega) (show j < 2147483648 by omega)]
    rw [if_neg (by omega), gI_n (show j < 7 by omega) (by omega), sid10 (by omega), e1, bd_s]
    dsimp only
    rw [o1, e2, bd_s]
    dsimp only
    rw [e3, bd_s]
    dsimp only
    rw [e3, bd_s]
    simp only [b_Hb_fastest_86, show nI j + 1 = nI (j + 1) from n_add j 1, n_le (show fasN c A j < 2147483648 by omega) (show (amax (fasN c A) j).2 < 2147483648 by omega)]
    by_cases q : fasN c A j ≤ (amax (fasN c A) j).2
    · rw [if_pos q, ← xbs_keep hb.1 q, ← amax_keep q]
      exact e4
    · rw [xbs_s, amax_take q] at e4
      rw [if_neg q]
      exact e4
theorem mo_fast_l {A A' : Ld} {f : Nat → Nat} (hV : VA A) (hV' : VA A') (hn' : ln A' = ln A) (hf : ∀ j, j < ln A → paceN (ls A' j) = f j) : ∀ (k n j : Nat) (m : MD), j + k = ln A → k < n → LnM m A' → LkM m 98 A → ∃ m', b_Mo_fastest_33 n (xbs f j) (nI j) m = some (xbs f (ln A), m') ∧ LnM m' A ∧ frB m m' := by
  have h7 := hV.1
  intro k
  induction k with
  | zero =>
    intro n j m hj hn hM hK
    obtain ⟨n, rfl⟩ : ∃ m, n = m + 1 := ⟨n - 1, by omega⟩
    obtain ⟨m2, g3, b2, hK2, k2⟩ := mo_close_n hK hV.1
    refine ⟨m2, ?_, b2, k2⟩
    rw [b_Mo_fastest_33, hM.1, if_pos (nI_le (by omega) (by omega)), show j = ln A by omega, g3, bd_s]
  | succ k ih =>
    intro n j m hj hn hM hK
    obtain ⟨n, rfl⟩ : ∃ m, n = m + 1 := ⟨n - 1, by omega⟩
    obtain ⟨m', e4, a4, f4⟩ := ih n (j + 1) m (by omega) (by omega) hM hK
    refine ⟨m', ?_, a4, f4⟩
    have hb : ∀ i, i < ln A → 1 ≤ f i ∧ f i ≤ 60 := fun i hi => by
      rw [← hf i hi]
      exact ⟨pace_pos, pace_le (hV'.2.2 i (by omega))⟩
    have hbj := hb j (by omega)
    rw [b_Mo_fastest_33, hM.1, hn']
    simp only [n_le (show ln A < 2147483648 by omega) (show j < 2147483648 by omega)]
    rw [if_neg (by omega)]
    rcases Nat.eq_zero_or_pos j with z | z
    · subst z
      rw [xbs_s, amax_take (by show ¬ f 0 ≤ 0; omega)] at e4
      rw [if_pos (show xbs f 0 < 0 from (show (-4 : Int32) < 0 from by decide))]
      simp only [b_Mo_fastest_58, b_Mo_fastest_63, show nI 0 + 1 = nI (0 + 1) from n_add 0 1]
      exact e4
    · have hm := amax_p f 60 j (fun i hi => hb i (by omega))
      have hm2 := hm.2 z
      have hb2 := hm.1
      have s1 := mo_pace_n (hM.2.2.2 j (by omega)) (hV'.2.2 j (by omega)) (by omega)
      have s2 := mo_pace_n (h := (amax f j).1) (hM.2.2.2 _ (by omega)) (hV'.2.2 _ (by omega)) (by omega)
      rw [hf j (by omega)] at s1
      rw [hf _ (by omega), hm2.2] at s2
      rw [xbs_p z, if_neg (nneg (by omega)), s1, bd_s]
      dsimp only
      rw [s2, bd_s]
      simp only [b_Mo_fastest_58, b_Mo_fastest_63, show nI j + 1 = nI (j + 1) from n_add j 1, n_le (show f j < 2147483648 by omega) (show (amax f j).2 < 2147483648 by omega)]
      by_cases q : f j ≤ (amax f j).2
      · rw [if_pos q]
        rw [xbs_s, amax_keep q] at e4
        exact e4
      · rw [if_neg q]
        rw [xbs_s, amax_take q] at e4
        exact e4
theorem op_fastest (a1 : Int32) : St2 IV (f_Hb_fastest a1) (f_Mo_fastest a1) := by
  intro x m ⟨A, hV, hX, hM, hr⟩
  show R2 _ _
  unfold f_Hb_fastest f_Mo_fastest
  refine R2_14 hM hr fun m hM hr => ?_
  have hI : IV x m := ⟨A, hV, hX, hM, hr⟩
  refine g_in 0 60 rfl rfl (by decide) (by decide) (by omega) (fail2 hI) fun c _ hc e => pass2 ?_
  subst e
  have h7 := hV.1
  obtain ⟨x', e1, f1⟩ := hb_fast_l (c := c) hV hc (ln A) fu 0 x (by omega) (by show ln A < 1000; omega) hX
  obtain ⟨m1, e2, a2, k2, f2⟩ := mo_open_n hM h7
  obtain ⟨m2, e3, a3, f3⟩ := mo_goDays_n (c := c) (by omega) a2 hV
  obtain ⟨m3, e4, a4, f4⟩ := mo_fast_l (A' := passA c A) (f := fasN c A) hV (pass_V hV) rfl (fun j hj => rfl) (ln A) fu 0 m2 (by omega) (by show ln A < 1000; omega) a3 (LkM_B (by omega) k2 f3.B)
  refine R2_in (r := xbs (fasN c A) (ln A)) hV hr hX e1 f1 ?_ a4 (((f2.tr f3.B.K).tr f4.K).S (by omega) (by omega))
  dsimp only
  rw [e2, bd_s]
  dsimp only
  rw [e3, bd_s]
  exact e4
theorem price_le {k f : Nat} (hf : f < 10) : priceN k f ≤ 13 := by
  unfold priceN
  repeat' split
  all_goals omega
def feeN (y : Nat) (A : Ld) (h : Nat) : Nat := priceN (hk (ls A h)) (hf (ls A h)) * ownN y A h
theorem fee_lt {y h : Nat} {A : Ld} (hV : VA A) (hl : h < ln A) (hy : y ≤ 20) : feeN y A h < 1000 := by
  have h1 := price_le (k := hk (ls A h)) (hV.2.2 h hl).2.1
  have h2 := own_lt hV hl hy
  have h3 := Nat.mul_le_mul h1 h2
  show _ * _ < 1000
  omega
theorem hb_fee {x : XD} {A : Ld} {h y : Nat} (hX : LnX x 10 A) (hV : VA A) (hl : h < ln A) (hy : y ≤ 20) : ∃ x', f_Hb_feesOf (22 + h) (nI y) x = some (nI (feeN y A h), x') ∧ frX x x' := by
  obtain ⟨x', e, f⟩ := hb_dor hX hV hl hy
  have s := LnX_s hX hl
  refine ⟨x', ?_, f⟩
  unfold f_Hb_feesOf
  rw [s.1, s.2.1, v_price_n (hV.2.2 h hl).1 (hV.2.2 h hl).2.1, bd_s]
  dsimp only
  rw [e, bd_s, n_mul]
  rfl
theorem mo_fee {m : MD} {A : Ld} {h y : Nat} (hM : LnM m A) (hV : VA A) (hl : h < ln A) (hy : y ≤ 20) : ∃ m', f_Mo_feesOf (nI h) (nI y) m = some (nI (feeN y A h), m') ∧ LnM m' A ∧ frK 98 m m' := by
  have h7 : h < 7 := Nat.lt_of_lt_of_le hl hV.1
  obtain ⟨m', e, a, f⟩ := mo_own hM hV hl hy
  have s := hM.2.2.2 h hl
  refine ⟨m', ?_, a, f⟩
  unfold f_Mo_feesOf
  rw [gI_n h7 (by omega), gI_n h7 (by omega), n_nat (by omega), s.1, s.2.1, mo_costOf_n (hV.2.2 h hl).1, bd_s]
  dsimp only
  rw [e, bd_s, n_mul]
  rfl
theorem hb_fees_l {A : Ld} {y : Nat} (hV : VA A) (hy : y ≤ 20) : ∀ (k n j : Nat) (x : XD), j + k = ln A → k < n → LnX x 10 A → ∃ x', b_Hb_fees_50 (nI y) n (mbs (-4) (feeN y A) j) (mls 0 (feeN y A) j) (nI j) x = some (mbs (-4) (feeN y A) (ln A), x') ∧ frX x x' := by
  have h7 := hV.1
  intro k
  induction k with
  | zero =>
    intro n j x hj hn hX
    obtain ⟨n, rfl⟩ : ∃ m, n = m + 1 := ⟨n - 1, by omega⟩
    refine ⟨x, ?_, frX.rf⟩
    rw [b_Hb_fees_50, hX.1, if_pos (nI_le (by omega) (by omega)), show j = ln A by omega]
  | succ k ih =>
    intro n j x hj hn hX
    obtain ⟨n, rfl⟩ : ∃ m, n = m + 1 := ⟨n - 1, by omega⟩
    obtain ⟨x1, e1, f1⟩ := hb_fee (h := j) hX hV (by omega) hy
    obtain ⟨x', e2, f2⟩ := ih n (j + 1) x1 (by omega) (by omega) (LnX_X hX hV f1)
    refine ⟨x', ?_, f1.tr f2⟩
    have hlt := fee_lt (h := j) hV (by omega) hy
    have hb := amin_le (feeN y A) j
    rw [b_Hb_fees_50, hX.1]
    simp only [n_le (show ln A < 2147483648 by omega) (show j < 2147483648 by omega)]
    rw [if_neg (by omega), gI_n (show j < 7 by omega) (by omega), sid10 (by omega), e1, bd_s]
    simp only [b_Hb_fees_92, b_Hb_fees_99, show nI j + 1 = nI (j + 1) from n_add j 1]
    rw [mbs_s, mls_s] at e2
    rcases Nat.eq_zero_or_pos j with z | z
    · subst z
      rw [if_pos (show mbs (-4) (feeN y A) 0 = -4 from rfl)]
      rw [amin_take (amin_0 hlt)] at e2
      exact e2
    · have hne : ¬ mbs (-4) (feeN y A) j = -4 := by
        rw [mbs_p z]
        intro e
        have h2 := pos_le (a := (amin (feeN y A) j).1) (by omega)
        rw [e] at h2
        exact absurd h2 (by decide)
      rw [if_neg hne, mls_p z, mbs_p z]
      simp only [n_le (show (amin (feeN y A) j).2 < 2147483648 by omega) (show feeN y A j < 2147483648 by omega)]
      by_cases q : (amin (feeN y A) j).2 ≤ feeN y A j
      · rw [if_pos q]
        rw [amin_keep q] at e2
        exact e2
      · rw [if_neg q]
        rw [amin_take q] at e2
        exact e2
theorem mo_fees_l {A : Ld} {y : Nat} (hV : VA A) (hy : y ≤ 20) : ∀ (k n j : Nat) (m : MD), j + k = ln A → k < n → LnM m A → ∃ m', b_Mo_fees_49 (nI y) n (mbs (-4) (feeN y A) j) (nI j) m = some (mbs (-4) (feeN y A) (ln A), m') ∧ LnM m' A ∧ frK 98 m m' := by
  have h7 := hV.1
  intro k
  induction k with
  | zero =>
    intro n j m hj hn hM
    obtain ⟨n, rfl⟩ : ∃ m, n = m + 1 := ⟨n - 1, by omega⟩
    refine ⟨m, ?_, hM, frK.rf⟩
    rw [b_Mo_fees_49, hM.1, if_pos (nI_le (by omega) (by omega)), show j = ln A by omega]
  | succ k ih =>
    intro n j m hj hn hM
    obtain ⟨n, rfl⟩ : ∃ m, n = m + 1 := ⟨n - 1, by omega⟩
    have hlt := fee_lt (h := j) hV (by omega) hy
    rcases Nat.eq_zero_or_pos j with z | z
    · subst z
      obtain ⟨m', e2, a2, f2⟩ := ih n (0 + 1) m (by omega) (by omega) hM
      refine ⟨m', ?_, a2, f2⟩
      rw [b_Mo_fees_49, hM.1]
      simp only [n_le (show ln A < 2147483648 by omega) (show 0 < 2147483648 by omega)]
      rw [if_neg (by omega), if_pos (show mbs (-4) (feeN y A) 0 < 0 from (show (-4 : Int32) < 0 from by decide))]
      simp only [b_Mo_fees_78, b_Mo_fees_84, show nI 0 + 1 = nI (0 + 1) from n_add 0 1]
      rw [mbs_s, amin_take (amin_0 hlt)] at e2
      exact e2
    · have hb := amin_le (feeN y A) j
      have hq := amin_f (feeN y A) j (fun i hi => fee_lt hV (by omega) hy) z
      have hi : (amin (feeN y A) j).1 < ln A := by omega
      obtain ⟨m1, g1, b1, k1⟩ := mo_fee (h := j) hM hV (by omega) hy
      obtain ⟨m2, g2, b2, k2⟩ := mo_fee b1 hV hi hy
      rw [hq] at g2
      obtain ⟨m', e2, a2, f2⟩ := ih n (j + 1) m2 (by omega) (by omega) b2
      refine ⟨m', ?_, a2, (k1.tr k2).tr f2⟩
      rw [b_Mo_fees_49, hM.1]
      simp only [n_le (show ln A < 2147483648 by omega) (show j < 2147483648 by omega)]
      rw [if_neg (by omega), mbs_p z, if_neg (nneg (by omega)), g1, bd_s]
      dsimp only
      rw [g2, bd_s]
      simp only [b_Mo_fees_78, b_Mo_fees_84, show nI j + 1 = nI (j + 1) from n_add j 1, n_le (show (amin (feeN y A) j).2 < 2147483648 by omega) (show feeN y A j < 2147483648 by omega)]
      rw [mbs_s] at e2
      by_cases q : (amin (feeN y A) j).2 ≤ feeN y A j
      · rw [if_pos q]
        rw [amin_keep q] at e2
        exact e2
      · rw [if_neg q]
        rw [amin_take q] at e2
        exact e2
theorem rng_m1 {v b : Int32} (h : ¬ v = -1) : rng (-1) b v = rng 0 b v := by
  unfold rng
  have e : (v < -1) = (v < 0) := by
    apply propext
    rw [Int32.lt_iff_toInt_lt, Int32.lt_iff_toInt_lt, show (-1 : Int32).toInt = -1 from by decide, show (0 : Int32).toInt = 0 from rfl]
    have h1 : v.toInt ≠ -1 := fun e => h (Int32.toInt_inj.mp (by rw [e]; decide))
    omega
  simp only [e]
theorem op_fees (a1 a2 : Int32) : St2 IV (f_Hb_fees a1 a2) (f_Mo_fees a1 a2) := by
  intro x m ⟨A, hV, hX, hM, hr⟩
  show R2 _ _
  unfold f_Hb_fees f_Mo_fees
  refine R2_14 hM hr fun m hM hr => ?_
  have hI : IV x m := ⟨A, hV, hX, hM, hr⟩
  have h7 := hV.1
  rw [hb_isYard, bd_s, show (-1 : Int64) = (-1 : Int32).toInt64 from by decide, mo_in_r, bd_s, mo_isYard_r, bd_s, hM.1]
  by_cases c : a1 = -1
  · subst c
    have e1 : rng (-1) (nI (ln A) - 1) (-1) = 1 := by
      unfold rng
      rw [if_neg (by decide), if_neg]
      intro h
      rcases Nat.eq_zero_or_pos (ln A) with z | z
      · rw [z] at h; exact absurd h (by decide)
      · rw [show nI (ln A) - 1 = nI (ln A - 1) from n_sub z] at h
        have h2 := pos_le (a := ln A - 1) (by omega)
        have h3 : (0 : Int32) < -1 := by
          rw [Int32.lt_iff_toInt_lt] at h ⊢
          rw [Int32.le_iff_toInt_le] at h2
          omega
        exact absurd h3 (by decide)
    rw [e1]
    rcases rng_01 (a := 0) (b := 20) (v := a2) with e | e
    · rw [e]
      exact R2_eq hI (-1) rfl (by rw [if_neg one_ne0, if_pos rfl])
    · obtain ⟨y, hy, ey⟩ := rng_nat (b := 20) (by omega) e
      rw [e]
      subst ey
      obtain ⟨x', e1, f1⟩ := hb_fees_l hV hy (ln A) fu 0 x (by omega) (by show ln A < 1000; omega) hX
      obtain ⟨m', e2, a3, f2⟩ := mo_fees_l hV hy (ln A) fu 0 m (by omega) (by show ln A < 1000; omega) hM
      refine R2_in (r := mbs (-4) (feeN y A) (ln A)) hV hr hX ?_ f1 ?_ a3 (f2.S (by omega) (by omega))
      · rw [if_neg one_ne0, if_pos rfl, b_Hb_fees_22, if_pos (show (-1 : Int32) < 0 from by decide)]
        exact e1
      · rw [if_neg one_ne0, if_neg one_ne0, if_pos (show (-1 : Int32) < 0 from by decide)]
        exact e2
  · rw [rng_m1 c]
    rcases rng_01 (a := 0) (b := 20) (v := a2) with e | e
    · rw [e]
      refine R2_eq hI (-1) rfl ?_
      dsimp only
      split
      · rfl
      · rfl
    · obtain ⟨y, hy, ey⟩ := rng_nat (b := 20) (by omega) e
      rw [e]
      subst ey
      have eh : f_Hb_isHorse a1 x = some (rng 0 (nI (ln A) - 1) a1, x) := by rw [hb_isHorse, hX.1]
      rw [if_neg one_ne0, if_neg c]
      dsimp only
      rw [eh, bd_s]
      rcases rng_01 (a := 0) (b := nI (ln A) - 1) (v := a1) with e | e
      · rw [e]
        exact fail2 hI
      · obtain ⟨h, hl, eh⟩ := rng_horse h7 e
        rw [e]
        subst eh
        obtain ⟨x', e1, f1⟩ := hb_fee hX hV hl hy
        obtain ⟨m', e2, a3, f2⟩ := mo_fee hM hV hl hy
        refine R2_in (r := nI (feeN y A h)) hV hr hX ?_ f1 ?_ a3 (f2.S (by omega) (by omega))
        · rw [if_neg one_ne0, b_Hb_fees_22, if_neg (nneg (by omega)), gI_n (by omega) (by omega), sid10 (by omega), e1, bd_s]
        · rw [if_neg one_ne0, if_neg one_ne0, if_neg (nneg (by omega)), e2, bd_s]

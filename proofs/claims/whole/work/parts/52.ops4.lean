/-! Spread, hang, ripe, least longing, fastest, fees, two: both sides. -/
theorem sp_in {x : XD} {m : MD} {A : Ld} {i : Nat} (hX : LnX x 10 A) (hM : LnM m A) (hV : VA A) (hi : i < ln A) : ∀ (k n j : Nat) (b l : Int32), j + k = ln A → k < n → ∃ b' l', (∀ K, b_Hb_spread_23 K (nI i) n b l (nI j) x = K b' l' (nI (i + 1)) x) ∧ (∀ K, b_Mo_spread_25 K (nI i) n b l (nI j) m = K b' l' (nI (i + 1)) m) := by
  have h7 := hV.1
  intro k
  induction k with
  | zero =>
    intro n j b l hj hn
    obtain ⟨n, rfl⟩ : ∃ m, n = m + 1 := ⟨n - 1, by omega⟩
    refine ⟨b, l, fun K => ?_, fun K => ?_⟩
    · rw [b_Hb_spread_23, hX.1, if_pos (nI_le (by omega) (by omega)), show nI i + 1 = nI (i + 1) from n_add i 1]
    · rw [b_Mo_spread_25, hM.1, if_pos (nI_le (by omega) (by omega)), show nI i + 1 = nI (i + 1) from n_add i 1]
  | succ k ih =>
    intro n j b l hj hn
    obtain ⟨n, rfl⟩ : ∃ m, n = m + 1 := ⟨n - 1, by omega⟩
    have hi4 := (hV.2.2 i hi).2.2.2.1
    have hj4 := (hV.2.2 j (by omega)).2.2.2.1
    have sx1 := (LnX_s hX hi).2.2.2.1
    have sx2 := (LnX_s (h := j) hX (by omega)).2.2.2.1
    have sm1 := (hM.2.2.2 i hi).2.2.2.1
    have sm2 := (hM.2.2.2 j (by omega)).2.2.2.1
    have ex : x_abs (nI (ha (ls A i)) - nI (ha (ls A j))) = nI (dst (ha (ls A i)) (ha (ls A j))) := by
      rw [abs_n (by omega) (by omega)]
      refine congrArg nI ?_
      unfold dst
      split <;> split <;> omega
    have em := mo_apart_n (m := m) (a := ha (ls A i)) (b := ha (ls A j)) (by omega) (by omega)
    obtain ⟨b', l', p1, p2⟩ := ih n (j + 1) (if nI (dst (ha (ls A i)) (ha (ls A j))) ≤ l then b else 10 * nI i + nI j) (if nI (dst (ha (ls A i)) (ha (ls A j))) ≤ l then l else nI (dst (ha (ls A i)) (ha (ls A j)))) (by omega) (by omega)
    refine ⟨b', l', fun K => ?_, fun K => ?_⟩
    · rw [← p1 K, b_Hb_spread_23, hX.1]
      simp only [n_le (show ln A < 2147483648 by omega) (show j < 2147483648 by omega)]
      rw [if_neg (by omega), gI_n (by omega) (by omega), gI_n (by omega) (by omega), sid10 (by omega), sid10 (by omega), sx1, sx2, ex]
      simp only [b_Hb_spread_83, show nI j + 1 = nI (j + 1) from n_add j 1]
      split <;> rfl
    · rw [← p2 K, b_Mo_spread_25, hM.1]
      simp only [n_le (show ln A < 2147483648 by omega) (show j < 2147483648 by omega)]
      rw [if_neg (by omega), gI_n (by omega) (by omega), gI_n (by omega) (by omega), n_nat (by omega), n_nat (by omega), sm1, sm2, em, bd_s]
      simp only [b_Mo_spread_69, b_Mo_spread_82, show nI j + 1 = nI (j + 1) from n_add j 1]
      split <;> rfl
theorem sp_out {x : XD} {m : MD} {A : Ld} (hX : LnX x 10 A) (hM : LnM m A) (hV : VA A) : ∀ (k n i : Nat) (b l : Int32), i + k = ln A → k < n → ∃ r, b_Hb_spread_7 n b l (nI i) x = some (r, x) ∧ b_Mo_spread_12 n b l (nI i) m = some (r, m) := by
  have h7 := hV.1
  intro k
  induction k with
  | zero =>
    intro n i b l hj hn
    obtain ⟨n, rfl⟩ : ∃ m, n = m + 1 := ⟨n - 1, by omega⟩
    refine ⟨b, ?_, ?_⟩
    · rw [b_Hb_spread_7, hX.1, if_pos (nI_le (by omega) (by omega))]
    · rw [b_Mo_spread_12, hM.1, if_pos (nI_le (by omega) (by omega))]
  | succ k ih =>
    intro n i b l hj hn
    obtain ⟨n, rfl⟩ : ∃ m, n = m + 1 := ⟨n - 1, by omega⟩
    obtain ⟨b', l', p1, p2⟩ := sp_in (i := i) hX hM hV (by omega) k fu (i + 1) b l (by omega) (by show k < 1000; omega)
    obtain ⟨r, q1, q2⟩ := ih n (i + 1) b' l' (by omega) (by omega)
    refine ⟨r, ?_, ?_⟩
    · rw [b_Hb_spread_7, hX.1]
      simp only [n_le (show ln A < 2147483648 by omega) (show i < 2147483648 by omega)]
      rw [if_neg (by omega), show nI i + 1 = nI (i + 1) from n_add i 1, p1, q1]
    · rw [b_Mo_spread_12, hM.1]
      simp only [n_le (show ln A < 2147483648 by omega) (show i < 2147483648 by omega)]
      rw [if_neg (by omega), show nI i + 1 = nI (i + 1) from n_add i 1, p2, q2]
theorem op_spread : St2 IV f_Hb_spread f_Mo_spread := by
  intro x m ⟨A, hV, hX, hM, hr⟩
  show R2 _ _
  unfold f_Hb_spread f_Mo_spread
  refine R2_14 hM hr fun m hM hr => ?_
  have hI : IV x m := ⟨A, hV, hX, hM, hr⟩
  have h7 := hV.1
  obtain ⟨r, e1, e2⟩ := sp_out hX hM hV (ln A) fu 0 (-4) (-1) (by omega) (by show ln A < 1000; omega)
  exact R2_eq hI r e1 e2
/-- the land in mind -/
theorem LnX_12 {x y : XD} {A : Ld} (h : LnX x 10 A) (hV : VA A) (f : frL 12 x y) : LnX y 10 A := LnX_X h hV (f.X (by omega))
theorem hang_l {A : Ld} {c : Nat} {v2 : Int32} (hV : VA A) (hc : c ≤ 60) : ∀ (k n j : Nat) (b l : Int32) (x : XD) (m : MD), j + k = 21 → k < n → LnX x 10 A → LnM m A → LkM m 98 A → ∃ r x' m', b_Hb_hang_35 (nI c) v2 n b l (nI j) x = some (r, x') ∧ frX x x' ∧ b_Mo_hang_41 (nI c) v2 n b l (nI j) m = some (r, m') ∧ LnM m' A ∧ frB m m' := by
  have h7 := hV.1
  intro k
  induction k with
  | zero =>
    intro n j b l x m hj hn hX hM hK
    obtain ⟨n, rfl⟩ : ∃ m, n = m + 1 := ⟨n - 1, by omega⟩
    obtain rfl : j = 21 := by omega
    refine ⟨if v2 = 0 then b else l, x, m, ?_, frX.rf, ?_, hM, frB.rf⟩
    · rw [b_Hb_hang_35, if_pos (show (21 : Int32) ≤ nI 21 from by decide)]
      split <;> rfl
    · rw [b_Mo_hang_41, if_pos (show (20 : Int32) < nI 21 from by decide)]
      split <;> rfl
  | succ k ih =>
    intro n j b l x m hj hn hX hM hK
    obtain ⟨n, rfl⟩ : ∃ m, n = m + 1 := ⟨n - 1, by omega⟩
    have hVo : VA (oatA j A) := oat_V hV (by omega)
    obtain ⟨x1, e1, a1, f1⟩ := la_become_n (o := 12) (o1 := 10) (x := x) (by decide) (by decide) (by decide) hX h7
    have a2 := LnX_oat (y := j) a1 h7 (by decide)
    obtain ⟨x2, e2, a3, f2⟩ := la_pass_n (m := c) (by decide) a2 hVo (by omega)
    have e3 := la_allLonging_n a3 (pass_V (m := c) hVo)
    have fX : frX x x2 := ((f1.tr frL.up).tr f2).X (by omega)
    have u1 : frB m (x_up m.1 83 6 (nI j), m.2) := (frM.up (Or.inr (Or.inl rfl))).B
    obtain ⟨m1, g1, b1, k1⟩ := mo_goDays_n (c := c) (by omega) (LnM_oat (y := j) hM) hVo
    have g2 := mo_allLonging_n b1 (pass_V (m := c) hVo)
    obtain ⟨m2, g3, b2, hK2, k2⟩ := mo_close_n (LkM_B (by omega) hK (u1.tr k1.B)) h7
    obtain ⟨r, x', m', p1, p2, p3, p4, p5⟩ := ih n (j + 1) (if nI (sumK hlo (ls (passA c (oatA j A))) (ln (passA c (oatA j A)))) ≤ l then b else nI j) (if nI (sumK hlo (ls (passA c (oatA j A))) (ln (passA c (oatA j A)))) ≤ l then l else nI (sumK hlo (ls (passA c (oatA j A))) (ln (passA c (oatA j A))))) x2 m2 (by omega) (by omega) (LnX_X hX hV fX) b2 hK2
    refine ⟨r, x', m', ?_, fX.tr p2, ?_, p4, ((u1.tr k1.B).tr k2).tr p5⟩
    · rw [← p1, b_Hb_hang_35, show (21 : Int32) = nI 21 from rfl]
      simp only [n_le (show 21 < 2147483648 by omega) (show j < 2147483648 by omega)]
      rw [if_neg (by omega), e1, bd_s]
      simp only [lt_e]
      rw [e2, bd_s]
      dsimp only
      rw [e3, bd_s]
      dsimp only
      rw [e3, bd_s]
      simp only [b_Hb_hang_80, show nI j + 1 = nI (j + 1) from n_add j 1]
      split <;> rfl
    · rw [← p3, b_Mo_hang_41, show (20 : Int32) = nI 20 from rfl]
      simp only [n_lt (show 20 < 2147483648 by omega) (show j < 2147483648 by omega)]
      rw [if_neg (by omega)]
      simp only [lt_e]
      rw [g1, bd_s]
      dsimp only
      rw [g2, bd_s]
      dsimp only
      rw [g3, bd_s]
      simp only [b_Mo_hang_82, b_Mo_hang_97, show nI j + 1 = nI (j + 1) from n_add j 1]
      split <;> rfl
theorem op_hang (a1 a2 : Int32) : St2 IV (f_Hb_hang a1 a2) (f_Mo_hang a1 a2) := by
  intro x m ⟨A, hV, hX, hM, hr⟩
  show R2 _ _
  unfold f_Hb_hang f_Mo_hang
  refine R2_14 hM hr fun m hM hr => ?_
  have hI : IV x m := ⟨A, hV, hX, hM, hr⟩
  refine g_in 0 60 rfl rfl (by decide) (by decide) (by omega) (fail2 hI) fun c _ hc e => pass2 ?_
  refine g_either (fail2 hI) fun _ => pass2 ?_
  subst e
  obtain ⟨m1, e3, a4, k4, f3⟩ := mo_open_n hM hV.1
  obtain ⟨r, x', m', e1, f1, e2, a5, f2⟩ := hang_l (v2 := a2) hV hc 21 fu 0 0 (-1) x m1 (by omega) (by decide) hX a4 k4
  refine R2_in hV hr hX e1 f1 ?_ a5 ((f3.tr f2.K).S (by omega) (by omega))
  dsimp only
  rw [e3, bd_s]
  exact e2
theorem ripe_l {A : Ld} {h : Nat} {v2 : Int32} (hV : VA A) (hl : h < ln A) : ∀ (k n j : Nat) (x : XD) (m : MD) (A' : Ld), j + k = 61 → k + 1 < n → LnX x 10 A → VA A' → ln A' = ln A → lo A' = lo A → xst x 64 (ls A' h) → LnM m A' → LkM m 98 A → ∃ r x' m', b_Hb_ripe_38 v2 n (nI j) x = some (r, x') ∧ frX x x' ∧ b_Mo_ripe_37 (nI h) v2 n (-4) (nI j) m = some (r, m') ∧ LnM m' A ∧ frB m m' := by
  have h7 : h < 7 := Nat.lt_of_lt_of_le hl hV.1
  intro k
  induction k with
  | zero =>
    intro n j x m A' hj hn hX hV' hn' ho' hs hM hK
    obtain ⟨n, rfl⟩ : ∃ m, n = m + 1 := ⟨n - 1, by omega⟩
    obtain rfl : j = 61 := by omega
    obtain ⟨m2, g3, b2, hK2, k2⟩ := mo_close_n hK hV.1
    refine ⟨-4, x, m2, ?_, frX.rf, ?_, b2, k2⟩
    · rw [b_Hb_ripe_38, if_pos (show (60 : Int32) < nI 61 from by decide)]
    · rw [b_Mo_ripe_37, if_pos (show (60 : Int32) < nI 61 from by decide), b_Mo_ripe_76, g3, bd_s]
  | succ k ih =>
    intro n j x m A' hj hn hX hV' hn' ho' hs hM hK
    obtain ⟨n, rfl⟩ : ∃ m, n = m + 1 := ⟨n - 1, by omega⟩
    have hVh := hV'.2.2 h (by omega)
    have eX : b_Hb_ripe_38 v2 (n + 1) (nI j) x = (if nI (paceN (ls A' h)) < v2 then (f_St_stay 64 1 (x 10 3) x).bind fun p4 => (b_Hb_ripe_38 v2 n (nI (j + 1)) p4.2) else some (nI j, x)) := by
      rw [b_Hb_ripe_38, show (60 : Int32) = nI 60 from rfl]
      simp only [n_lt (show 60 < 2147483648 by omega) (show j < 2147483648 by omega)]
      rw [if_neg (by omega), st_pace_n hs hVh, bd_s, show nI j + 1 = nI (j + 1) from n_add j 1]
    obtain ⟨m1, g1, b1, k1⟩ := mo_day_n hM hV'
    have eM : b_Mo_ripe_37 (nI h) v2 (n + 1) (-4) (nI j) m = (if nI (paceN (ls A' h)) < v2 then b_Mo_ripe_37 (nI h) v2 n (-4) (nI (j + 1)) m1 else b_Mo_ripe_37 (nI h) v2 n (nI j) (nI (j + 1)) m1) := by
      rw [b_Mo_ripe_37, show (60 : Int32) = nI 60 from rfl]
      simp only [n_lt (show 60 < 2147483648 by omega) (show j < 2147483648 by omega)]
      rw [if_neg (by omega), if_neg (show ¬ (0 : Int32) ≤ -4 from by decide), mo_pace_n (hM.2.2.2 h (by omega)) hVh h7, bd_s]
      simp only [b_Mo_ripe_64, g1, bd_s, show nI j + 1 = nI (j + 1) from n_add j 1]
    have hK1 := LkM_B (by omega) hK k1.B
    rw [eX, eM]
    by_cases c : nI (paceN (ls A' h)) < v2
    · rw [if_pos c, if_pos c]
      obtain ⟨x1, e1, s1, f1⟩ := st_stay_n (m := 1) hs hVh hV'.2.1 (by omega)
      have fX : frX x x1 := f1.X (by omega)
      obtain ⟨r, x', m', p1, p2, p3, p4, p5⟩ := ih n (j + 1) x1 m1 (passA 1 A') (by omega) (by omega) (LnX_X hX hV fX) (pass_V hV') hn' ho' s1 b1 hK1
      refine ⟨r, x', m', ?_, fX.tr p2, p3, p4, k1.B.tr p5⟩
      rw [hX.2.1, ← ho', show (1 : Int32) = nI 1 from rfl, e1, bd_s]
      exact p1
    · rw [if_neg c, if_neg c]
      obtain ⟨n, rfl⟩ : ∃ m, n = m + 1 := ⟨n - 1, by omega⟩
      obtain ⟨m2, g3, b2, hK2, k2⟩ := mo_close_n hK1 hV.1
      refine ⟨nI j, x, m2, rfl, frX.rf, ?_, b2, k1.B.tr k2⟩
      rw [b_Mo_ripe_37, if_pos (pos_le (by omega)), b_Mo_ripe_76, g3, bd_s]
      split <;> rfl
theorem op_ripe (a1 a2 : Int32) : St2 IV (f_Hb_ripe a1 a2) (f_Mo_ripe a1 a2) := by
  intro x m ⟨A, hV, hX, hM, hr⟩
  show R2 _ _
  unfold f_Hb_ripe f_Mo_ripe
  refine R2_14 hM hr fun m hM hr => ?_
  have hI : IV x m := ⟨A, hV, hX, hM, hr⟩
  refine g_horse hV hX hM (fail2 hI) fun h hl e => pass2 ?_
  refine g_in 1 60 rfl rfl (by decide) (by decide) (by omega) (fail2 hI) fun c _ hc e2 => pass2 ?_
  subst e
  have h7 : h < 7 := Nat.lt_of_lt_of_le hl hV.1
  obtain ⟨x1, e1, s1, f1⟩ := st_become_n (o := 64) (o1 := 22 + h) (x := x) (by omega) (LnX_s hX hl)
  have fX : frX x x1 := f1.X (by omega)
  obtain ⟨m1, e3, a4, k4, f3⟩ := mo_open_n hM hV.1
  obtain ⟨r, x', m', e5, f5, e6, a6, f6⟩ := ripe_l (v2 := a2) hV hl 61 fu 0 x1 m1 A (by omega) (by decide) (LnX_X hX hV fX) hV rfl rfl s1 a4 k4
  refine R2_in (r := r) hV hr hX ?_ (fX.tr f5) ?_ a6 ((f3.tr f6.K).S (by omega) (by omega))
  · dsimp only
    rw [gI_n h7 (by omega), sid10 h7, e1, bd_s]
    exact e5
  · dsimp only
    rw [e3, bd_s]
    exact e6
def loS (v : Nat) (s : Hs) : Hs := (hk s, hf s, hh s, ha s, v)
theorem loS_V {v : Nat} {s : Hs} (h : VH s) (hv : v ≤ 99) : VH (loS v s) := ⟨h.1, h.2.1, h.2.2.1, h.2.2.2.1, hv⟩
theorem least_l {A : Ld} {h y : Nat} {v3 : Int32} (hV : VA A) (hl : h < ln A) (hy : y ≤ 20) : ∀ (k n j : Nat) (x : XD) (m : MD), j + k = 100 → k + 1 < n → LnX x 10 A → LnM m A → LkM m 98 A → ∃ r x' m', b_Hb_leastLonging_30 (nI h) (nI y) v3 n (nI j) x = some (r, x') ∧ frX x x' ∧ b_Mo_leastLonging_45 (nI h) (nI y) v3 n (-4) (nI j) m = some (r, m') ∧ LnM m' A ∧ frB m m' := by
  have h7 : h < 7 := Nat.lt_of_lt_of_le hl hV.1
  have hn9 : (nI h).toNatClampNeg = h := n_nat (by omega)
  intro k
  induction k with
  | zero =>
    intro n j x m hj hn hX hM hK
    obtain ⟨n, rfl⟩ : ∃ m, n = m + 1 := ⟨n - 1, by omega⟩
    obtain rfl : j = 100 := by omega
    refine ⟨-4, x, m, ?_, frX.rf, ?_, hM, frB.rf⟩
    · rw [b_Hb_leastLonging_30, if_pos (show (99 : Int32) < nI 100 from by decide)]
    · rw [b_Mo_leastLonging_45, if_pos (show (99 : Int32) < nI 100 from by decide)]
  | succ k ih =>
    intro n j x m hj hn hX hM hK
    obtain ⟨n, rfl⟩ : ∃ m, n = m + 1 := ⟨n - 1, by omega⟩
    have hVs := loS_V (v := j) (hV.2.2 h hl) (by omega)
    have hVA : VA (setS A h (loS j (ls A h))) := setS_V hV hVs
    obtain ⟨x1, e1, s1, f1⟩ := st_become_n (o := 64) (o1 := 22 + h) (x := x) (by omega) (LnX_s hX hl)
    have s1' : xst (x_up x1 64 4 (nI j)) 64 (loS j (ls A h)) := xst_up4 s1
    have f1' : frO 64 x (x_up x1 64 4 (nI j)) := f1.tr frO.up
    have o1 : x_up x1 64 4 (nI j) 10 3 = nI (lo A) := by rw [f1' 10 (by decide)]; exact hX.2.1
    obtain ⟨x2, e2, s2, f2⟩ := st_ride_n s1' hVs hV.2.1 hy
    have fX : frX x x2 := (f1'.tr f2).X (by omega)
    have hM1 : LnM (x_up m.1 88 h (nI j), m.2) (setS A h (loS j (ls A h))) := LnM_88 hM hl
    have u1 : frB m (x_up m.1 88 h (nI j), m.2) := (frA.up.M (by omega) (by omega)).B
    obtain ⟨m1, g1, b1, k1⟩ := mo_ride_n (h := h) hM1 hVA hl hy
    obtain ⟨m2, g3, b2, hK2, k2⟩ := mo_close_n (LkM_B (by omega) hK (u1.tr k1.B)) hV.1
    rw [rideA_N, ls_set] at g1
    have eX : b_Hb_leastLonging_30 (nI h) (nI y) v3 (n + 1) (nI j) x = (if v3 < nI (rideN y (lo A) (loS j (ls A h))).1 then b_Hb_leastLonging_30 (nI h) (nI y) v3 n (nI (j + 1)) x2 else some (nI j, x2)) := by
      rw [b_Hb_leastLonging_30, show (99 : Int32) = nI 99 from rfl]
      simp only [n_lt (show 99 < 2147483648 by omega) (show j < 2147483648 by omega)]
      rw [if_neg (by omega), gI_n h7 (by omega), sid10 h7, e1, bd_s]
      simp only [lt_e]
      rw [o1, e2, bd_s, show nI j + 1 = nI (j + 1) from n_add j 1]
    have eM : b_Mo_leastLonging_45 (nI h) (nI y) v3 (n + 1) (-4) (nI j) m = (if v3 < nI (rideN y (lo A) (loS j (ls A h))).1 then b_Mo_leastLonging_45 (nI h) (nI y) v3 n (-4) (nI (j + 1)) m2 else b_Mo_leastLonging_45 (nI h) (nI y) v3 n (nI j) (nI (j + 1)) m2) := by
      rw [b_Mo_leastLonging_45, show (99 : Int32) = nI 99 from rfl]
      simp only [n_lt (show 99 < 2147483648 by omega) (show j < 2147483648 by omega)]
      rw [if_neg (by omega), if_neg (show ¬ (0 : Int32) ≤ -4 from by decide), gI_n h7 (by omega), hn9]
      simp only [lt_e]
      rw [g1, bd_s]
      simp only [b_Mo_leastLonging_82, g3, bd_s, show nI j + 1 = nI (j + 1) from n_add j 1]
      rfl
    rw [eX, eM]
    by_cases c : v3 < nI (rideN y (lo A) (loS j (ls A h))).1
    · rw [if_pos c, if_pos c]
      obtain ⟨r, x', m', p1, p2, p3, p4, p5⟩ := ih n (j + 1) x2 m2 (by omega) (by omega) (LnX_X hX hV fX) b2 hK2
      exact ⟨r, x', m', p1, fX.tr p2, p3, p4, ((u1.tr k1.B).tr k2).tr p5⟩
    · rw [if_neg c, if_neg c]
      obtain ⟨n, rfl⟩ : ∃ m, n = m + 1 := ⟨n - 1, by omega⟩
      refine ⟨nI j, x2, m2, rfl, fX, ?_, b2, (u1.tr k1.B).tr k2⟩
      rw [b_Mo_leastLonging_45, if_pos (pos_le (by omega))]
      split <;> rfl
theorem op_leastLonging (a1 a2 a3 : Int32) : St2 IV (f_Hb_leastLonging a1 a2 a3) (f_Mo_leastLonging a1 a2 a3) := by
  intro x m ⟨A, hV, hX, hM, hr⟩
  show R2 _ _
  unfold f_Hb_leastLonging f_Mo_leastLonging
  refine R2_14 hM hr fun m hM hr => ?_
  have hI : IV x m := ⟨A, hV, hX, hM, hr⟩
  refine g_horse hV hX hM (fail2 hI) fun h hl e => pass2 ?_
  refine g_yard (fail2 hI) fun y hy e2 => pass2 ?_
  refine g_in 0 20 rfl rfl (by decide) (by decide) (by omega) (fail2 hI) fun c _ hc e3 => pass2 ?_
  subst e e2
  obtain ⟨m1, e3, a4, k4, f3⟩ := mo_open_n hM hV.1
  obtain ⟨r, x', m', e5, f5, e6, a6, f6⟩ := least_l (v3 := a3) hV hl hy 100 fu 0 x m1 (by omega) (by decide) hX a4 k4
  refine R2_in hV hr hX e5 f5 ?_ a6 ((f3.tr f6.K).S (by omega) (by omega))
  dsimp only
  rw [e3, bd_s]
  exact e6

/-! The land as told: both sides. -/
theorem sid10 {h : Nat} (hh : h < 7) : sid 10 (nI h) = 22 + h := by
  have := sid_n (o := 10) hh
  omega
theorem LnX_s {x : XD} {A : Ld} {h : Nat} (hX : LnX x 10 A) (hh : h < ln A) : xst x (22 + h) (ls A h) := hX.2.2.2 h hh
def oatA (y : Nat) (A : Ld) : Ld := (ln A, y, ldy A, ls A)
theorem LnX_oat {x : XD} {o y : Nat} {A : Ld} (hX : LnX x o A) (h7 : ln A ≤ 7) (ho : 10 ≤ o ∧ o < 16) : LnX (x_up x o 3 (nI y)) o (oatA y A) := by
  obtain ⟨h1, h2, h3, h4⟩ := hX
  exact ⟨(show x_up x o 3 (nI y) o 2 = x o 2 from x_up_nj (by decide)).trans h1, (show x_up x o 3 (nI y) o 3 = nI y from x_up_at), (show x_up x o 3 (nI y) o 4 = x o 4 from x_up_nj (by decide)).trans h3, fun i hi => xst_fr (h4 i hi) (x_up_ne (by have : i < ln A := hi; omega))⟩
theorem LnM_oat {m : MD} {y : Nat} {A : Ld} (hM : LnM m A) : LnM (x_up m.1 83 6 (nI y), m.2) (oatA y A) := by
  obtain ⟨h1, h2, h3, h4⟩ := hM
  exact ⟨(show x_up m.1 83 6 (nI y) 83 0 = m.1 83 0 from x_up_nj (by decide)).trans h1, (show x_up m.1 83 6 (nI y) 83 6 = nI y from x_up_at), (show x_up m.1 83 6 (nI y) 83 7 = m.1 83 7 from x_up_nj (by decide)).trans h3, h4⟩
theorem oat_V {A : Ld} {y : Nat} (hV : VA A) (hy : y ≤ 20) : VA (oatA y A) := ⟨hV.1, hy, hV.2.2⟩
theorem LnM_st {m m' : MD} {A : Ld} {h : Nat} {s : Hs} (hM : LnM m A) (e0 : m'.1 83 = m.1 83) (hs : mst m' h s) (e : ∀ i k, i ≠ h → 83 < k → k < 89 → m'.1 k i = m.1 k i) : LnM m' (setS A h s) := by
  obtain ⟨h1, h2, h3, h4⟩ := hM
  refine ⟨by rw [e0]; exact h1, by rw [e0]; exact h2, by rw [e0]; exact h3, fun i hi => ?_⟩
  show mst _ i (if i = h then _ else ls A i)
  by_cases c : i = h
  · rw [if_pos c, c]; exact hs
  · rw [if_neg c]
    obtain ⟨s0, s1, s2, s3, s4⟩ := h4 i hi
    exact ⟨(e i 84 c (by omega) (by omega)).trans s0, (e i 85 c (by omega) (by omega)).trans s1, (e i 86 c (by omega) (by omega)).trans s2, (e i 87 c (by omega) (by omega)).trans s3, (e i 88 c (by omega) (by omega)).trans s4⟩
theorem LnM_88 {m : MD} {A : Ld} {h v : Nat} (hL : LnM m A) (hl : h < ln A) : LnM (x_up m.1 88 h (nI v), m.2) (setS A h (hk (ls A h), hf (ls A h), hh (ls A h), ha (ls A h), v)) :=
  LnM_st hL (show x_up m.1 88 h (nI v) 83 = m.1 83 from x_up_ne (by decide)) (mst_88 (hL.2.2.2 h hl)) (fun i k hi _ _ => show x_up m.1 88 h (nI v) k i = m.1 k i from x_up_nj hi)

theorem op_horse (a1 a2 : Int32) : St2 IV (f_Hb_horse a1 a2) (f_Mo_horse a1 a2) := by
  intro x m ⟨A, hV, hX, hM, hr⟩
  show R2 _ _
  unfold f_Hb_horse f_Mo_horse
  refine R2_14 hM hr fun m hM hr => ?_
  have hI : IV x m := ⟨A, hV, hX, hM, hr⟩
  refine g_horse hV hX hM (fail2 hI) fun h hl e => pass2 ?_
  subst e
  have h7 : h < 7 := Nat.lt_of_lt_of_le hl hV.1
  have sx := LnX_s hX hl
  have sm := hM.2.2.2 h hl
  have sV := hV.2.2 h hl
  have hn : (nI h).toNatClampNeg = h := n_nat (by omega)
  dsimp only
  rw [gI_n h7 (by omega), sid10 h7]
  simp only [gI_n h7 (show 7 < 2147483648 by omega), hn]
  refine R2_ite (fun _ => R2_eq hI (nI (hk (ls A h))) (by rw [sx.1, v_number_n sV.1, bd_s]) (by rw [sm.1])) fun _ => ?_
  refine R2_ite (fun _ => R2_eq hI (nI (hf (ls A h))) (by rw [sx.2.1]) (by rw [sm.2.1])) fun _ => ?_
  refine R2_ite (fun _ => R2_eq hI (nI (hh (ls A h))) (by rw [sx.2.2.1]) (by rw [sm.2.2.1])) fun _ => ?_
  refine R2_ite (fun _ => R2_eq hI (nI (ha (ls A h))) (by rw [sx.2.2.2.1]) (by rw [sm.2.2.2.1])) fun _ => ?_
  refine R2_ite (fun _ => R2_eq hI (nI (hlo (ls A h))) (by rw [sx.2.2.2.2]) (by rw [sm.2.2.2.2])) fun _ => ?_
  refine R2_ite (fun _ => R2_eq hI (nI (goalN (lo A) (ls A h))) (by rw [hX.2.1, st_goal_n sx sV hV.2.1, bd_s]) (by rw [mo_goal_n sm sV h7 hV.2.1 hM.2.1, bd_s])) fun _ => ?_
  refine R2_ite (fun _ => R2_eq hI (nI (paceN (ls A h))) (by rw [st_pace_n sx sV, bd_s]) (by rw [mo_pace_n sm sV h7, bd_s])) fun _ => ?_
  refine R2_ite (fun _ => R2_eq hI (nI (walkN (ls A h))) (by rw [sx.1, v_walk_n sV, bd_s]) (by rw [mo_walk_n sm sV h7, bd_s])) fun _ => ?_
  exact R2_eq hI (-1) rfl rfl
theorem op_taken (a1 a2 : Int32) : St2 IV (f_Hb_taken a1 a2) (f_Mo_taken a1 a2) := by
  intro x m ⟨A, hV, hX, hM, hr⟩
  show R2 _ _
  unfold f_Hb_taken f_Mo_taken
  refine R2_14 hM hr fun m hM hr => ?_
  have hI : IV x m := ⟨A, hV, hX, hM, hr⟩
  refine g_horse hV hX hM (fail2 hI) fun h hl e => pass2 ?_
  refine g_yard (fail2 hI) fun y hy e2 => pass2 ?_
  subst e e2
  have h7 : h < 7 := Nat.lt_of_lt_of_le hl hV.1
  have sx := LnX_s hX hl
  have sm := hM.2.2.2 h hl
  have sV := hV.2.2 h hl
  have hn : (nI h).toNatClampNeg = h := n_nat (by omega)
  dsimp only
  simp only [gI_n h7 (show 7 < 2147483648 by omega), hn, sid10 h7, lt_e, sx.2.2.2.1, sm.2.2.2.1]
  exact R2_fin (A := setS A h (hk (ls A h), hf (ls A h), hh (ls A h), y, hlo (ls A h))) (setS_V hV ⟨sV.1, sV.2.1, sV.2.2.1, hy, sV.2.2.2.2⟩) hr (LnX_set (by decide) hX h7 (xst_up3 sx) frO.up) (LnM_87 hM) (frO.R frO.up (by omega)) (frS.up (Or.inl (by decide)) (fun e => absurd e (by decide)))
theorem op_longs (a1 a2 : Int32) : St2 IV (f_Hb_longs a1 a2) (f_Mo_longs a1 a2) := by
  intro x m ⟨A, hV, hX, hM, hr⟩
  show R2 _ _
  unfold f_Hb_longs f_Mo_longs
  refine R2_14 hM hr fun m hM hr => ?_
  have hI : IV x m := ⟨A, hV, hX, hM, hr⟩
  refine g_horse hV hX hM (fail2 hI) fun h hl e => pass2 ?_
  refine g_in 0 99 rfl rfl (by decide) (by decide) (by omega) (fail2 hI) fun y _ hy e2 => pass2 ?_
  subst e e2
  have h7 : h < 7 := Nat.lt_of_lt_of_le hl hV.1
  have sx := LnX_s hX hl
  have sm := hM.2.2.2 h hl
  have sV := hV.2.2 h hl
  have hn : (nI h).toNatClampNeg = h := n_nat (by omega)
  dsimp only
  simp only [gI_n h7 (show 7 < 2147483648 by omega), hn, sid10 h7, lt_e, sx.2.2.2.2, sm.2.2.2.2]
  exact R2_fin (A := setS A h (hk (ls A h), hf (ls A h), hh (ls A h), ha (ls A h), y)) (setS_V hV ⟨sV.1, sV.2.1, sV.2.2.1, sV.2.2.2.1, hy⟩) hr (LnX_set (by decide) hX h7 (xst_up4 sx) frO.up) (LnM_88 hM hl) (frO.R frO.up (by omega)) (frS.up (Or.inl (by decide)) (fun e => absurd e (by decide)))
theorem op_hangs (a1 : Int32) : St2 IV (f_Hb_hangs a1) (f_Mo_hangs a1) := by
  intro x m ⟨A, hV, hX, hM, hr⟩
  show R2 _ _
  unfold f_Hb_hangs f_Mo_hangs
  refine R2_14 hM hr fun m hM hr => ?_
  have hI : IV x m := ⟨A, hV, hX, hM, hr⟩
  refine g_yard (fail2 hI) fun y hy e2 => pass2 ?_
  subst e2
  dsimp only
  simp only [lt_e, hX.2.1, hM.2.1]
  exact R2_fin (A := oatA y A) (oat_V hV hy) hr (LnX_oat hX hV.1 (by decide)) (LnM_oat hM) (frO.R (o := 10) frO.up (by omega)) (frS.up (Or.inl (by decide)) (fun _ => by decide))
theorem rng_of {a b n : Nat} (h1 : a ≤ n) (h2 : n ≤ b) (hb : b < 1000000) : rng (nI a) (nI b) (nI n) = 1 := by
  unfold rng
  rw [if_neg, if_neg]
  · rw [n_lt (by omega) (by omega)]; omega
  · rw [n_lt (by omega) (by omega)]; omega
theorem hasDays_n {x : XD} {o : Nat} {A : Ld} {v : Int32} (hX : LnX x o A) : f_La_hasDays o v x = some (if 999 < ldy A + v then 0 else 1, x) := by
  unfold f_La_hasDays
  rw [hX.2.2.1]
  split <;> rfl
theorem mo_daysCome_0 {m : MD} {v : Int32} (h : rng 1 60 v = 0) : f_Mo_daysCome v m = some (0, m) := by
  unfold f_Mo_daysCome
  rw [show (1 : Int64) = (1 : Int32).toInt64 from by decide, show (60 : Int64) = (60 : Int32).toInt64 from by decide, mo_in_r, bd_s, h]
  rfl
theorem mo_daysCome_1 {m : MD} {A : Ld} {v : Int32} (hM : LnM m A) (h1 : rng 1 60 v = 1) (h : 999 < ldy A + v) : f_Mo_daysCome v m = some (0, m) := by
  unfold f_Mo_daysCome
  rw [show (1 : Int64) = (1 : Int32).toInt64 from by decide, show (60 : Int64) = (60 : Int32).toInt64 from by decide, mo_in_r, bd_s, h1, if_neg one_ne0]
  dsimp only
  rw [hM.2.2.1, if_pos h]
  rfl
theorem mo_daysCome_2 {m : MD} {A : Ld} {n : Nat} (hM : LnM m A) (hV : VA A) (hn : 1 ≤ n ∧ n ≤ 60) (h : ¬ 999 < ldy A + nI n) : ∃ m', f_Mo_daysCome (nI n) m = some (1, m') ∧ LnM m' (passA n A) ∧ frM m m' := by
  obtain ⟨m', e, h1, h2⟩ := mo_goDays_n (c := n) (by omega) hM hV
  refine ⟨m', ?_, h1, h2⟩
  have hr : rng 1 60 (nI n) = 1 := rng_of (a := 1) (b := 60) hn.1 hn.2 (by omega)
  unfold f_Mo_daysCome
  rw [show (1 : Int64) = (1 : Int32).toInt64 from by decide, show (60 : Int64) = (60 : Int32).toInt64 from by decide, mo_in_r, bd_s, hr, if_neg one_ne0]
  dsimp only
  rw [hM.2.2.1, if_neg h, b_Mo_daysCome_29, if_neg one_ne0, e, bd_s]
  exact gB_1
theorem op_days (a1 : Int32) : St2 IV (f_Hb_days a1) (f_Mo_days a1) := by
  intro x m ⟨A, hV, hX, hM, hr⟩
  show R2 _ _
  unfold f_Hb_days f_Mo_days
  refine R2_14 hM hr fun m hM hr => ?_
  have hI : IV x m := ⟨A, hV, hX, hM, hr⟩
  refine g_in 1 60 rfl rfl (by decide) (by decide) (by omega) (fail2 hI) fun n n1 hn e2 => pass2 ?_
  subst e2
  dsimp only
  rw [hasDays_n hX, bd_s]
  by_cases c : 999 < ldy A + nI n
  · rw [if_pos c, mo_daysCome_1 hM (rng_of (a := 1) (b := 60) n1 hn (by omega)) c, bd_s]
    exact fail2 hI
  · rw [if_neg c]
    obtain ⟨m', e1, h1, h2⟩ := mo_daysCome_2 hM hV ⟨n1, hn⟩ c
    obtain ⟨x', f1, g1, g2⟩ := la_pass_n (m := n) (by decide) hX hV (by omega)
    rw [e1, bd_s]
    refine pass2 ?_
    dsimp only
    rw [f1, bd_s, la_allLonging_n g1 (pass_V hV), bd_s, mo_allLonging_n h1 (pass_V hV), bd_s]
    exact R2_fin (pass_V (m := n) hV) hr g1 h1 g2.R h2.B.S
theorem mo_allPace_l {m : MD} {A : Ld} (hL : LnM m A) (hV : VA A) : ∀ (k n j : Nat), j + k = ln A → k < n → b_Mo_count_75 n (nI (sumK paceN (ls A) j)) (nI j) m = some (nI (sumK paceN (ls A) (ln A)), m) := by
  have h7 := hV.1
  intro k
  induction k with
  | zero =>
    intro n j hj hn
    obtain ⟨n, rfl⟩ : ∃ m, n = m + 1 := ⟨n - 1, by omega⟩
    rw [b_Mo_count_75, hL.1, if_pos (nI_le (by omega) (by omega)), show j = ln A by omega]
  | succ k ih =>
    intro n j hj hn
    obtain ⟨n, rfl⟩ : ∃ m, n = m + 1 := ⟨n - 1, by omega⟩
    rw [b_Mo_count_75, hL.1]
    simp only [n_le (show ln A < 2147483648 by omega) (show j < 2147483648 by omega)]
    rw [if_neg (by omega), mo_pace_n (hL.2.2.2 j (by omega)) (hV.2.2 j (by omega)) (by omega), bd_s]
    simp only
    rw [show (1 : Int32) = nI 1 from rfl, n_add, n_add]
    exact ih n (j + 1) (by omega) (by omega)
theorem op_count (a1 : Int32) : St2 IV (f_Hb_count a1) (f_Mo_count a1) := by
  intro x m ⟨A, hV, hX, hM, hr⟩
  show R2 _ _
  unfold f_Hb_count f_Mo_count
  refine R2_14 hM hr fun m hM hr => ?_
  have hI : IV x m := ⟨A, hV, hX, hM, hr⟩
  refine R2_ite (fun _ => R2_eq hI (nI (ln A)) (by rw [hX.1]) (by rw [hM.1])) fun _ => ?_
  refine R2_ite (fun _ => R2_eq hI (nI (lo A)) (by rw [hX.2.1]) (by rw [hM.2.1])) fun _ => ?_
  refine R2_ite (fun _ => R2_eq hI (ldy A) (by rw [hX.2.2.1]) (by rw [hM.2.2.1])) fun _ => ?_
  refine R2_ite (fun _ => R2_eq hI _ (by rw [la_allLonging_n hX hV, bd_s]) (by rw [mo_allLonging_n hM hV, bd_s])) fun _ => ?_
  refine R2_ite (fun _ => R2_eq hI _ (by rw [la_allResting_n hX hV, bd_s]) (by rw [mo_atGoals_n hM hV, bd_s])) fun _ => ?_
  refine R2_ite (fun _ => R2_eq hI (nI (sumK paceN (ls A) (ln A))) (by rw [la_allPace_n hX hV, bd_s]) (mo_allPace_l hM hV (ln A) fu 0 (by omega) (by have := hV.1; show ln A < 1000; omega))) fun _ => ?_
  exact R2_eq hI (-1) rfl rfl
theorem op_image : St2 IV f_Hb_image f_Mo_image := by
  intro x m ⟨A, hV, hX, hM, hr⟩
  show R2 _ _
  unfold f_Hb_image f_Mo_image
  refine R2_14 hM hr fun m hM hr => ?_
  have hM2 : LnM (x_up m.1 83 26 1, m.2) A := LnM_83 hM (by decide)
  obtain ⟨m', e1, h1, h2, h3⟩ := mo_save_n (a := 101) (by omega) hM2 hV.1
  obtain ⟨x', f1, g1, g2⟩ := la_become_n (o := 11) (o1 := 10) (by decide) (by decide) (by decide) hX hV.1
  have hX1 : LnX x' 10 A := LnX_eq hX hV.1 (fun k hk => g2 k (by omega) (by omega))
  rw [f1, bd_s]
  simp only [lt_e, e1, bd_s]
  have e10 : x_up x' 0 6 1 10 4 = ldy A := by rw [x_up_ne (by decide)]; exact hX1.2.2.1
  rw [e10, h1.2.2.1]
  refine ⟨ldy A, x_up x' 0 6 1, m', rfl, rfl, A, hV, LnX_eq hX1 hV.1 (fun k hk => x_up_ne (by omega)), h1, ?_, ?_⟩
  · refine Or.inr ⟨x_up_at, ?_, A, hV, LnX_eq g1 hV.1 (fun k hk => x_up_ne (by omega)), h2⟩
    rw [h3.2.2 26 (by omega) (by omega) (by omega) (by omega) (by omega)]
    show x_up m.1 83 26 1 83 26 = 1
    exact x_up_at
  · refine ShA_fr hr.2 (fun k hk => ?_) (Or.inr ⟨by rw [h3.1], fun k k1 k2 => ?_⟩)
    · rw [x_up_ne (by omega)]
      exact g2 k (by omega) (by omega)
    · rw [h3.2.1 k (by omega) (by omega)]
      exact x_up_ne (by omega)
theorem op_restore : St2 IV f_Hb_restore f_Mo_restore := by
  intro x m ⟨A, hV, hX, hM, hr⟩
  show R2 _ _
  unfold f_Hb_restore f_Mo_restore
  refine R2_14 hM hr fun m hM hr => ?_
  rcases hr.1 with ⟨a, b⟩ | ⟨a, b, B, hB, hXB, hMB⟩
  · exact R2_eq ⟨A, hV, hX, hM, hr⟩ (-3) (by rw [if_pos a]) (by rw [if_pos b])
  · obtain ⟨m', e1, h1, h2⟩ := mo_back_n (a := 101) (by omega) hMB hB.1
    obtain ⟨x', f1, g1, g2⟩ := la_become_n (o := 10) (o1 := 11) (by decide) (by decide) (by decide) hXB hB.1
    rw [a, b, if_neg one_ne0, if_neg one_ne0, f1, bd_s, e1, bd_s]
    dsimp only
    rw [g1.2.2.1, h1.2.2.1]
    exact R2_fin hB hr g1 h1 g2.R h2.S
def awN (A : Ld) : Nat → Int32
  | 0 => 0
  | j + 1 => if ha (ls A j) = goalN (lo A) (ls A j) then awN A j else awN A j ||| (1 <<< (nI j &&& 31))
theorem hb_away_l {x : XD} {A : Ld} (hX : LnX x 10 A) (hV : VA A) : ∀ (k n j : Nat), j + k = ln A → k < n → b_Hb_away_4 n (awN A j) (nI j) x = some (awN A (ln A), x) := by
  have h7 := hV.1
  intro k
  induction k with
  | zero =>
    intro n j hj hn
    obtain ⟨n, rfl⟩ : ∃ m, n = m + 1 := ⟨n - 1, by omega⟩
    rw [b_Hb_away_4, hX.1, if_pos (nI_le (by omega) (by omega)), show j = ln A by omega]
  | succ k ih =>
    intro n j hj hn
    obtain ⟨n, rfl⟩ : ∃ m, n = m + 1 := ⟨n - 1, by omega⟩
    have hi := ih n (j + 1) (by omega) (by omega)
    rw [awN] at hi
    rw [b_Hb_away_4, hX.1]
    simp only [n_le (show ln A < 2147483648 by omega) (show j < 2147483648 by omega)]
    rw [if_neg (by omega), gI_n (show j < 7 by omega) (by omega), sid10 (by omega), hX.2.1, st_rests_n (LnX_s hX (by omega)) (hV.2.2 j (by omega)) hV.2.1, bd_s]
    simp only
    by_cases c : ha (ls A j) = goalN (lo A) (ls A j)
    · rw [if_pos c] at hi ⊢
      rw [if_neg one_ne0, b_Hb_away_43, show (1 : Int32) = nI 1 from rfl, n_add]
      exact hi
    · rw [if_neg c] at hi ⊢
      rw [if_pos rfl, b_Hb_away_43, show nI j + 1 = nI (j + 1) from n_add j 1]
      exact hi
theorem mo_away_l {m : MD} {A : Ld} (hL : LnM m A) (hV : VA A) : ∀ (k n j : Nat), j + k = ln A → k < n → b_Mo_away_9 n (awN A j) (nI j) m = some (awN A (ln A), m) := by
  have h7 := hV.1
  intro k
  induction k with
  | zero =>
    intro n j hj hn
    obtain ⟨n, rfl⟩ : ∃ m, n = m + 1 := ⟨n - 1, by omega⟩
    rw [b_Mo_away_9, hL.1, if_pos (nI_le (by omega) (by omega)), show j = ln A by omega]
  | succ k ih =>
    intro n j hj hn
    obtain ⟨n, rfl⟩ : ∃ m, n = m + 1 := ⟨n - 1, by omega⟩
    have hi := ih n (j + 1) (by omega) (by omega)
    rw [awN] at hi
    have hsj := hL.2.2.2 j (by omega)
    have hVj := hV.2.2 j (by omega)
    have h4 := hVj.2.2.2.1
    have hg := goal_le hVj hV.2.1
    rw [b_Mo_away_9, hL.1]
    simp only [n_le (show ln A < 2147483648 by omega) (show j < 2147483648 by omega)]
    rw [if_neg (by omega), gI_n (show j < 7 by omega) (by omega), mo_goal_n hsj hVj (by omega) hV.2.1 hL.2.1, bd_s]
    simp only [n_nat (show j < 2147483648 by omega), hsj.2.2.2.1, n_eq (show ha (ls A j) < 2147483648 by omega) (show goalN (lo A) (ls A j) < 2147483648 by omega)]
    by_cases c : ha (ls A j) = goalN (lo A) (ls A j)
    · rw [if_pos c] at hi ⊢
      rw [b_Mo_away_39, Int32.or_zero, show (1 : Int32) = nI 1 from rfl, n_add]
      exact hi
    · rw [if_neg c] at hi ⊢
      rw [b_Mo_away_39, show nI j + 1 = nI (j + 1) from n_add j 1]
      exact hi
theorem op_away : St2 IV f_Hb_away f_Mo_away := by
  intro x m ⟨A, hV, hX, hM, hr⟩
  show R2 _ _
  unfold f_Hb_away f_Mo_away
  refine R2_14 hM hr fun m hM hr => ?_
  have h7 := hV.1
  exact R2_eq ⟨A, hV, hX, hM, hr⟩ _ (hb_away_l hX hV (ln A) fu 0 (by omega) (by show ln A < 1000; omega)) (mo_away_l hM hV (ln A) fu 0 (by omega) (by show ln A < 1000; omega))

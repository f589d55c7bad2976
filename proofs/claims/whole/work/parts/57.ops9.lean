/-! Forged, lands: both sides. -/
theorem draw_mask (s : Int32) : ∃ n, n < 2147483648 ∧ s &&& 2147483647 = nI n := by
  refine ⟨(s &&& 2147483647).toBitVec.toNat, ?_, ?_⟩
  · rw [Int32.toBitVec_and, BitVec.toNat_and]
    have h : (Int32.toBitVec 2147483647).toNat = 2 ^ 31 - 1 := by decide
    rw [h, Nat.and_two_pow_sub_one_eq_mod]
    exact Nat.mod_lt _ (by omega)
  · apply Int32.toBitVec_inj.mp
    show _ = BitVec.ofNat 32 _
    rw [BitVec.ofNat_toNat, BitVec.setWidth_eq]
theorem draw_n (s : Int32) : ∃ y, y ≤ 20 ∧ x_rem ((s &&& 2147483647) / 65536) 21 = nI y := by
  obtain ⟨n, hn, e⟩ := draw_mask s
  have h1 : n / 65536 ≤ n := Nat.div_le_self _ _
  refine ⟨n / 65536 % 21, by omega, ?_⟩
  rw [e, show (65536 : Int32) = nI 65536 from rfl, n_div hn (by omega), show (21 : Int32) = nI 21 from rfl, n_rem (by omega) (by omega)]
theorem LnX_st3 {x : XD} {A : Ld} {o h y : Nat} (ho : 10 ≤ o ∧ o < 16) (hX : LnX x o A) (hl : h < ln A) (h7 : h < 7) : LnX (x_up x (22 + 7 * (o - 10) + h) 3 (nI y)) o (setS A h (atS y (ls A h))) :=
  LnX_set ho hX h7 (xst_up3 (hX.2.2.2 h hl)) frO.up
/-- the draws of a land, both sides: the same numbers -/
theorem draws_l {A : Ld} {v1 v3 v6 v7 v8 w4 w5 : Int32} (h7 : ln A ≤ 7) : ∀ (k n j : Nat) (s : Int32) (x : XD) (m : MD) (A' : Ld), j + k = ln A → k < n → ln A' = ln A → VA A' → LnX x 12 A' → LnM m A' → LkM m 98 A → m.1 83 33 = s → ∃ s' x' m' A'', (∀ K, b_Hb_lands_57 K v1 v3 v6 v7 v8 n s (nI j) x = (f_La_pass 12 10 x').bind fun p2 => ((f_La_allLonging 12 p2.2).bind fun p3 => ((f_La_allResting 12 p3.2).bind fun p4 => (K s' (v6 + p3.1) (v7 + p4.1) (v8 + 1) p4.2)))) ∧ frX x x' ∧ (∀ K, b_Mo_lands_53 K v1 v3 w4 w5 n (nI j) m = (f_Mo_goDays 10 m').bind fun p2 => ((if v3 = 0 then (f_Mo_allLonging p2.2).bind fun p5 => (b_Mo_lands_104 K v1 v3 w5 w4 p5.1 p5.2) else (f_Mo_atGoals p2.2).bind fun p4 => (b_Mo_lands_104 K v1 v3 w5 w4 p4.1 p4.2)))) ∧ ln A'' = ln A ∧ VA A'' ∧ LnX x' 12 A'' ∧ LnM m' A'' ∧ LkM m' 98 A ∧ m'.1 83 33 = s' ∧ frS m m' := by
  intro k
  induction k with
  | zero =>
    intro n j s x m A' hj hn hl hV' hX hM hK hs
    obtain ⟨n, rfl⟩ : ∃ m, n = m + 1 := ⟨n - 1, by omega⟩
    refine ⟨s, x, m, A', fun K => ?_, frX.rf, fun K => ?_, hl, hV', hX, hM, hK, hs, frS.rf⟩
    · rw [b_Hb_lands_57, hX.1, if_pos (nI_le (by omega) (by omega))]
    · rw [b_Mo_lands_53, hM.1, if_pos (nI_le (by omega) (by omega))]
  | succ k ih =>
    intro n j s x m A' hj hn hl hV' hX hM hK hs
    obtain ⟨n, rfl⟩ : ∃ m, n = m + 1 := ⟨n - 1, by omega⟩
    obtain ⟨y, hy, ey⟩ := draw_n (s * 1103515245 + 12345)
    have hX1 := LnX_st3 (o := 12) (y := y) (by decide) hX (show j < ln A' by omega) (by omega)
    have e33 : (x_up m.1 83 33 (s * 1103515245 + 12345)) 83 33 = s * 1103515245 + 12345 := x_up_at
    have hM0 : LnM (x_up m.1 83 33 (s * 1103515245 + 12345), m.2) A' := LnM_83 hM (by decide)
    have hM1 : LnM (x_up (x_up m.1 83 33 (s * 1103515245 + 12345)) 87 j (nI y), m.2) (setS A' j (atS y (ls A' j))) := LnM_87 hM0
    have hV1 : VA (setS A' j (atS y (ls A' j))) := setS_V hV' (atS_V (hV'.2.2 j (by omega)) hy)
    have hK1 : LkM (x_up (x_up m.1 83 33 (s * 1103515245 + 12345)) 87 j (nI y), m.2) 98 A := by
      unfold LkM
      dsimp only
      rw [x_up_ne (show ¬ 98 = 87 by decide), x_up_ne (show ¬ 98 = 83 by decide)]
      exact hK
    obtain ⟨s', x', m', A'', p1, p2, p3, p4, p5, p6, p7, p8, p9, p10⟩ := ih n (j + 1) (s * 1103515245 + 12345) _ _ _ (by omega) (by omega) (show ln (setS A' j (atS y (ls A' j))) = ln A from hl) hV1 hX1 hM1 hK1 (by
      dsimp only
      rw [x_up_ne (show ¬ 83 = 87 by decide), x_up_at])
    refine ⟨s', x', m', A'', fun K => ?_, ((frO.up (o := 22 + 7 * (12 - 10) + j)).X (by omega)).tr p2, fun K => ?_, p4, p5, p6, p7, p8, p9, ((frS.up (a := 83) (j := 33) (v := s * 1103515245 + 12345) (Or.inl (by decide)) (fun _ => by decide)).tr (frS.up (m := (x_up m.1 83 33 (s * 1103515245 + 12345), m.2)) (a := 87) (j := j) (v := nI y) (Or.inl (by decide)) (fun e => absurd e (by decide)))).tr p10⟩
    · rw [← p1 K, b_Hb_lands_57, hX.1]
      simp only [n_le (show ln A' < 2147483648 by omega) (show j < 2147483648 by omega)]
      rw [if_neg (by omega), gI_n (by omega) (by omega), sid_n (by omega), lt_e, ey, show nI j + 1 = nI (j + 1) from n_add j 1]
    · rw [← p3 K, b_Mo_lands_53, hM.1]
      simp only [n_le (show ln A' < 2147483648 by omega) (show j < 2147483648 by omega)]
      rw [if_neg (by omega)]
      have ed : f_Mo_drawBelow 21 m = some (nI y, (x_up m.1 83 33 (s * 1103515245 + 12345), m.2)) := by
        unfold f_Mo_drawBelow
        rw [lt_e, if_neg (by decide), hs]
        dsimp only
        rw [e33, ey]
      rw [ed, bd_s]
      dsimp only
      rw [gI_n (by omega) (by omega), n_nat (by omega), lt_e, show nI j + 1 = nI (j + 1) from n_add j 1]
theorem LkM_S33 {m m' : MD} {A : Ld} (h : LkM m 98 A) (f : m'.1 98 = m.1 98) : LkM m' 98 A := by
  unfold LkM
  rw [f]
  exact h
theorem lands_l {A : Ld} {c : Nat} {v3 : Int32} (hV : VA A) (hc : c ≤ 20) : ∀ (k n j : Nat) (s v6 v7 v4 : Int32) (x : XD) (m : MD), j + k = c → k < n → LnX x 10 A → LnM m A → LkM m 98 A → m.1 83 33 = s → v4 = (if v3 = 0 then v6 else v7) → ∃ r x' m', b_Hb_lands_39 (nI c) v3 n s v6 v7 (nI j) x = some (r, x') ∧ frX x x' ∧ b_Mo_lands_44 (nI c) v3 n v4 (nI j) m = some (r, m') ∧ LnM m' A ∧ frS m m' := by
  have h7 := hV.1
  intro k
  induction k with
  | zero =>
    intro n j s v6 v7 v4 x m hj hn hX hM hK hs hv
    obtain ⟨n, rfl⟩ : ∃ m, n = m + 1 := ⟨n - 1, by omega⟩
    refine ⟨v4, x, m, ?_, frX.rf, ?_, hM, frS.rf⟩
    · rw [b_Hb_lands_39, if_pos (nI_le (by omega) (by omega)), hv]
      split <;> rfl
    · rw [b_Mo_lands_44, if_pos (nI_le (by omega) (by omega))]
  | succ k ih =>
    intro n j s v6 v7 v4 x m hj hn hX hM hK hs hv
    obtain ⟨n, rfl⟩ : ∃ m, n = m + 1 := ⟨n - 1, by omega⟩
    obtain ⟨x1, e1, a1, f1⟩ := la_become_n (o := 12) (o1 := 10) (x := x) (by decide) (by decide) (by decide) hX h7
    have fX1 : frX x x1 := f1.X (by omega)
    obtain ⟨s', x2, m2, A2, p1, p2, p3, p4, p5, p6, p7, p8, p9, p10⟩ := draws_l (v1 := nI c) (v3 := v3) (v6 := v6) (v7 := v7) (v8 := nI j) (w4 := v4) (w5 := nI j) h7 (ln A) fu 0 s x1 m A (by omega) (by show ln A < 1000; omega) rfl hV a1 hM hK hs
    obtain ⟨x3, e3, a3, f3⟩ := la_pass_n (m := 10) (by decide) p6 p5 (by omega)
    have e4 := la_allLonging_n a3 (pass_V (m := 10) p5)
    have e5 := la_allResting_n a3 (pass_V (m := 10) p5)
    obtain ⟨m3, g3, b3, k3⟩ := mo_goDays_n (c := 10) (by omega) p7 p5
    have g4 := mo_allLonging_n b3 (pass_V (m := 10) p5)
    have g5 := mo_atGoals_n b3 (pass_V (m := 10) p5)
    obtain ⟨m4, g6, b4, hK4, k4⟩ := mo_close_n (LkM_B (by omega) p8 k3.B) h7
    have e33 : m4.1 83 33 = s' := (k4.2.2 33 (by omega) (by omega) (by omega) (by omega) (by omega)).trans ((k3.2.2 33 (by omega) (by omega) (by omega)).trans p9)
    have fX : frX x x3 := (fX1.tr p2).tr (f3.X (by omega))
    have fM : frS m m4 := (p10.tr k3.B.S).tr k4.S
    obtain ⟨r, x', m', q1, q2, q3, q4, q5⟩ := ih n (j + 1) s' (v6 + nI (sumK hlo (ls (passA 10 A2)) (ln (passA 10 A2)))) (v7 + nI (sumK (restN (lo (passA 10 A2))) (ls (passA 10 A2)) (ln (passA 10 A2)))) (v4 + (if v3 = 0 then nI (sumK hlo (ls (passA 10 A2)) (ln (passA 10 A2))) else nI (sumK (restN (lo (passA 10 A2))) (ls (passA 10 A2)) (ln (passA 10 A2))))) x3 m4 (by omega) (by omega) (LnX_X hX hV fX) b4 hK4 e33 (by
      rw [hv]
      split <;> rfl)
    refine ⟨r, x', m', ?_, fX.tr q2, ?_, q4, fM.tr q5⟩
    · rw [b_Hb_lands_39]
      simp only [n_le (show c < 2147483648 by omega) (show j < 2147483648 by omega)]
      rw [if_neg (by omega), e1, bd_s]
      dsimp only
      rw [show (0 : Int32) = nI 0 from rfl, p1, show (10 : Int32) = nI 10 from rfl, e3, bd_s]
      dsimp only
      rw [e4, bd_s]
      dsimp only
      rw [e5, bd_s, show nI j + 1 = nI (j + 1) from n_add j 1]
      exact q1
    · rw [b_Mo_lands_44]
      simp only [n_le (show c < 2147483648 by omega) (show j < 2147483648 by omega)]
      rw [if_neg (by omega), show b_Mo_lands_53 (b_Mo_lands_44 (nI c) v3 n) (nI c) v3 v4 (nI j) fu 0 m = b_Mo_lands_53 (b_Mo_lands_44 (nI c) v3 n) (nI c) v3 v4 (nI j) fu (nI 0) m from rfl, p3, show (10 : Int32) = nI 10 from rfl, g3, bd_s]
      dsimp only
      rw [g4, g5, bd_s, bd_s]
      simp only [b_Mo_lands_104, g6, bd_s, show nI j + 1 = nI (j + 1) from n_add j 1]
      rw [← q3]
      split <;> rfl
theorem op_lands (a1 a2 a3 : Int32) : St2 IV (f_Hb_lands a1 a2 a3) (f_Mo_lands a1 a2 a3) := by
  intro x m ⟨A, hV, hX, hM, hr⟩
  show R2 _ _
  unfold f_Hb_lands f_Mo_lands
  refine R2_14 hM hr fun m hM hr => ?_
  have hI : IV x m := ⟨A, hV, hX, hM, hr⟩
  refine g_in 1 20 rfl rfl (by decide) (by decide) (by omega) (fail2 hI) fun c _ hc e => pass2 ?_
  refine g_either (fail2 hI) fun _ => pass2 ?_
  subst e
  have hM0 : LnM (x_up m.1 83 33 a2, m.2) A := LnM_83 hM (by decide)
  obtain ⟨m1, g1, b1, k1, l1⟩ := mo_open_n hM0 hV.1
  have e33 : m1.1 83 33 = a2 := (l1.2.2 33 (by omega) (by omega) (by omega) (by omega) (by omega)).trans (show x_up m.1 83 33 a2 83 33 = a2 from x_up_at)
  obtain ⟨r, x', m', p1, p2, p3, p4, p5⟩ := lands_l (v3 := a3) hV hc c fu 0 a2 0 0 0 x m1 (by omega) (by show c < 1000; omega) hX b1 k1 e33 (by split <;> rfl)
  refine R2_in (r := r) hV hr hX p1 p2 ?_ p4 (((frS.up (a := 83) (j := 33) (v := a2) (Or.inl (by decide)) (fun _ => by decide)).tr (l1.S (by omega) (by omega))).tr p5)
  dsimp only
  rw [lt_e, g1, bd_s]
  exact p3

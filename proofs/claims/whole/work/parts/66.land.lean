/-! The text of a land: what statements do, both sides. -/
theorem dec1 {e : Nat → Int32} {i : Nat} : decN e 1 i 0 = dvN e i := by
  show 10 * 0 + dvN e i = dvN e i
  omega
theorem dec2 {e : Nat → Int32} {i : Nat} : decN e 2 i 0 = 10 * dvN e i + dvN e (i + 1) := by
  show 10 * (10 * 0 + dvN e i) + dvN e (i + 1) = _
  omega
theorem x_dig {x : XD} {d i N : Nat} {e : Nat → Int32} (hX : TXx x d e N) (hN : N ≤ 100) (g : gdB e N i) : f_Sh_digit (67 + d) (nI i) x = some (nI (dvN e i), x) := by
  have h := dv_is g.2
  have hi : i < N := g.1
  unfold f_Sh_digit
  rw [gI_n (by omega) (by omega), x_el hX (by omega), h.1, show (48 : Int32) = nI 48 from rfl, n_sub (by omega)]
  refine congrArg (fun z => some (nI z, x)) ?_
  omega
theorem x_num {x : XD} {d i N : Nat} {e : Nat → Int32} (hX : TXx x d e N) (hN : N ≤ 100) (g : gdB e N i) (g2 : gdB e N (i + 1)) : f_Sh_number (67 + d) (nI i) x = some (nI (10 * dvN e i + dvN e (i + 1)), x) := by
  unfold f_Sh_number
  rw [x_dig hX hN g, bd_s]
  dsimp only
  rw [show nI i + 1 = nI (i + 1) from n_add i 1, x_dig hX hN g2, bd_s]
  dsimp only
  rw [show (10 : Int32) = nI 10 from rfl, n_mul, n_add]
theorem n_rngh {n a : Nat} (hn : n ≤ 7) (ha : a < 1000) : rng 0 (nI n - 1) (nI a) = if a < n then 1 else 0 := by
  rcases rng_01 (a := 0) (b := nI n - 1) (v := nI a) with z | z
  · rw [z]
    by_cases c : a < n
    · exfalso
      have : rng 0 (nI n - 1) (nI a) = 1 := by
        obtain ⟨k, rfl⟩ : ∃ k, n = k + 1 := ⟨n - 1, by omega⟩
        rw [show nI (k + 1) - 1 = nI k from by rw [show (1 : Int32) = nI 1 from rfl, n_sub (by omega)]; rfl]
        exact rng_of (a := 0) (b := k) (Nat.zero_le a) (by omega) (by omega)
      rw [z] at this
      exact absurd this (by decide)
    · rw [if_neg c]
  · rw [z]
    obtain ⟨i, hi, e⟩ := rng_horse hn z
    have : a = i := by
      have h := e
      rw [n_eq (by omega) (by omega)] at h
      exact h
    rw [if_pos (by omega)]
theorem lo_V {s : Hs} {v : Nat} (h : VH s) (hv : v ≤ 99) : VH (loS v s) := loS_V h hv
section FO
variable {x : XD} {m : MD} {A : Ld} {d p N k : Nat} {e : Nat → Int32}
/-- a statement is followed -/
theorem fo_n (hd : d < 8) (hN : N ≤ 100) (hk : k ≤ 50) (hXt : TXx x d e N) (hV : VA A) (hX : LnX x 12 A) (hM : LnM m A) (hp : p < N) (hb : dBn (e p) ≠ 0) (hs : sc e N (dBn (e p)) (p + 1) = p + 1 + dBn (e p)) (h96 : m.1 96 k = e p) (hT : TD e m k p (e p)) : ∃ r x' m', f_La_follow 12 (67 + d) (nI p) x = some (r, x') ∧ f_Mo_comesTold (nI k) m = some (r, m') ∧ frL 12 x x' ∧ frM m m' ∧ (r = 0 ∨ (r = 1 ∧ ∃ A', VA A' ∧ LnX x' 12 A' ∧ LnM m' A')) := by
  have h7 := hV.1
  have hL := dB_le (e p)
  have g : ∀ t, t < dBn (e p) → gdB e N (p + 1 + t) := sc_all _ _ hs
  have hL2 : 2 ≤ dBn (e p) := by
    rcases dB_cases (e p) with q | q | q | q | q | q
    · exact absurd q.1 hb
    · rw [q]; decide
    · rw [q]; decide
    · rw [q]; decide
    · rw [q]; decide
    · rw [q]; decide
  have g0 : gdB e N (p + 1) := g 0 (by omega)
  have g1 : gdB e N (p + 1 + 1) := g 1 (by omega)
  have v0 := (dv_is g0.2).2
  have v1 := (dv_is g1.2).2
  have w1 : nI p + 1 = nI (p + 1) := n_add p 1
  have w2 : nI p + 2 = nI (p + 1 + 1) := n_add p 2
  have w3 : nI p + 3 = nI (p + 1 + 1 + 1) := n_add p 3
  have w5 : nI p + 5 = nI (p + 5) := n_add p 5
  have k4 : (4 : Int32) * nI k = nI (4 * k) := n_mul 4 k
  have ka : nI (4 * k) + 1 = nI (4 * k + 1) := n_add _ 1
  have kb : nI (4 * k) + 2 = nI (4 * k + 2) := n_add _ 2
  have kc : nI (4 * k) + 3 = nI (4 * k + 3) := n_add _ 3
  have xel : x (67 + d + 8) (nI p).toNatClampNeg = e p := x_el hXt (by omega)
  -- the heads
  have hXh : f_La_follow 12 (67 + d) (nI p) x = (if e p = 100 then (f_Sh_number (67 + d) (nI (p + 1)) x).bind fun p5 => ((f_La_followDays 12 p5.1 p5.2).bind fun p6 => (gB p6.1 (some (p6.1, p6.2)))) else (if e p = 104 then (f_La_followHorse 12 (67 + d) (nI p) x).bind fun p9 => (gB p9.1 (some (p9.1, p9.2))) else (if e p = 108 then (f_Sh_number (67 + d) (nI (p + 1 + 1)) x).bind fun p12 => ((f_La_followLonging 12 (nI (dvN e (p + 1))) p12.1 p12.2).bind fun p13 => (gB p13.1 (some (p13.1, p13.2)))) else (if e p = 111 then (f_Sh_number (67 + d) (nI (p + 1)) x).bind fun p16 => ((f_La_followOats 12 p16.1 p16.2).bind fun p17 => (gB p17.1 (some (p17.1, p17.2)))) else ((f_Sh_number (67 + d) (nI (p + 1 + 1)) x).bind fun p19 => ((if p19.2 12 2 ≤ nI (dvN e (p + 1)) then some (0, p19.2) else (f_Hb_isYard p19.1 p19.2).bind fun p21 => ((if p21.1 = 0 then some (0, p21.2) else (f_La_ride 12 (nI (dvN e (p + 1))) p19.1 p21.2).bind fun p23 => ((f_La_hasDays 12 0 p23.2).bind fun p24 => (gB p24.1 (some (p24.1, p24.2))))))))))))) := by
    unfold f_La_follow
    rw [w1, x_dig hXt hN g0, bd_s]
    dsimp only
    rw [gI_n (by omega) (by omega), lt_e, w2]
    simp only [xel]
  have hMh : f_Mo_comesTold (nI k) m = (if e p = 100 then (f_Mo_daysCome (m.1 97 (4 * k)) m).bind fun p6 => (gB p6.1 (some (p6.1, p6.2))) else (if e p = 104 then (f_Mo_horseComes (m.1 97 (4 * k)) (m.1 97 (4 * k + 1)) (m.1 97 (4 * k + 2)) (m.1 97 (4 * k + 3)) m).bind fun p11 => (gB p11.1 (some (p11.1, p11.2))) else (if e p = 111 then (f_Mo_isYard (m.1 97 (4 * k)) m).bind fun p14 => ((if p14.1 = 0 then b_Mo_comesTold_159 p14.1 (p14.2.1 83 6) p14.2 else b_Mo_comesTold_159 p14.1 (m.1 97 (4 * k)) p14.2)) else (if e p = 114 then (f_Mo_isHorse (m.1 97 (4 * k)) m).bind fun p17 => ((if p17.1 = 0 then some (0, p17.2) else (f_Mo_isYard (m.1 97 (4 * k + 1)) p17.2).bind fun p19 => ((if p19.1 = 0 then some (0, p19.2) else (f_Mo_ride (m.1 97 (4 * k)) (m.1 97 (4 * k + 1)) p19.2).bind fun p21 => ((if 999 < p21.2.1 83 7 then some (0, p21.2) else some (1, p21.2))))))) else ((f_Mo_isHorse (m.1 97 (4 * k)) m).bind fun p23 => ((if p23.1 = 0 then gB p23.1 (some (p23.1, p23.2)) else gI (m.1 97 (4 * k)) 7 (lt ((x_up p23.2.1 88 (m.1 97 (4 * k)).toNatClampNeg (m.1 97 (4 * k + 1)), p23.2.2)) fun (m26 : MD) => gB p23.1 (some (p23.1, m26)))))))))) := by
    unfold f_Mo_comesTold
    rw [k4, ka, kb, kc, gI_n (by omega) (by omega), gI_n (by omega) (by omega), gI_n (by omega) (by omega), gI_n (by omega) (by omega), gI_n (by omega) (by omega), n_nat (by omega), n_nat (by omega), n_nat (by omega), n_nat (by omega), n_nat (by omega), lt_e]
    simp only [h96]
  obtain ⟨t1, t2, t3⟩ := hT
  rw [hXh, hMh]
  have mYN := fun (v : Nat) (hv : v < 1000) (m' : MD) => mo_yard_n (m := m') (v := v) hv
  have xYN := fun (v : Nat) (hv : v < 1000) (x' : XD) => hb_yard_n (x := x') (v := v) hv
  have mHN := fun (v : Nat) (hv : v < 1000) => show f_Mo_isHorse (nI v) m = some (if v < ln A then 1 else 0, m) from by rw [mo_isHorse_r, hM.1, n_rngh h7 hv]
  rcases dB_cases (e p) with q | q | q | q | q | q
  · exact absurd q.1 hb
  · -- days
    have td := t3 (Or.inr q)
    rw [dec2] at td
    rw [if_pos q, if_pos q, td, x_num hXt hN g0 g1, bd_s]
    generalize hv : 10 * dvN e (p + 1) + dvN e (p + 1 + 1) = v
    have hv2 : v ≤ 99 := by omega
    dsimp only
    unfold f_La_followDays
    rw [hb_within, bd_s]
    rcases rng_01 (a := 1) (b := 60) (v := nI v) with z | z
    · rw [z, if_pos rfl, bd_s, mo_daysCome_0 z, bd_s]
      exact ⟨0, x, m, gB_0, gB_0, frL.rf, frM.rf, Or.inl rfl⟩
    · obtain ⟨w, h1, h2, h3⟩ := rng_natg (a := 1) (b := 60) (by omega) (by omega) z
      rw [z, if_neg one_ne0, hasDays_n hX, bd_s]
      by_cases c : 999 < ldy A + nI v
      · rw [if_pos c, mo_daysCome_1 hM z c, bd_s, if_pos rfl, bd_s]
        exact ⟨0, x, m, gB_0, gB_0, frL.rf, frM.rf, Or.inl rfl⟩
      · rw [if_neg c, if_neg one_ne0]
        rw [h3] at c ⊢
        obtain ⟨m', e1, a1, f1⟩ := mo_daysCome_2 hM hV ⟨h1, h2⟩ c
        obtain ⟨x', e2, a2, f2⟩ := la_pass_n (o := 12) (m := w) (by decide) hX hV (by omega)
        rw [e1, bd_s, e2, bd_s, bd_s]
        exact ⟨1, x', m', gB_1, gB_1, f2, f1, Or.inr ⟨rfl, passA w A, pass_V hV, a2, a1⟩⟩
  · -- a horse
    have hL6 : dBn (e p) = 6 := by rw [q]; rfl
    have g2 : gdB e N (p + 1 + 1 + 1) := g 2 (by omega)
    have g3 : gdB e N (p + 1 + 1 + 1 + 1) := g 3 (by omega)
    have g4 : gdB e N (p + 5) := by have := g 4 (by omega); rwa [show p + 1 + 4 = p + 5 by omega] at this
    have g5 : gdB e N (p + 5 + 1) := by have := g 5 (by omega); rwa [show p + 1 + 5 = p + 5 + 1 by omega] at this
    have u2 := (dv_is g2.2).2
    have u3 := (dv_is g3.2).2
    have u4 := (dv_is g4.2).2
    have u5 := (dv_is g5.2).2
    obtain ⟨ta, tb, tc, te⟩ := t1 q
    rw [dec1] at ta tb
    rw [dec2] at tc te
    have n1 : ¬ e p = 100 := by rw [q]; decide
    rw [if_neg n1, if_pos q, if_neg n1, if_pos q, ta, tb, tc, te]
    unfold f_La_followHorse
    rw [w1, w2, w3, w5, x_dig hXt hN g0, bd_s]
    dsimp only
    rw [x_num hXt hN g2 g3, bd_s]
    dsimp only
    rw [x_num hXt hN g4 g5, bd_s]
    dsimp only
    rw [show p + 3 = p + 1 + 1 + 1 from rfl, show p + 2 = p + 1 + 1 from rfl]
    generalize hva : dvN e (p + 1) = va at *
    generalize hvb : dvN e (p + 1 + 1) = vb at *
    generalize hvc : 10 * dvN e (p + 1 + 1 + 1) + dvN e (p + 1 + 1 + 1 + 1) = vc
    generalize hvd : 10 * dvN e (p + 5) + dvN e (p + 5 + 1) = vd
    have hK : f_Hb_isKind (nI va) x = some (if va < 8 then 1 else 0, x) := by
      rw [hb_isKind]
      unfold rng
      rw [show (7 : Int32) = nI 7 from rfl, if_neg (nneg (by omega))]
      simp only [n_lt (show 7 < 2147483648 by omega) (show va < 2147483648 by omega)]
      by_cases c : va < 8
      · rw [if_neg (by omega), if_pos c]
      · rw [if_pos (by omega), if_neg c]
    rw [hK, bd_s]
    dsimp only
    by_cases c1 : va < 8
    · rw [if_pos c1, if_neg one_ne0, xYN vc (by omega), bd_s]
      dsimp only
      by_cases c2 : vc ≤ 20
      · rw [if_pos c2, if_neg one_ne0, xYN vd (by omega), bd_s]
        dsimp only
        by_cases c3 : vd ≤ 20
        · rw [if_pos c3, if_neg one_ne0, gI_n (by omega) (by omega), x_dig hXt hN g1, bd_s]
          dsimp only
          rw [hvb]
          by_cases c4 : ln A < 7
          · obtain ⟨x', e1, a1, f1⟩ := la_gets_1 (o := 12) (k := va) (f := vb) (h := vc) (a := vd) (by decide) hX c4
            obtain ⟨m', e2, a2, f2⟩ := mo_come_1 (k := va) (f := vb) (h := vc) (a := vd) hM c1 c2 c3 c4
            rw [e1, bd_s, e2, bd_s]
            dsimp only
            rw [if_neg one_ne0, bd_s]
            exact ⟨1, x', m', gB_1, gB_1, f1, f2, Or.inr ⟨rfl, _, come_V hV ⟨c1, (show vb < 10 by omega), c2, c3, Nat.zero_le _⟩ c4, a1, a2⟩⟩
          · rw [la_gets_0 hX hV c4, bd_s, mo_come_0 hM hV (by omega) (by omega) (by omega) (fun z => c4 z.2.2.2), bd_s]
            dsimp only
            rw [if_pos rfl, bd_s]
            exact ⟨0, x, m, gB_0, gB_0, frL.rf, frM.rf, Or.inl rfl⟩
        · rw [if_neg c3, if_pos rfl, bd_s, mo_come_0 hM hV (by omega) (by omega) (by omega) (fun z => c3 z.2.2.1), bd_s]
          exact ⟨0, x, m, gB_0, gB_0, frL.rf, frM.rf, Or.inl rfl⟩
      · rw [if_neg c2, if_pos rfl, bd_s, mo_come_0 hM hV (by omega) (by omega) (by omega) (fun z => c2 z.2.1), bd_s]
        exact ⟨0, x, m, gB_0, gB_0, frL.rf, frM.rf, Or.inl rfl⟩
    · rw [if_neg c1, if_pos rfl, bd_s, mo_come_0 hM hV (by omega) (by omega) (by omega) (fun z => c1 z.1), bd_s]
      exact ⟨0, x, m, gB_0, gB_0, frL.rf, frM.rf, Or.inl rfl⟩
  · -- longing
    have hL3 : dBn (e p) = 3 := by rw [q]; rfl
    have g2 : gdB e N (p + 1 + 1 + 1) := g 2 (by omega)
    have u2 := (dv_is g2.2).2
    obtain ⟨ta, tb⟩ := t2 (Or.inr q)
    rw [dec1] at ta
    rw [dec2, show p + 2 = p + 1 + 1 from rfl] at tb
    rw [if_neg (by rw [q]; decide), if_neg (by rw [q]; decide), if_pos q, if_neg (by rw [q]; decide), if_neg (by rw [q]; decide), if_neg (by rw [q]; decide), if_neg (by rw [q]; decide), ta, tb, x_num hXt hN g1 g2, bd_s]
    dsimp only
    generalize dvN e (p + 1) = va at *
    generalize hvc : 10 * dvN e (p + 1 + 1) + dvN e (p + 1 + 1 + 1) = vc
    unfold f_La_followLonging
    rw [hX.1, mHN va (by omega), bd_s]
    simp only [n_lt (show va < 2147483648 by omega) (show ln A < 2147483648 by omega)]
    by_cases c : va < ln A
    · rw [if_pos c, if_pos c, gI_n (by omega) (by omega), lt_e, bd_s, if_neg one_ne0, gI_n (by omega) (by omega), n_nat (by omega), lt_e]
      refine ⟨1, x_up x (sid 12 (nI va)) 4 (nI vc), (x_up m.1 88 va (nI vc), m.2), gB_1, gB_1, ?_, frA.up.M (by omega) (by omega), Or.inr ⟨rfl, setS A va (loS vc (ls A va)), setS_V hV (loS_V (hV.2.2 va c) (by omega)), ?_, LnM_88 hM c⟩⟩
      · rw [sid_n (by omega)]
        exact (frO.T (o := 12) frO.up (by omega) (by omega)).L
      · rw [sid_n (by omega)]
        exact LnX_set (by decide) hX (by omega) (xst_up4 (hX.2.2.2 va c)) frO.up
    · rw [if_neg c, if_neg c, bd_s, if_pos rfl]
      exact ⟨0, x, m, gB_0, gB_0, frL.rf, frM.rf, Or.inl rfl⟩
  · -- oats
    have td := t3 (Or.inl q)
    rw [dec2] at td
    rw [if_neg (by rw [q]; decide), if_neg (by rw [q]; decide), if_neg (by rw [q]; decide), if_pos q, if_neg (by rw [q]; decide), if_neg (by rw [q]; decide), if_pos q, td, x_num hXt hN g0 g1, bd_s]
    generalize hv : 10 * dvN e (p + 1) + dvN e (p + 1 + 1) = v
    dsimp only
    unfold f_La_followOats
    rw [xYN v (by omega), bd_s, mYN v (by omega), bd_s]
    dsimp only
    by_cases c : v ≤ 20
    · rw [if_pos c, if_neg one_ne0, if_neg one_ne0, lt_e, bd_s, b_Mo_comesTold_159, lt_e]
      exact ⟨1, x_up x 12 3 (nI v), (x_up m.1 83 6 (nI v), m.2), gB_1, gB_1, frL.up, frM.up (Or.inr (Or.inl rfl)), Or.inr ⟨rfl, oatA v A, oat_V hV c, LnX_oat hX h7 (by decide), LnM_oat hM⟩⟩
    · rw [if_neg c, if_pos rfl, if_pos rfl, bd_s, b_Mo_comesTold_159, lt_e]
      exact ⟨0, x, (x_up m.1 83 6 (m.1 83 6), m.2), gB_0, gB_0, frL.rf, frM.up (Or.inr (Or.inl rfl)), Or.inl rfl⟩
  · -- a ride
    have hL3 : dBn (e p) = 3 := by rw [q]; rfl
    have g2 : gdB e N (p + 1 + 1 + 1) := g 2 (by omega)
    have u2 := (dv_is g2.2).2
    obtain ⟨ta, tb⟩ := t2 (Or.inl q)
    rw [dec1] at ta
    rw [dec2, show p + 2 = p + 1 + 1 from rfl] at tb
    rw [if_neg (by rw [q]; decide), if_neg (by rw [q]; decide), if_neg (by rw [q]; decide), if_neg (by rw [q]; decide), if_neg (by rw [q]; decide), if_neg (by rw [q]; decide), if_neg (by rw [q]; decide), if_pos q, ta, tb, x_num hXt hN g1 g2, bd_s]
    dsimp only
    generalize dvN e (p + 1) = va at *
    generalize hvc : 10 * dvN e (p + 1 + 1) + dvN e (p + 1 + 1 + 1) = vc
    rw [mHN va (by omega), bd_s]
    dsimp only
    have hle : (x 12 2 ≤ nI va) = (ln A ≤ va) := by rw [hX.1, n_le (by omega) (by omega)]
    by_cases c : va < ln A
    · rw [if_neg (show ¬ x 12 2 ≤ nI va from by rw [hle]; omega), if_pos c, if_neg one_ne0, xYN vc (by omega), bd_s, mYN vc (by omega), bd_s]
      dsimp only
      by_cases c2 : vc ≤ 20
      · obtain ⟨x', e1, a1, f1⟩ := la_ride_n (o := 12) (by decide) hX hV c c2
        obtain ⟨m', e2, a2, f2⟩ := mo_ride_n hM hV c c2
        rw [if_pos c2, if_neg one_ne0, if_neg one_ne0, e1, bd_s, e2, bd_s]
        dsimp only
        rw [hasDays_n a1, bd_s, a2.2.2.1, Int32.add_zero]
        dsimp only
        by_cases c3 : 999 < ldy (rideA vc va A).2
        · rw [if_pos c3, if_pos c3]
          exact ⟨0, x', m', gB_0, rfl, f1, f2, Or.inl rfl⟩
        · rw [if_neg c3, if_neg c3]
          exact ⟨1, x', m', gB_1, rfl, f1, f2, Or.inr ⟨rfl, _, rideA_V c2 hV c, a1, a2⟩⟩
      · rw [if_neg c2, if_pos rfl, if_pos rfl]
        exact ⟨0, x, m, rfl, rfl, frL.rf, frM.rf, Or.inl rfl⟩
    · rw [if_pos (show x 12 2 ≤ nI va from by rw [hle]; omega), if_neg c, if_pos rfl]
      exact ⟨0, x, m, rfl, rfl, frL.rf, frM.rf, Or.inl rfl⟩
end FO
theorem land_l {A : Ld} {d N S : Nat} {e : Nat → Int32} (hV : VA A) (hd : d < 8) (hN : N ≤ 100) (hS : S ≤ 50) (hend : N ≤ posN e S) : ∀ (k n j : Nat) (x : XD) (m : MD) (A' : Ld), j + k = S → k < n → TXx x d e N → LnX x 10 A → VA A' → LnX x 12 A' → LnM m A' → LkM m 98 A → m.1 83 18 = nI S → PF e N m S → ∃ r x' m' A'', b_Hb_land_71 (67 + d) n (nI j) (nI (posN e j)) x = some (r, x') ∧ b_Mo_land_113 n (nI j) m = some (r, m') ∧ VA A'' ∧ LnX x' 10 A'' ∧ LnM m' A'' ∧ frR x x' ∧ frS m m' := by
  intro k
  induction k with
  | zero =>
    intro n j x m A' hj hn hXt hX hV' hX2 hM hK h18 hF
    obtain ⟨n, rfl⟩ : ∃ m, n = m + 1 := ⟨n - 1, by omega⟩
    obtain rfl : j = S := by omega
    obtain ⟨x', e1, a1, f1⟩ := la_become_n (o := 10) (o1 := 12) (x := x) (by decide) (by decide) (by decide) hX2 hV'.1
    refine ⟨nI j, x', m, A', ?_, ?_, hV', a1, hM, f1.R, frS.rf⟩
    · have hle : nI N ≤ nI (posN e j) := by
        have : ∀ i, posN e i ≤ 8 * i := fun i => by
          induction i with
          | zero => exact Nat.le_refl _
          | succ i ih =>
            have := dB_le (e (posN e i))
            show posN e i + dBn (e (posN e i)) + 2 ≤ _
            omega
        have := this j
        rw [n_le (by omega) (by omega)]
        exact hend
      rw [b_Hb_land_71, hXt.1, if_pos hle, e1, bd_s]
    · rw [b_Mo_land_113, h18, if_pos (nI_le (by omega) (by omega))]
  | succ k ih =>
    intro n j x m A' hj hn hXt hX hV' hX2 hM hK h18 hF
    obtain ⟨n, rfl⟩ : ∃ m, n = m + 1 := ⟨n - 1, by omega⟩
    obtain ⟨hp, hb, hs, h95, h96, hT⟩ := hF j (by omega)
    obtain ⟨r, x1, m1, e1, e2, f1, f2, hr⟩ := fo_n hd hN (show j ≤ 50 by omega) hXt hV' hX2 hM hp hb hs h96 hT
    have hbl := dB_le (e (posN e j))
    have fX : frX x x1 := f1.X (by omega)
    have k95 : m1.1 95 = m.1 95 := f2.2.1 95 (by omega)
    have k96 : m1.1 96 = m.1 96 := f2.2.1 96 (by omega)
    have k97 : m1.1 97 = m.1 97 := f2.2.1 97 (by omega)
    have hXt1 : TXx x1 d e N := by
      unfold TXx
      rw [fX (67 + d) (by omega), fX (75 + d) (by omega)]
      exact hXt
    have hK1 := LkM_B (by omega) hK f2.B
    have hnx : ¬ nI N ≤ nI (posN e j) := by
      rw [n_le (by omega) (by omega)]
      omega
    have hnm : ¬ nI S ≤ nI j := by
      rw [n_le (by omega) (by omega)]
      omega
    rcases hr with hr | ⟨hr, A2, hV2, hX3, hM2⟩
    · subst hr
      obtain ⟨m2, g3, b2, hK2, k2⟩ := mo_close_n hK1 hV.1
      refine ⟨-2000 - nI (posN e j), x1, m2, A, ?_, ?_, hV, LnX_X hX hV fX, b2, fX.R, f2.B.S.tr k2.S⟩
      · rw [b_Hb_land_71, hXt.1, if_neg hnx, e1, bd_s]
        dsimp only
        rw [if_pos rfl]
      · rw [b_Mo_land_113, h18, if_neg hnm, e2, bd_s]
        dsimp only
        rw [if_pos rfl, g3, bd_s, gI_n (by omega) (by omega), n_nat (by omega)]
        dsimp only
        rw [k2.2.1 95 (by omega), k95, h95]
    · subst hr
      obtain ⟨r, x', m', A'', p1, p2, p3, p4, p5, p6, p7⟩ := ih n (j + 1) x1 m1 A2 (by omega) (by omega) hXt1 (LnX_X hX hV fX) hV2 hX3 hM2 hK1 ((f2.2.2 18 (by omega) (by omega) (by omega)).trans h18) (PF_fr hF (fun i _ => by rw [k95, k96]; exact ⟨rfl, rfl⟩) (fun i _ => by rw [k97]))
      refine ⟨r, x', m', A'', ?_, ?_, p3, p4, p5, fX.R.tr p6, f2.B.S.tr p7⟩
      · rw [b_Hb_land_71, hXt.1, if_neg hnx, e1, bd_s]
        dsimp only
        rw [if_neg one_ne0, gI_n (by omega) (by omega), x_el hXt1 (by omega), hb_behind, bd_s]
        dsimp only
        rw [show nI (dBn (e (posN e j))) + 2 = nI (dBn (e (posN e j)) + 2) from n_add _ 2, n_add, show nI j + 1 = nI (j + 1) from n_add j 1, ← Nat.add_assoc]
        exact p1
      · rw [b_Mo_land_113, h18, if_neg hnm, e2, bd_s]
        dsimp only
        rw [if_neg one_ne0, show nI j + 1 = nI (j + 1) from n_add j 1]
        exact p2
theorem op_land (a1 : Int32) : St2 IV (f_Hb_land a1) (f_Mo_land a1) := by
  intro x m ⟨A, hV, hX, hM, hr⟩
  show R2 _ _
  unfold f_Hb_land f_Mo_land
  refine R2_14 hM hr fun m hM hr => ?_
  have hI : IV x m := ⟨A, hV, hX, hM, hr⟩
  rcases sh_row (v := a1) hr with ⟨c, hc, e3, e4⟩ | ⟨d, hd, ed, x0, m0, ⟨so, n, hR⟩, e3, e4⟩
  · rw [e3, e4, bd_s, bd_s]
    refine R2_eq hI c (if_neg (rfc_ne hc)) ?_
    dsimp only
    rw [if_neg (rfc_ne hc), b_Mo_land_29, b_Mo_land_30, if_neg (rfc_neg hc)]
  · rw [e3, e4, bd_s, bd_s, if_pos rfl, if_pos rfl]
    subst ed
    replace hR : Rw x m d so n := hR
    obtain ⟨r1, r2, r3, r4, r5, r6, r7⟩ := hR
    dsimp only
    rw [gI_n hd (by omega), hid_n hd, gI_n hd (by omega), n_nat (by omega)]
    by_cases hso : so = 0
    · have z1 : x (67 + d) 3 = 0 := by rw [r3, hso]; rfl
      have z2 : m.1 92 d = 0 := by rw [r4, hso]; rfl
      rw [if_pos z1, if_pos z2, b_Mo_land_29, b_Mo_land_30, if_pos (show (0 : Int32) ≤ 0 from by decide), lt_e, lt_e, lt_e, lt_e]
      have hXt : TXx x d (fun i => x (75 + d) i) n := ⟨r5, fun _ => rfl⟩
      have hP : PS (x_up (x_up (x_up (x_up m.1 83 15 (nI d)) 83 16 0) 83 17 0) 83 18 0, m.2) d (posN (fun i => x (75 + d) i) 0) 0 0 := by
        refine ⟨?_, ?_, ?_, ?_⟩
        · dsimp only
          rw [x_up_nj (by decide), x_up_nj (by decide), x_up_nj (by decide), x_up_at]
        · dsimp only
          rw [x_up_nj (by decide), x_up_nj (by decide), x_up_at]
          rfl
        · dsimp only
          rw [x_up_nj (by decide), x_up_at]
        · dsimp only
          rw [x_up_at]
          rfl
      have hTm : TXm (x_up (x_up (x_up (x_up m.1 83 15 (nI d)) 83 16 0) 83 17 0) 83 18 0, m.2) d (fun i => x (75 + d) i) n := by
        refine ⟨?_, r7⟩
        dsimp only
        rw [x_up_ne (by decide), x_up_ne (by decide), x_up_ne (by decide), x_up_ne (by decide)]
        exact r6
      have hM0 : LnM (x_up (x_up (x_up (x_up m.1 83 15 (nI d)) 83 16 0) 83 17 0) 83 18 0, m.2) A := LnM_83 (m := (x_up (x_up (x_up m.1 83 15 (nI d)) 83 16 0) 83 17 0, m.2)) (LnM_83 (m := (x_up (x_up m.1 83 15 (nI d)) 83 16 0, m.2)) (LnM_83 (m := (x_up m.1 83 15 (nI d), m.2)) (LnM_83 hM (by decide)) (by decide)) (by decide)) (by decide)
      have fS0 : frS m (x_up (x_up (x_up (x_up m.1 83 15 (nI d)) 83 16 0) 83 17 0) 83 18 0, m.2) := (((frS.up (a := 83) (j := 15) (v := nI d) (Or.inl (by decide)) (fun _ => by decide)).tr (frS.up (m := (x_up m.1 83 15 (nI d), m.2)) (a := 83) (j := 16) (v := 0) (Or.inl (by decide)) (fun _ => by decide))).tr (frS.up (m := (x_up (x_up m.1 83 15 (nI d)) 83 16 0, m.2)) (a := 83) (j := 17) (v := 0) (Or.inl (by decide)) (fun _ => by decide))).tr (frS.up (m := (x_up (x_up (x_up m.1 83 15 (nI d)) 83 16 0) 83 17 0, m.2)) (a := 83) (j := 18) (v := 0) (Or.inl (by decide)) (fun _ => by decide))
      obtain ⟨m1, e1, f1, h1⟩ := parse_l hd r2 hXt 100 fu fu 0 _ (by omega) (by decide) (by decide) (Nat.zero_le _) (Nat.zero_le _) (Or.inl rfl) hP hTm (fun j hj => absurd hj (Nat.not_lt_zero j))
      have hM1 : LnM m1 A := LnM_fr hM0 (fun k k1 k2 => f1.2.1 k (by omega) (by omega) (by omega) (by omega)) (fun j hj => f1.2.2.1 j (by omega) (by omega) (by omega))
      have fS1 : frS m m1 := fS0.tr ⟨by rw [f1.1], fun k k1 k2 => f1.2.1 k (by omega) (by omega) (by omega) (by omega), f1.2.1 101 (by omega) (by omega) (by omega) (by omega), f1.2.2.1 26 (by omega) (by omega) (by omega)⟩
      have e1' : b_Mo_land_57 (nI d) fu (x_up (x_up (x_up (x_up m.1 83 15 (nI d)) 83 16 0) 83 17 0) 83 18 0, m.2) = b_Mo_land_91 m1 := e1
      rw [e1']
      rcases h1 with ⟨q, S, hq, hx, hP1⟩ | ⟨S, hx, hP1, hS50, hend, hF⟩
      · have hx' : f_Hb_placeOfLack (67 + d) x = some (nI q, x) := hx
        refine R2_in (r := -1000 - nI q) hV hr hX ?_ frX.rf ?_ hM1 fS1
        · rw [hx', bd_s]
          dsimp only
          rw [if_neg]
          intro z
          have := pos_le (a := q) (by omega)
          rw [z] at this
          exact absurd this (by decide)
        · rw [b_Mo_land_91, if_neg (show ¬ m1.1 83 17 = 0 from by rw [hP1.2.2.1]; decide), hP1.2.1]
      · have hx' : f_Hb_placeOfLack (67 + d) x = some (-1, x) := hx
        obtain ⟨x2, e2, a2, f2⟩ := la_become_n (o := 12) (o1 := 10) (x := x) (by decide) (by decide) (by decide) hX hV.1
        obtain ⟨m2, e5, b2, k2, f5⟩ := mo_open_n hM1 hV.1
        have fX : frX x x2 := f2.X (by omega)
        have hXt2 : TXx x2 d (fun i => x (75 + d) i) n := ⟨by rw [fX (67 + d) (by omega)]; exact r5, fun i => by rw [fX (75 + d) (by omega)]⟩
        have hF2 : PF (fun i => x (75 + d) i) n m2 S := PF_fr hF (fun i _ => by rw [f5.2.1 95 (by omega) (by omega), f5.2.1 96 (by omega) (by omega)]; exact ⟨rfl, rfl⟩) (fun i _ => by rw [f5.2.1 97 (by omega) (by omega)])
        obtain ⟨r, x3, m3, A3, p1, p2, p3, p4, p5, p6, p7⟩ := land_l hV hd r2 hS50 hend S fu 0 x2 m2 A (by omega) (by show S < 1000; omega) hXt2 (LnX_X hX hV fX) hV a2 b2 k2 ((f5.2.2 18 (by omega) (by omega) (by omega) (by omega) (by omega)).trans hP1.2.2.2) hF2
        refine ⟨r, x3, m3, ?_, ?_, A3, p3, p4, p5, IVr_fr hr (fX.R.tr p6) ((fS1.tr (f5.S (by omega) (by omega))).tr p7)⟩
        · rw [hx', bd_s]
          dsimp only
          rw [if_pos rfl, e2, bd_s]
          exact p1
        · rw [b_Mo_land_91, if_pos (show m1.1 83 17 = 0 from hP1.2.2.1), e5, bd_s]
          exact p2
    · have z1 : ¬ x (67 + d) 3 = 0 := by
        rw [r3, show (0 : Int32) = nI 0 from rfl, n_eq (by omega) (by omega)]
        exact hso
      have z2 : ¬ m.1 92 d = 0 := by
        rw [r4, show (0 : Int32) = nI 0 from rfl, n_eq (by omega) (by omega)]
        exact hso
      refine R2_eq hI (-12) (if_neg z1) ?_
      rw [if_neg z2, b_Mo_land_30, if_neg (show ¬ (0 : Int32) ≤ -12 from by decide)]

/-! Forged chains, told rides: both sides. -/
theorem m166 {K : Int32 → Int32 → Int32 → MD → Option (Int32 × MD)} {v1 v4 v5 : Int32} {v6 v8 : Int64} {m : MD} : b_Mo_forged_166 K v1 v4 v5 v6 v8 m = K v5 v4 (v5 + 1) m := by
  unfold b_Mo_forged_166 b_Mo_forged_167 b_Mo_forged_181 b_Mo_forged_203
  rw [if_pos rfl, if_pos rfl]
theorem m162 {K : Int32 → Int32 → Int32 → MD → Option (Int32 × MD)} {v1 v4 v5 : Int32} {v6 v8 : Int64} {m : MD} : b_Mo_forged_162 K v1 v4 v5 v6 v8 m = (f_Mo_ride v6.toInt32 v8.toInt32 m).bind fun p2 => K (-4) v8.toInt32 (v5 + 1) p2.2 := by
  unfold b_Mo_forged_162 b_Mo_forged_167 b_Mo_forged_181 b_Mo_forged_203
  rw [if_neg one_ne0, if_neg one_ne0]
theorem forged_bad {A A' : Ld} {d so s k n : Nat} {c v4 : Int32} {m : MD} (hV : VA A) (hd : d < 8) (hk : k < s) (hs : s ≤ 50) (h93 : m.1 93 d = nI (2 * s)) (hK : LkM m 98 A) : ∃ m', b_Mo_forged_53 (nI d) (n + 1) (nI k) v4 (nI (k + 1)) m = some (nI k, m') ∧ LnM m' A ∧ frB m m' := by
  obtain ⟨m2, g3, b2, hK2, k2⟩ := mo_close_n hK hV.1
  refine ⟨m2, ?_, b2, k2⟩
  rw [b_Mo_forged_53, gI_n hd (by omega), if_pos (pos_le (by omega)), b_Mo_forged_209, g3, bd_s]
  split <;> rfl
theorem forged_l {A : Ld} {d so s : Nat} (hV : VA A) (hd : d < 8) : ∀ (k n j : Nat) (c : Int32) (x : XD) (m : MD) (A' : Ld), j + k = s → k + 1 < n → Rw x m d so (2 * s) → LnX x 10 A → LnX x 12 A' → VA A' → ln A' = ln A → LnM m A' → LkM m 98 A → ∃ r x' m', b_Hb_forged_54 (67 + d) n c (nI (2 * j)) x = some (r, x') ∧ frX x x' ∧ b_Mo_forged_53 (nI d) n (-4) c (nI j) m = some (r, m') ∧ LnM m' A ∧ frB m m' := by
  have h7 := hV.1
  intro k
  induction k with
  | zero =>
    intro n j c x m A' hj hn hR hX hX2 hV' hl hM hK
    obtain ⟨n, rfl⟩ : ∃ m, n = m + 1 := ⟨n - 1, by omega⟩
    obtain ⟨m2, g3, b2, hK2, k2⟩ := mo_close_n hK hV.1
    have h100 := hR.2.1
    refine ⟨-4, x, m2, ?_, frX.rf, ?_, b2, k2⟩
    · rw [b_Hb_forged_54, hR.2.2.2.2.1, if_pos]
      rw [show nI (2 * j) + 1 = nI (2 * j + 1) from n_add (2 * j) 1]
      exact nI_le (by omega) (by omega)
    · rw [b_Mo_forged_53, gI_n hd (by omega), n_nat (by omega), hR.2.2.2.2.2.1, show nI (2 * s) / 2 = nI (2 * s / 2) from n_div (a := 2 * s) (b := 2) (by omega) (by omega), if_pos (nI_le (by omega) (by omega)), b_Mo_forged_209, g3, bd_s]
  | succ k ih =>
    intro n j c x m A' hj hn hR hX hX2 hV' hl hM hK
    obtain ⟨n, rfl⟩ : ∃ m, n = m + 1 := ⟨n - 1, by omega⟩
    have h100 := hR.2.1
    have w1 : nI (2 * j) + 1 = nI (2 * j + 1) := n_add (2 * j) 1
    have w2 : nI (2 * j) + 2 = nI (2 * (j + 1)) := n_add (2 * j) 2
    have w3 : nI (2 * j) / 2 = nI j := by
      rw [show nI (2 * j) / 2 = nI (2 * j / 2) from n_div (a := 2 * j) (b := 2) (by omega) (by omega)]
      exact congrArg nI (by omega)
    have w4 : (2 : Int32) * nI j = nI (2 * j) := n_mul 2 j
    have w5 : nI (2 * s) / 2 = nI s := by
      rw [show nI (2 * s) / 2 = nI (2 * s / 2) from n_div (a := 2 * s) (b := 2) (by omega) (by omega)]
      exact congrArg nI (by omega)
    have eh := fun (v : Int32) (y : XD) (hy : y 10 2 = nI (ln A)) => show f_Hb_isHorse v y = some (rng 0 (nI (ln A) - 1) v, y) from by rw [hb_isHorse, hy]
    have mh := fun (v : Int32) => show f_Mo_in v.toInt64 0 ((m.1 83 0 - 1).toInt64) m = some (rng 0 (nI (ln A) - 1) v, m) from by rw [show (0 : Int64) = (0 : Int32).toInt64 from by decide, mo_in_r, hM.1, hl]
    have my := fun (v : Int32) => show f_Mo_in v.toInt64 0 20 m = some (rng 0 20 v, m) from by rw [show (0 : Int64) = (0 : Int32).toInt64 from by decide, show (20 : Int64) = (20 : Int32).toInt64 from by decide, mo_in_r]
    have eX : b_Hb_forged_54 (67 + d) (n + 1) c (nI (2 * j)) x = if rng 0 (nI (ln A) - 1) (x (75 + d) (2 * j)) = 0 then some (nI j, x) else if rng 0 20 (x (75 + d) (2 * j + 1)) = 0 then some (nI j, x) else if nI (2 * j) ≤ 0 then b_Hb_forged_128 (b_Hb_forged_54 (67 + d) n) (67 + d) (nI (2 * j)) (x (75 + d) (2 * j)) (x (75 + d) (2 * j + 1)) x else gI (x (75 + d) (2 * j)) 7 (if x (sid 12 (x (75 + d) (2 * j))) 3 = c then b_Hb_forged_128 (b_Hb_forged_54 (67 + d) n) (67 + d) (nI (2 * j)) (x (75 + d) (2 * j)) (x (75 + d) (2 * j + 1)) x else some (nI j, x)) := by
      rw [b_Hb_forged_54, hR.2.2.2.2.1, w1]
      simp only [n_le (show 2 * s < 2147483648 by omega) (show 2 * j + 1 < 2147483648 by omega)]
      rw [if_neg (by omega), gI_n (by omega) (by omega), gI_n (by omega) (by omega), n_nat (by omega), n_nat (by omega), show 67 + d + 8 = 75 + d by omega, eh _ x hX.1, bd_s]
      dsimp only
      rw [hb_isYard, bd_s, w3]
    have eM : b_Mo_forged_53 (nI d) (n + 1) (-4) c (nI j) m = if rng 0 (nI (ln A) - 1) (x (75 + d) (2 * j)) = 0 then b_Mo_forged_53 (nI d) n (nI j) c (nI (j + 1)) m else if rng 0 20 (x (75 + d) (2 * j + 1)) = 0 then b_Mo_forged_53 (nI d) n (nI j) c (nI (j + 1)) m else if nI j = 0 then (f_Mo_ride (x (75 + d) (2 * j)) (x (75 + d) (2 * j + 1)) m).bind fun p2 => b_Mo_forged_53 (nI d) n (-4) (x (75 + d) (2 * j + 1)) (nI (j + 1)) p2.2 else gI (x (75 + d) (2 * j)) 7 (if m.1 87 (x (75 + d) (2 * j)).toNatClampNeg = c then (f_Mo_ride (x (75 + d) (2 * j)) (x (75 + d) (2 * j + 1)) m).bind fun p2 => b_Mo_forged_53 (nI d) n (-4) (x (75 + d) (2 * j + 1)) (nI (j + 1)) p2.2 else b_Mo_forged_53 (nI d) n (nI j) c (nI (j + 1)) m) := by
      rw [b_Mo_forged_53, gI_n hd (by omega), n_nat (by omega), hR.2.2.2.2.2.1, w5]
      simp only [n_le (show s < 2147483648 by omega) (show j < 2147483648 by omega)]
      rw [if_neg (by omega), if_neg (show ¬ (0 : Int32) ≤ -4 from by decide), w4, n_100, show nI (100 * d + 2 * j) + 1 = nI (100 * d + 2 * j + 1) from n_add _ 1, gI_n (by omega) (by omega), gI_n (by omega) (by omega), n_nat (by omega), n_nat (by omega), lt_e, hR.2.2.2.2.2.2 (2 * j) (by omega), show 100 * d + 2 * j + 1 = 100 * d + (2 * j + 1) by omega, hR.2.2.2.2.2.2 (2 * j + 1) (by omega), mh, bd_s]
      dsimp only
      rw [my, bd_s]
      simp only [b_Mo_forged_136, b_Mo_forged_137, m166, m162, Int32.toInt32_toInt64, show nI j + 1 = nI (j + 1) from n_add j 1]
      by_cases q1 : rng 0 (nI (ln A) - 1) (x (75 + d) (2 * j)) = 0
      · rw [if_pos q1, if_pos q1, if_pos trivial]
      · rw [if_neg q1, if_neg q1]
        by_cases q2 : rng 0 20 (x (75 + d) (2 * j + 1)) = 0
        · rw [if_pos q2, if_pos q2, if_pos trivial]
        · rw [if_neg q2, if_neg q2, if_neg one_ne0]
    have bad : ∀ (X : Option (Int32 × XD)) (M : Option (Int32 × MD)), X = some (nI j, x) → M = b_Mo_forged_53 (nI d) n (nI j) c (nI (j + 1)) m → ∃ r x' m', X = some (r, x') ∧ frX x x' ∧ M = some (r, m') ∧ LnM m' A ∧ frB m m' := fun X M hX' hM' => by
      obtain ⟨n, rfl⟩ : ∃ m, n = m + 1 := ⟨n - 1, by omega⟩
      obtain ⟨m', g1, g2, g3⟩ := forged_bad (A := A) (A' := A') (d := d) (so := so) (s := s) (k := j) (n := n) (c := c) (v4 := c) hV hd (by omega) (by omega) hR.2.2.2.2.2.1 hK
      exact ⟨nI j, x, m', hX', frX.rf, by rw [hM']; exact g1, g2, g3⟩
    rcases rng_01 (a := 0) (b := nI (ln A) - 1) (v := x (75 + d) (2 * j)) with z1 | z1
    · exact bad _ _ (by rw [eX, if_pos z1]) (by rw [eM, if_pos z1])
    obtain ⟨h, hlt, e1⟩ := rng_horse h7 z1
    have n1 : ¬ rng 0 (nI (ln A) - 1) (x (75 + d) (2 * j)) = 0 := by rw [z1]; decide
    rcases rng_01 (a := 0) (b := 20) (v := x (75 + d) (2 * j + 1)) with z2 | z2
    · exact bad _ _ (by rw [eX, if_neg n1, if_pos z2]) (by rw [eM, if_neg n1, if_pos z2])
    obtain ⟨y, hy, e2⟩ := rng_nat (b := 20) (by omega) z2
    have n2 : ¬ rng 0 20 (x (75 + d) (2 * j + 1)) = 0 := by rw [z2]; decide
    have hh7 : h < 7 := by omega
    have hlt' : h < ln A' := by omega
    have es : x (sid 12 (nI h)) 3 = nI (ha (ls A' h)) := by
      rw [sid_n hh7]
      exact (hX2.2.2.2 h hlt').2.2.2.1
    have em : m.1 87 (nI h).toNatClampNeg = nI (ha (ls A' h)) := by
      rw [n_nat (by omega)]
      exact (hM.2.2.2 h hlt').2.2.2.1
    obtain ⟨x1, g1, a1, f1⟩ := la_ride_n (o := 12) (by decide) hX2 hV' hlt' hy
    obtain ⟨m1, g2, a2, f2⟩ := mo_ride_n hM hV' hlt' hy
    have fX : frX x x1 := f1.X (by omega)
    have good : ∀ (X : Option (Int32 × XD)) (M : Option (Int32 × MD)), X = b_Hb_forged_128 (b_Hb_forged_54 (67 + d) n) (67 + d) (nI (2 * j)) (nI h) (nI y) x → M = ((f_Mo_ride (nI h) (nI y) m).bind fun p2 => b_Mo_forged_53 (nI d) n (-4) (nI y) (nI (j + 1)) p2.2) → ∃ r x' m', X = some (r, x') ∧ frX x x' ∧ M = some (r, m') ∧ LnM m' A ∧ frB m m' := fun X M hX' hM' => by
      obtain ⟨r, x', m', p1, p2, p3, p4, p5⟩ := ih n (j + 1) (nI y) x1 m1 (rideA y h A').2 (by omega) (by omega) (Rw_fr hR fX f2.B.S) (LnX_X hX hV fX) a1 (rideA_V hy hV' hlt') ((rideL_V hy 21 hV' hlt').2.1.trans hl) a2 (LkM_B (by omega) hK f2.B)
      refine ⟨r, x', m', ?_, fX.tr p2, ?_, p4, f2.B.tr p5⟩
      · rw [hX', b_Hb_forged_128, g1, bd_s, w2]
        exact p1
      · rw [hM', g2, bd_s]
        exact p3
    rw [e1, e2] at eX eM
    rw [e1] at n1
    rw [e2] at n2
    rw [if_neg n1, if_neg n2] at eX eM
    by_cases z3 : j = 0
    · subst z3
      exact good _ _ (by rw [eX, if_pos (show nI (2 * 0) ≤ 0 from by decide)]) (by rw [eM, if_pos (show nI 0 = 0 from rfl)])
    · have c1 : ¬ nI (2 * j) ≤ 0 := by
        rw [show (0 : Int32) = nI 0 from rfl, n_le (by omega) (by omega)]
        omega
      have c2 : ¬ nI j = 0 := by
        rw [show (0 : Int32) = nI 0 from rfl, n_eq (by omega) (by omega)]
        exact z3
      rw [if_neg c1, gI_n hh7 (by omega), es] at eX
      rw [if_neg c2, gI_n hh7 (by omega), em] at eM
      by_cases z4 : nI (ha (ls A' h)) = c
      · exact good _ _ (by rw [eX, if_pos z4]) (by rw [eM, if_pos z4])
      · exact bad _ _ (by rw [eX, if_neg z4]) (by rw [eM, if_neg z4])
theorem op_forged (a1 : Int32) : St2 IV (f_Hb_forged a1) (f_Mo_forged a1) := by
  intro x m ⟨A, hV, hX, hM, hr⟩
  show R2 _ _
  unfold f_Hb_forged f_Mo_forged
  refine R2_14 hM hr fun m hM hr => ?_
  have hI : IV x m := ⟨A, hV, hX, hM, hr⟩
  rcases sh_row (v := a1) hr with ⟨c, hc, e3, e4⟩ | ⟨d, hd, ed, x0, m0, ⟨so, n, hR⟩, e3, e4⟩
  · rw [e3, e4, bd_s, bd_s]
    refine R2_eq hI c (if_neg (rfc_ne hc)) ?_
    dsimp only
    rw [if_neg (rfc_ne hc), b_Mo_forged_32, b_Mo_forged_33, if_neg (rfc_neg hc)]
  · rw [e3, e4, bd_s, bd_s, if_pos rfl, if_pos rfl]
    subst ed
    replace hR : Rw x m d so n := hR
    have h100 := hR.2.1
    have w1 : x_rem (nI n) 2 = nI (n % 2) := n_rem (a := n) (b := 2) (by omega) (by omega)
    dsimp only
    have hx : x_rem (x (67 + d) 4) 2 = nI (n % 2) := by rw [hR.2.2.2.2.1, w1]
    have hm : x_rem (m.1 93 d) 2 = nI (n % 2) := by rw [hR.2.2.2.2.2.1, w1]
    rw [gI_n hd (by omega), hid_n hd, gI_n hd (by omega), n_nat (by omega)]
    by_cases c : n % 2 = 0
    · obtain ⟨s, rfl⟩ : ∃ s, n = 2 * s := ⟨n / 2, by omega⟩
      rw [if_pos (show x_rem (x (67 + d) 4) 2 = 0 from by rw [hx, c]; rfl), if_neg (show ¬ x_rem (m.1 93 d) 2 = 1 from by rw [hm, c]; decide), b_Mo_forged_32, b_Mo_forged_33, if_pos (show (0 : Int32) ≤ 0 from by decide)]
      obtain ⟨x1, e1, s1, f1⟩ := la_become_n (o := 12) (o1 := 10) (x := x) (by decide) (by decide) (by decide) hX hV.1
      obtain ⟨m1, g1, b1, k1, l1⟩ := mo_open_n hM hV.1
      have fX : frX x x1 := f1.X (by omega)
      obtain ⟨r, x', m', p1, p2, p3, p4, p5⟩ := forged_l hV hd s fu 0 (-1) x1 m1 A (by omega) (by show s + 1 < 1000; omega) (Rw_fr hR fX (l1.S (by omega) (by omega))) (LnX_X hX hV fX) s1 hV rfl b1 k1
      refine R2_in (r := r) hV hr hX ?_ (fX.tr p2) ?_ p4 ((l1.tr p5.K).S (by omega) (by omega))
      · rw [e1, bd_s]
        exact p1
      · rw [g1, bd_s]
        exact p3
    · have c1 : n % 2 = 1 := by omega
      refine R2_eq hI (-13) (if_neg (show ¬ x_rem (x (67 + d) 4) 2 = 0 from by rw [hx, c1]; decide)) ?_
      rw [if_pos (show x_rem (m.1 93 d) 2 = 1 from by rw [hm, c1]; rfl), b_Mo_forged_33, if_neg (show ¬ (0 : Int32) ≤ -13 from by decide)]

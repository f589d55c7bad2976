/-! Told rides: homes, what it is: both sides. -/
theorem told_l {A : Ld} {d so N h y : Nat} (hV : VA A) (hd : d < 8) (hl : h < ln A) (hy : y ≤ 20) : ∀ (k n j : Nat) (x : XD) (m : MD) (A' : Ld), j + k = N → k + 1 < n → Rw x m d so N → LnX x 10 A → xst x 64 (ls A' h) → VA A' → ln A' = ln A → lo A' = lo A → LnM m A' → LkM m 98 A → ∃ (r : Int32) (x' : XD) (m' : MD), (r = 0 ∨ r = 1) ∧ b_Hb_isTold_3 64 (67 + d) (nI y) n (nI j) x = some (r, x') ∧ frO 64 x x' ∧ b_Mo_isRow_6 (nI d) (nI h) (nI y) n 1 (nI j) m = some (r, m') ∧ LnM m' A ∧ LkM m' 98 A ∧ frB m m' := by
  have h7 : h < 7 := Nat.lt_of_lt_of_le hl hV.1
  have hn9 : (nI h).toNatClampNeg = h := n_nat (by omega)
  intro k
  induction k with
  | zero =>
    intro n j x m A' hj hn hR hX hs hV' hl' ho' hM hK
    obtain ⟨n, rfl⟩ : ∃ m, n = m + 1 := ⟨n - 1, by omega⟩
    obtain ⟨m2, g3, b2, hK2, k2⟩ := mo_close_n hK hV.1
    have h100 := hR.2.1
    refine ⟨1, x, m2, Or.inr rfl, ?_, frO.rf, ?_, b2, hK2, k2⟩
    · rw [b_Hb_isTold_3, hR.2.2.2.2.1, if_pos (nI_le (by omega) (by omega))]
    · rw [b_Mo_isRow_6, gI_n hd (by omega), n_nat (by omega), hR.2.2.2.2.2.1, if_pos (nI_le (by omega) (by omega)), b_Mo_isRow_89, g3, bd_s, gB_1]
  | succ k ih =>
    intro n j x m A' hj hn hR hX hs hV' hl' ho' hM hK
    obtain ⟨n, rfl⟩ : ∃ m, n = m + 1 := ⟨n - 1, by omega⟩
    have h100 := hR.2.1
    have hVh := hV'.2.2 h (by omega)
    have h4 := hVh.2.2.2.1
    have sm := hM.2.2.2 h (by omega)
    have yeq : (nI (ha (ls A' h)) = nI y) = (ha (ls A' h) = y) := n_eq (by omega) (by omega)
    -- the next state of both sides
    obtain ⟨A2, x1, m1, eX1, eM1, hs1, hV1, hl1, ho1, hM1, f1, f2⟩ : ∃ (A2 : Ld) (x1 : XD) (m1 : MD), (∀ K : Int32 → XD → Option (Int32 × XD), (if x 64 3 = nI y then b_Hb_isTold_58 K 64 (67 + d) (nI y) (nI j) x else (f_St_move 64 (nI y) (x 10 3) x).bind fun p5 => ((f_St_pine 64 (p5.2 10 3) p5.2).bind fun p6 => (b_Hb_isTold_58 K 64 (67 + d) (nI y) (nI j) p6.2))) = K (nI (j + 1)) x1) ∧ (∀ (K : Int32 → Int32 → MD → Option (Int32 × MD)) (v : Int32), b_Mo_isRow_65 K (nI d) (nI h) (nI y) (nI j) v m = K v (nI (j + 1)) m1) ∧ xst x1 64 (ls A2 h) ∧ VA A2 ∧ ln A2 = ln A ∧ lo A2 = lo A ∧ LnM m1 A2 ∧ frO 64 x x1 ∧ frM m m1 := by
      by_cases c : ha (ls A' h) = y
      · refine ⟨A', x, m, fun K => ?_, fun K v => ?_, hs, hV', hl', ho', hM, frO.rf, frM.rf⟩
        · rw [if_pos (by rw [hs.2.2.2.1, yeq]; exact c), b_Hb_isTold_58, show nI j + 1 = nI (j + 1) from n_add j 1]
        · rw [b_Mo_isRow_65, gI_n h7 (by omega), hn9, if_pos (by rw [sm.2.2.2.1, yeq]; exact c), b_Mo_isRow_83, show nI j + 1 = nI (j + 1) from n_add j 1]
      · obtain ⟨m1, g1, b1, k1⟩ := mo_rideOn_n hM hV' (show h < ln A' by omega) hy c
        have hx1 := xst_up3 (v := moveN y (lo A') (ls A' h)) hs
        have hVg := go_V (oats := lo A') hVh hy
        have hx2 := st_day (oats := lo A') (s := goN y (lo A') (ls A' h)) hx1
        have o1 : x 10 3 = nI (lo A') := by rw [ho']; exact hX.2.1
        have o2 : x_up x 64 3 (nI (moveN y (lo A') (ls A' h))) 10 3 = nI (lo A') := by rw [x_up_ne (by decide)]; exact o1
        have e9 : ls (passA 1 (setS A' h (goN y (lo A') (ls A' h)))) h = dayN (lo A') (goN y (lo A') (ls A' h)) := by
          show dayN (lo A') (if h = h then _ else _) = _
          rw [if_pos rfl]
        refine ⟨passA 1 (setS A' h (goN y (lo A') (ls A' h))), _, m1, fun K => ?_, fun K v => ?_, by rw [e9]; exact hx2, pass_V (setS_V hV' hVg), hl', ho', b1, frO.up.tr frO.up, k1⟩
        · rw [if_neg (by rw [hs.2.2.2.1, yeq]; exact c), o1, st_move_n hs hVh hV'.2.1 hy c, bd_s]
          dsimp only
          rw [o2, st_pine_n (s := goN y (lo A') (ls A' h)) hx1 hVg hV'.2.1, bd_s, b_Hb_isTold_58, show nI j + 1 = nI (j + 1) from n_add j 1]
        · rw [b_Mo_isRow_65, gI_n h7 (by omega), hn9, if_neg (by rw [sm.2.2.2.1, yeq]; exact c), g1, bd_s, b_Mo_isRow_83, show nI j + 1 = nI (j + 1) from n_add j 1]
    have eX : b_Hb_isTold_3 64 (67 + d) (nI y) (n + 1) (nI j) x = if telC x d so j (nI (ha (ls A' h))) then b_Hb_isTold_3 64 (67 + d) (nI y) n (nI (j + 1)) x1 else some (0, x) := by
      rw [b_Hb_isTold_3, hR.2.2.2.2.1]
      simp only [n_le (show N < 2147483648 by omega) (show j < 2147483648 by omega)]
      rw [if_neg (by omega), hs.2.2.2.1, hb_tells hR (by omega), bd_s]
      dsimp only
      by_cases c : telC x d so j (nI (ha (ls A' h)))
      · rw [if_pos c, if_pos c, if_neg one_ne0]
        exact eX1 _
      · rw [if_neg c, if_neg c, if_pos rfl]
    have eM : b_Mo_isRow_6 (nI d) (nI h) (nI y) (n + 1) 1 (nI j) m = b_Mo_isRow_6 (nI d) (nI h) (nI y) n (if telC x d so j (nI (ha (ls A' h))) then 1 else 0) (nI (j + 1)) m1 := by
      rw [b_Mo_isRow_6, gI_n hd (by omega), n_nat (by omega), hR.2.2.2.2.2.1]
      simp only [n_le (show N < 2147483648 by omega) (show j < 2147483648 by omega)]
      rw [if_neg (by omega), if_neg one_ne0, n_100, gI_n (by omega) (by omega), mo_skip hR.2.2.2.1 hR.1 hd, bd_s, n_nat (by omega), hR.2.2.2.2.2.2 j (by omega)]
      dsimp only
      rw [gI_n h7 (by omega), hn9, sm.2.2.2.1]
      simp only [lgc_eq, long_inj, b_Mo_isRow_60, eM1]
      by_cases c2 : x (75 + d) j = lsN so
      · rw [if_pos c2, if_pos (Or.inr c2)]
      · rw [if_neg c2]
        by_cases c : x (75 + d) j = nI (ha (ls A' h))
        · rw [if_pos c, if_pos (Or.inl c)]
        · rw [if_neg c, if_neg (fun e => Or.elim e c c2)]
    have hK1 := LkM_B (by omega) hK f2.B
    have fX : frX x x1 := f1.X (by omega)
    rw [eX, eM]
    by_cases c : telC x d so j (nI (ha (ls A' h)))
    · rw [if_pos c, if_pos c]
      obtain ⟨r, x', m', p0, p1, p2, p3, p4, p5, p6⟩ := ih n (j + 1) x1 m1 A2 (by omega) (by omega) (Rw_fr hR fX f2.B.S) (LnX_X hX hV fX) hs1 hV1 hl1 ho1 hM1 hK1
      exact ⟨r, x', m', p0, p1, f1.tr p2, p3, p4, p5, f2.B.tr p6⟩
    · rw [if_neg c, if_neg c]
      obtain ⟨n, rfl⟩ : ∃ m, n = m + 1 := ⟨n - 1, by omega⟩
      obtain ⟨m2, g3, b2, hK2, k2⟩ := mo_close_n hK1 hV.1
      refine ⟨0, x, m2, Or.inl rfl, rfl, frO.rf, ?_, b2, hK2, f2.B.tr k2⟩
      rw [b_Mo_isRow_6, gI_n hd (by omega), if_pos rfl, b_Mo_isRow_89, g3, bd_s, gB_0]
      split <;> rfl
/-- one told ride, both sides -/
theorem told_n {A A' : Ld} {d so N h y : Nat} {x : XD} {m : MD} (hV : VA A) (hd : d < 8) (hl : h < ln A) (hy : y ≤ 20) (hR : Rw x m d so N) (hX : LnX x 10 A) (hs : xst x 64 (ls A' h)) (hV' : VA A') (hl' : ln A' = ln A) (ho' : lo A' = lo A) (hM : LnM m A') (hK : LkM m 98 A) : ∃ (r : Int32) (x' : XD) (m' : MD), (r = 0 ∨ r = 1) ∧ f_Hb_isTold 64 (67 + d) (nI y) x = some (r, x') ∧ frO 64 x x' ∧ f_Mo_isRow (nI d) (nI h) (nI y) m = some (r, m') ∧ LnM m' A ∧ LkM m' 98 A ∧ frB m m' :=
  told_l hV hd hl hy N fu 0 x m A' (by omega) (by have := hR.2.1; show N + 1 < 1000; omega) hR hX hs hV' hl' ho' hM hK
def hoS (v : Nat) (s : Hs) : Hs := (hk s, hf s, v, ha s, hlo s)
def kiS (v : Nat) (s : Hs) : Hs := (v, hf s, hh s, ha s, hlo s)
def fiS (v : Nat) (s : Hs) : Hs := (hk s, v, hh s, ha s, hlo s)
theorem xst_upg {x : XD} {o j : Nat} {s s' : Hs} {v : Int32} (h : xst x o s) (e0 : j ≠ 0 → hk s' = hk s) (e1 : j ≠ 1 → hf s' = hf s) (e2 : j ≠ 2 → hh s' = hh s) (e3 : j ≠ 3 → ha s' = ha s) (e4 : j ≠ 4 → hlo s' = hlo s) (f0 : j = 0 → v = nI (hk s')) (f1 : j = 1 → v = nI (hf s')) (f2 : j = 2 → v = nI (hh s')) (f3 : j = 3 → v = nI (ha s')) (f4 : j = 4 → v = nI (hlo s')) : xst (x_up x o j v) o s' := by
  obtain ⟨h0, h1, h2, h3, h4⟩ := h
  have g : ∀ (i n n' : Nat), x o i = nI n → (j ≠ i → n' = n) → (j = i → v = nI n') → x_up x o j v o i = nI n' := fun i n n' a b c => by
    by_cases q : j = i
    · rw [← q, x_up_at]; exact c q
    · rw [x_up_nj (fun e => q e.symm), a, b q]
  exact ⟨g 0 _ _ h0 e0 f0, g 1 _ _ h1 e1 f1, g 2 _ _ h2 e2 f2, g 3 _ _ h3 e3 f3, g 4 _ _ h4 e4 f4⟩
theorem mst_upg {m : MD} {h a : Nat} {s s' : Hs} {v : Int32} (hs : mst m h s) (e0 : a ≠ 84 → hk s' = hk s) (e1 : a ≠ 85 → hf s' = hf s) (e2 : a ≠ 86 → hh s' = hh s) (e3 : a ≠ 87 → ha s' = ha s) (e4 : a ≠ 88 → hlo s' = hlo s) (f0 : a = 84 → v = nI (hk s')) (f1 : a = 85 → v = nI (hf s')) (f2 : a = 86 → v = nI (hh s')) (f3 : a = 87 → v = nI (ha s')) (f4 : a = 88 → v = nI (hlo s')) : mst (x_up m.1 a h v, m.2) h s' := by
  obtain ⟨h0, h1, h2, h3, h4⟩ := hs
  have g : ∀ (i n n' : Nat), m.1 i h = nI n → (a ≠ i → n' = n) → (a = i → v = nI n') → x_up m.1 a h v i h = nI n' := fun i n n' p b c => by
    by_cases q : a = i
    · rw [← q, x_up_at]; exact c q
    · rw [x_up_ne (fun e => q e.symm), p, b q]
  exact ⟨g 84 _ _ h0 e0 f0, g 85 _ _ h1 e1 f1, g 86 _ _ h2 e2 f2, g 87 _ _ h3 e3 f3, g 88 _ _ h4 e4 f4⟩
theorem LnM_upg {m : MD} {A : Ld} {h a : Nat} {s' : Hs} {v : Int32} (hM : LnM m A) (ha : 83 < a) (hs : mst (x_up m.1 a h v, m.2) h s') : LnM (x_up m.1 a h v, m.2) (setS A h s') :=
  LnM_st hM (show x_up m.1 a h v 83 = m.1 83 from x_up_ne (by omega)) hs (fun i k hi _ _ => show x_up m.1 a h v k i = m.1 k i from x_up_nj hi)
theorem homes_l {A : Ld} {d so N h y : Nat} {v4 : Int32} (hV : VA A) (hd : d < 8) (hl : h < ln A) (hy : y ≤ 20) : ∀ (k n j b : Nat) (x : XD) (m : MD), j + k = 21 → k < n → b < 2 ^ j → Rw x m d so N → LnX x 10 A → LnM m A → LkM m 98 A → ∃ r x' m', b_Hb_homes_46 (nI d) (nI h) (nI y) v4 n (nI b) (nI j) x = some (r, x') ∧ frX x x' ∧ b_Mo_homes_63 (nI d) (nI h) (nI y) v4 n (nI b) (nI (pcB b)) (nI j) m = some (r, m') ∧ LnM m' A ∧ frB m m' := by
  have h7 : h < 7 := Nat.lt_of_lt_of_le hl hV.1
  have hn9 : (nI h).toNatClampNeg = h := n_nat (by omega)
  have hVh := hV.2.2 h hl
  intro k
  induction k with
  | zero =>
    intro n j b x m hj hn hb hR hX hM hK
    obtain ⟨n, rfl⟩ : ∃ m, n = m + 1 := ⟨n - 1, by omega⟩
    obtain rfl : j = 21 := by omega
    have hb2 : b < 2097152 := hb
    refine ⟨if v4 = 0 then nI b else nI (pcB b), x, m, ?_, frX.rf, ?_, hM, frB.rf⟩
    · rw [b_Hb_homes_46, if_pos (show (21 : Int32) ≤ nI 21 from by decide), bits_n hb2, bd_s]
      split <;> rfl
    · rw [b_Mo_homes_63, if_pos (show (20 : Int32) < nI 21 from by decide)]
      split <;> rfl
  | succ k ih =>
    intro n j b x m hj hn hb hR hX hM hK
    obtain ⟨n, rfl⟩ : ∃ m, n = m + 1 := ⟨n - 1, by omega⟩
    have hVs : VH (hoS j (ls A h)) := ⟨hVh.1, hVh.2.1, by show j ≤ 20; omega, hVh.2.2.2.1, hVh.2.2.2.2⟩
    have hVA : VA (setS A h (hoS j (ls A h))) := setS_V hV hVs
    obtain ⟨x1, e1, s1, f1⟩ := st_become_n (o := 64) (o1 := 22 + h) (x := x) (by omega) (LnX_s hX hl)
    have s1' : xst (x_up x1 64 2 (nI j)) 64 (ls (setS A h (hoS j (ls A h))) h) := by
      rw [ls_set]
      exact xst_upg s1 (fun _ => rfl) (fun _ => rfl) (fun e => absurd rfl e) (fun _ => rfl) (fun _ => rfl) (fun e => absurd e (by decide)) (fun e => absurd e (by decide)) (fun _ => rfl) (fun e => absurd e (by decide)) (fun e => absurd e (by decide))
    have f1' : frO 64 x (x_up x1 64 2 (nI j)) := f1.tr frO.up
    have fX1 : frX x (x_up x1 64 2 (nI j)) := f1'.X (by omega)
    have hM1 : LnM (x_up m.1 86 h (nI j), m.2) (setS A h (hoS j (ls A h))) := LnM_upg hM (by decide) (mst_upg (hM.2.2.2 h hl) (fun _ => rfl) (fun _ => rfl) (fun e => absurd rfl e) (fun _ => rfl) (fun _ => rfl) (fun e => absurd e (by decide)) (fun e => absurd e (by decide)) (fun _ => rfl) (fun e => absurd e (by decide)) (fun e => absurd e (by decide)))
    have u1 : frB m (x_up m.1 86 h (nI j), m.2) := (frA.up.M (by omega) (by omega)).B
    obtain ⟨r, x2, m2, p0, p1, p2, p3, p4, p5, p6⟩ := told_n (A' := setS A h (hoS j (ls A h))) hV hd hl hy (Rw_fr hR fX1 u1.S) (LnX_X hX hV fX1) s1' hVA rfl rfl hM1 (LkM_B (by omega) hK u1)
    have fX : frX x x2 := fX1.tr (p2.X (by omega))
    have fB : frB m m2 := u1.tr p6
    have hb9 := bits_step (j := j) (b := b) (by omega) hb
    have eX : b_Hb_homes_46 (nI d) (nI h) (nI y) v4 (n + 1) (nI b) (nI j) x = if r = 0 then b_Hb_homes_46 (nI d) (nI h) (nI y) v4 n (nI b) (nI (j + 1)) x2 else b_Hb_homes_46 (nI d) (nI h) (nI y) v4 n (nI (b + 2 ^ j)) (nI (j + 1)) x2 := by
      rw [b_Hb_homes_46, show (21 : Int32) = nI 21 from rfl]
      simp only [n_le (show 21 < 2147483648 by omega) (show j < 2147483648 by omega)]
      rw [if_neg (by omega), gI_n h7 (by omega), sid10 h7, e1, bd_s, lt_e, gI_n hd (by omega), hid_n hd]
      dsimp only
      rw [p1, bd_s]
      simp only [b_Hb_homes_105, bit_n j (by omega), or_n hb, show nI j + 1 = nI (j + 1) from n_add j 1]
    have eM : b_Mo_homes_63 (nI d) (nI h) (nI y) v4 (n + 1) (nI b) (nI (pcB b)) (nI j) m = if r = 0 then b_Mo_homes_63 (nI d) (nI h) (nI y) v4 n (nI b) (nI (pcB b)) (nI (j + 1)) m2 else b_Mo_homes_63 (nI d) (nI h) (nI y) v4 n (nI (b + 2 ^ j)) (nI (pcB (b + 2 ^ j))) (nI (j + 1)) m2 := by
      rw [b_Mo_homes_63, show (20 : Int32) = nI 20 from rfl]
      simp only [n_lt (show 20 < 2147483648 by omega) (show j < 2147483648 by omega)]
      rw [if_neg (by omega), gI_n h7 (by omega), hn9, lt_e, p3, bd_s]
      simp only [b_Mo_homes_102, b_Mo_homes_117, bit_n j (by omega), or_n hb, show nI j + 1 = nI (j + 1) from n_add j 1, Int32.or_zero]
      by_cases c : r = 0
      · rw [if_pos c, if_pos c, if_pos c, show nI (pcB b) + 0 = nI (pcB b) from n_add (pcB b) 0]
      · rw [if_neg c, if_neg c, if_neg c, hb9.1, show nI (pcB b) + 1 = nI (pcB b + 1) from n_add (pcB b) 1]
    rw [eX, eM]
    have hR2 := Rw_fr hR fX fB.S
    by_cases c : r = 0
    · rw [if_pos c, if_pos c]
      obtain ⟨r2, x', m', q1, q2, q3, q4, q5⟩ := ih n (j + 1) b x2 m2 (by omega) (by omega) (by rw [Nat.pow_succ]; omega) hR2 (LnX_X hX hV fX) p4 p5
      exact ⟨r2, x', m', q1, fX.tr q2, q3, q4, fB.tr q5⟩
    · rw [if_neg c, if_neg c]
      obtain ⟨r2, x', m', q1, q2, q3, q4, q5⟩ := ih n (j + 1) (b + 2 ^ j) x2 m2 (by omega) (by omega) (by rw [Nat.pow_succ]; omega) hR2 (LnX_X hX hV fX) p4 p5
      exact ⟨r2, x', m', q1, fX.tr q2, q3, q4, fB.tr q5⟩
theorem op_homes (a1 a2 a3 a4 : Int32) : St2 IV (f_Hb_homes a1 a2 a3 a4) (f_Mo_homes a1 a2 a3 a4) := by
  intro x m ⟨A, hV, hX, hM, hr⟩
  show R2 _ _
  unfold f_Hb_homes f_Mo_homes
  refine R2_14 hM hr fun m hM hr => ?_
  have hI : IV x m := ⟨A, hV, hX, hM, hr⟩
  have e40 : ∀ c, rfc c → b_Mo_homes_40 a1 a2 a3 a4 c m = some (c, m) := fun c hc => by
    unfold b_Mo_homes_40
    rw [if_neg (rfc_neg hc)]
  refine g_horse hV hX hM (R2_eq hI (-1) (if_pos rfl) ((if_pos rfl).trans (e40 _ (Or.inl rfl)))) fun h hl e => pass2 ?_
  refine g_yard (R2_eq hI (-1) (if_pos rfl) ((if_pos rfl).trans (e40 _ (Or.inl rfl)))) fun y hy e2 => pass2 ?_
  refine g_either (R2_eq hI (-1) (if_pos rfl) ((if_pos rfl).trans (e40 _ (Or.inl rfl)))) fun _ => pass2 ?_
  dsimp only
  rcases sh_row (v := a1) hr with ⟨c, hc, e3, e4⟩ | ⟨d, hd, ed, x0, m0, ⟨so, n, hR⟩, e3, e4⟩
  · rw [e3, e4, bd_s, bd_s]
    exact R2_eq hI c (if_neg (rfc_ne hc)) (e40 c hc)
  · rw [e3, e4, bd_s, bd_s, if_pos rfl, b_Mo_homes_40, if_pos (show (0 : Int32) ≤ 0 from by decide)]
    subst e e2 ed
    replace hR : Rw x m d so n := hR
    obtain ⟨m1, g1, b1, k1, l1⟩ := mo_open_n hM hV.1
    obtain ⟨r, x', m', p1, p2, p3, p4, p5⟩ := homes_l (v4 := a4) hV hd hl hy 21 fu 0 0 x m1 (by omega) (by decide) (by decide) (Rw_fr hR frX.rf (l1.S (by omega) (by omega))) hX b1 k1
    refine R2_in (r := r) hV hr hX p1 p2 ?_ p4 ((l1.tr p5.K).S (by omega) (by omega))
    rw [g1, bd_s]
    exact p3
theorem kinds_l {A : Ld} {d so N h y : Nat} (hV : VA A) (hd : d < 8) (hl : h < ln A) (hy : y ≤ 20) : ∀ (k n j : Nat) (b : Int32) (x : XD) (m : MD), j + k = 8 → k < n → Rw x m d so N → LnX x 10 A → LnM m A → LkM m 98 A → ∃ r x' m', b_Hb_kindsTold_6 (67 + d) (nI h) (nI y) n b (nI j) x = some (r, x') ∧ frX x x' ∧ b_Mo_whatIs_60 (nI d) (nI h) (nI y) 0 n b (nI j) m = some (r, m') ∧ LnM m' A ∧ frB m m' := by
  have h7 : h < 7 := Nat.lt_of_lt_of_le hl hV.1
  have hn9 : (nI h).toNatClampNeg = h := n_nat (by omega)
  have hVh := hV.2.2 h hl
  intro k
  induction k with
  | zero =>
    intro n j b x m hj hn hR hX hM hK
    obtain ⟨n, rfl⟩ : ∃ m, n = m + 1 := ⟨n - 1, by omega⟩
    obtain rfl : j = 8 := by omega
    refine ⟨b, x, m, ?_, frX.rf, ?_, hM, frB.rf⟩
    · rw [b_Hb_kindsTold_6, if_pos (show (8 : Int32) ≤ nI 8 from by decide)]
    · rw [b_Mo_whatIs_60, if_pos rfl, b_Mo_whatIs_74, if_pos (show (8 : Int32) ≤ nI 8 from by decide)]
  | succ k ih =>
    intro n j b x m hj hn hR hX hM hK
    obtain ⟨n, rfl⟩ : ∃ m, n = m + 1 := ⟨n - 1, by omega⟩
    have hVs : VH (kiS j (ls A h)) := ⟨by show j < 8; omega, hVh.2.1, hVh.2.2.1, hVh.2.2.2.1, hVh.2.2.2.2⟩
    have hVA : VA (setS A h (kiS j (ls A h))) := setS_V hV hVs
    obtain ⟨x1, e1, s1, f1⟩ := st_become_n (o := 64) (o1 := 22 + h) (x := x) (by omega) (LnX_s hX hl)
    have s1' : xst (x_up x1 64 0 (nI j)) 64 (ls (setS A h (kiS j (ls A h))) h) := by
      rw [ls_set]
      exact xst_upg s1 (fun e => absurd rfl e) (fun _ => rfl) (fun _ => rfl) (fun _ => rfl) (fun _ => rfl) (fun _ => rfl) (fun e => absurd e (by decide)) (fun e => absurd e (by decide)) (fun e => absurd e (by decide)) (fun e => absurd e (by decide))
    have f1' : frO 64 x (x_up x1 64 0 (nI j)) := f1.tr frO.up
    have fX1 : frX x (x_up x1 64 0 (nI j)) := f1'.X (by omega)
    have hM1 : LnM (x_up m.1 84 h (nI j), m.2) (setS A h (kiS j (ls A h))) := LnM_upg hM (by decide) (mst_upg (hM.2.2.2 h hl) (fun e => absurd rfl e) (fun _ => rfl) (fun _ => rfl) (fun _ => rfl) (fun _ => rfl) (fun _ => rfl) (fun e => absurd e (by decide)) (fun e => absurd e (by decide)) (fun e => absurd e (by decide)) (fun e => absurd e (by decide)))
    have u1 : frB m (x_up m.1 84 h (nI j), m.2) := (frA.up.M (by omega) (by omega)).B
    have same : x_up (x_up m.1 84 h (nI j)) 85 h ((x_up m.1 84 h (nI j)) 85 h) = x_up m.1 84 h (nI j) := x_up_same rfl
    obtain ⟨r, x2, m2, p0, p1, p2, p3, p4, p5, p6⟩ := told_n (A' := setS A h (kiS j (ls A h))) hV hd hl hy (Rw_fr hR fX1 u1.S) (LnX_X hX hV fX1) s1' hVA rfl rfl hM1 (LkM_B (by omega) hK u1)
    have fX : frX x x2 := fX1.tr (p2.X (by omega))
    have fB : frB m m2 := u1.tr p6
    have hR2 := Rw_fr hR fX fB.S
    have eX : b_Hb_kindsTold_6 (67 + d) (nI h) (nI y) (n + 1) b (nI j) x = b_Hb_kindsTold_6 (67 + d) (nI h) (nI y) n (if r = 0 then b else b ||| (1 <<< (nI j &&& 31))) (nI (j + 1)) x2 := by
      rw [b_Hb_kindsTold_6, show (8 : Int32) = nI 8 from rfl]
      simp only [n_le (show 8 < 2147483648 by omega) (show j < 2147483648 by omega)]
      rw [if_neg (by omega), gI_n h7 (by omega), sid10 h7, e1, bd_s, gI_n (show j < 8 by omega) (by omega), lt_e]
      dsimp only
      rw [p1, bd_s]
      simp only [b_Hb_kindsTold_65, show nI j + 1 = nI (j + 1) from n_add j 1]
      split <;> rfl
    have eM : b_Mo_whatIs_60 (nI d) (nI h) (nI y) 0 (n + 1) b (nI j) m = b_Mo_whatIs_60 (nI d) (nI h) (nI y) 0 n (if r = 0 then b else b ||| (1 <<< (nI j &&& 31))) (nI (j + 1)) m2 := by
      rw [b_Mo_whatIs_60, if_pos rfl, b_Mo_whatIs_74, show (8 : Int32) = nI 8 from rfl]
      simp only [n_le (show 8 < 2147483648 by omega) (show j < 2147483648 by omega)]
      rw [if_neg (by omega), if_pos trivial, b_Mo_whatIs_98, gI_n h7 (by omega), hn9, lt_e, if_neg (show ¬ (0 : Int32) = 1 from by decide), gI_n h7 (by omega), b_Mo_whatIs_121, gI_n h7 (by omega), hn9, lt_e]
      dsimp only
      rw [same, p3, bd_s]
      simp only [b_Mo_whatIs_142, Int32.or_zero, show nI j + 1 = nI (j + 1) from n_add j 1]
      split <;> rfl
    rw [eX, eM]
    obtain ⟨r2, x', m', q1, q2, q3, q4, q5⟩ := ih n (j + 1) (if r = 0 then b else b ||| (1 <<< (nI j &&& 31))) x2 m2 (by omega) (by omega) hR2 (LnX_X hX hV fX) p4 p5
    exact ⟨r2, x', m', q1, fX.tr q2, q3, q4, fB.tr q5⟩
theorem figs_l {A : Ld} {d so N h y : Nat} (hV : VA A) (hd : d < 8) (hl : h < ln A) (hy : y ≤ 20) : ∀ (k n j : Nat) (b : Int32) (x : XD) (m : MD), j + k = 10 → k < n → Rw x m d so N → LnX x 10 A → LnM m A → LkM m 98 A → ∃ r x' m', b_Hb_figuresTold_6 (67 + d) (nI h) (nI y) n b (nI j) x = some (r, x') ∧ frX x x' ∧ b_Mo_whatIs_60 (nI d) (nI h) (nI y) 1 n b (nI j) m = some (r, m') ∧ LnM m' A ∧ frB m m' := by
  have h7 : h < 7 := Nat.lt_of_lt_of_le hl hV.1
  have hn9 : (nI h).toNatClampNeg = h := n_nat (by omega)
  have hVh := hV.2.2 h hl
  intro k
  induction k with
  | zero =>
    intro n j b x m hj hn hR hX hM hK
    obtain ⟨n, rfl⟩ : ∃ m, n = m + 1 := ⟨n - 1, by omega⟩
    obtain rfl : j = 10 := by omega
    refine ⟨b, x, m, ?_, frX.rf, ?_, hM, frB.rf⟩
    · rw [b_Hb_figuresTold_6, if_pos (show (10 : Int32) ≤ nI 10 from by decide)]
    · rw [b_Mo_whatIs_60, if_neg one_ne0, b_Mo_whatIs_74, if_pos (show (10 : Int32) ≤ nI 10 from by decide)]
  | succ k ih =>
    intro n j b x m hj hn hR hX hM hK
    obtain ⟨n, rfl⟩ : ∃ m, n = m + 1 := ⟨n - 1, by omega⟩
    have hVs : VH (fiS j (ls A h)) := ⟨hVh.1, by show j < 10; omega, hVh.2.2.1, hVh.2.2.2.1, hVh.2.2.2.2⟩
    have hVA : VA (setS A h (fiS j (ls A h))) := setS_V hV hVs
    obtain ⟨x1, e1, s1, f1⟩ := st_become_n (o := 64) (o1 := 22 + h) (x := x) (by omega) (LnX_s hX hl)
    have s1' : xst (x_up x1 64 1 (nI j)) 64 (ls (setS A h (fiS j (ls A h))) h) := by
      rw [ls_set]
      exact xst_upg s1 (fun _ => rfl) (fun e => absurd rfl e) (fun _ => rfl) (fun _ => rfl) (fun _ => rfl) (fun e => absurd e (by decide)) (fun _ => rfl) (fun e => absurd e (by decide)) (fun e => absurd e (by decide)) (fun e => absurd e (by decide))
    have f1' : frO 64 x (x_up x1 64 1 (nI j)) := f1.tr frO.up
    have fX1 : frX x (x_up x1 64 1 (nI j)) := f1'.X (by omega)
    have hM1 : LnM (x_up m.1 85 h (nI j), m.2) (setS A h (fiS j (ls A h))) := LnM_upg hM (by decide) (mst_upg (hM.2.2.2 h hl) (fun _ => rfl) (fun e => absurd rfl e) (fun _ => rfl) (fun _ => rfl) (fun _ => rfl) (fun e => absurd e (by decide)) (fun _ => rfl) (fun e => absurd e (by decide)) (fun e => absurd e (by decide)) (fun e => absurd e (by decide)))
    have u1 : frB m (x_up m.1 85 h (nI j), m.2) := (frA.up.M (by omega) (by omega)).B
    have same : x_up m.1 84 h (m.1 84 h) = m.1 := x_up_same rfl
    obtain ⟨r, x2, m2, p0, p1, p2, p3, p4, p5, p6⟩ := told_n (A' := setS A h (fiS j (ls A h))) hV hd hl hy (Rw_fr hR fX1 u1.S) (LnX_X hX hV fX1) s1' hVA rfl rfl hM1 (LkM_B (by omega) hK u1)
    have fX : frX x x2 := fX1.tr (p2.X (by omega))
    have fB : frB m m2 := u1.tr p6
    have hR2 := Rw_fr hR fX fB.S
    have eX : b_Hb_figuresTold_6 (67 + d) (nI h) (nI y) (n + 1) b (nI j) x = b_Hb_figuresTold_6 (67 + d) (nI h) (nI y) n (if r = 0 then b else b ||| (1 <<< (nI j &&& 31))) (nI (j + 1)) x2 := by
      rw [b_Hb_figuresTold_6, show (10 : Int32) = nI 10 from rfl]
      simp only [n_le (show 10 < 2147483648 by omega) (show j < 2147483648 by omega)]
      rw [if_neg (by omega), gI_n h7 (by omega), sid10 h7, e1, bd_s, lt_e]
      dsimp only
      rw [p1, bd_s]
      simp only [b_Hb_figuresTold_60, show nI j + 1 = nI (j + 1) from n_add j 1]
      split <;> rfl
    have eM : b_Mo_whatIs_60 (nI d) (nI h) (nI y) 1 (n + 1) b (nI j) m = b_Mo_whatIs_60 (nI d) (nI h) (nI y) 1 n (if r = 0 then b else b ||| (1 <<< (nI j &&& 31))) (nI (j + 1)) m2 := by
      rw [b_Mo_whatIs_60, if_neg one_ne0, b_Mo_whatIs_74, show (10 : Int32) = nI 10 from rfl]
      simp only [n_le (show 10 < 2147483648 by omega) (show j < 2147483648 by omega)]
      rw [if_neg (by omega), if_neg one_ne0, gI_n h7 (by omega), hn9, b_Mo_whatIs_98, gI_n h7 (by omega), hn9, lt_e, if_pos rfl, b_Mo_whatIs_121, gI_n h7 (by omega), hn9, lt_e]
      dsimp only
      rw [same, p3, bd_s]
      simp only [b_Mo_whatIs_142, Int32.or_zero, show nI j + 1 = nI (j + 1) from n_add j 1]
      split <;> rfl
    rw [eX, eM]
    obtain ⟨r2, x', m', q1, q2, q3, q4, q5⟩ := ih n (j + 1) (if r = 0 then b else b ||| (1 <<< (nI j &&& 31))) x2 m2 (by omega) (by omega) hR2 (LnX_X hX hV fX) p4 p5
    exact ⟨r2, x', m', q1, fX.tr q2, q3, q4, fB.tr q5⟩
theorem op_whatIs (a1 a2 a3 a4 : Int32) : St2 IV (f_Hb_whatIs a1 a2 a3 a4) (f_Mo_whatIs a1 a2 a3 a4) := by
  intro x m ⟨A, hV, hX, hM, hr⟩
  show R2 _ _
  unfold f_Hb_whatIs f_Mo_whatIs
  refine R2_14 hM hr fun m hM hr => ?_
  have hI : IV x m := ⟨A, hV, hX, hM, hr⟩
  have e40 : ∀ c, rfc c → b_Mo_whatIs_40 a1 a2 a3 a4 c m = some (c, m) := fun c hc => by
    unfold b_Mo_whatIs_40
    rw [if_neg (rfc_neg hc)]
  refine g_horse hV hX hM (R2_eq hI (-1) (if_pos rfl) ((if_pos rfl).trans (e40 _ (Or.inl rfl)))) fun h hl e => pass2 ?_
  refine g_yard (R2_eq hI (-1) (if_pos rfl) ((if_pos rfl).trans (e40 _ (Or.inl rfl)))) fun y hy e2 => pass2 ?_
  refine g_either (R2_eq hI (-1) (if_pos rfl) ((if_pos rfl).trans (e40 _ (Or.inl rfl)))) fun hw => pass2 ?_
  dsimp only
  rcases sh_row (v := a1) hr with ⟨c, hc, e3, e4⟩ | ⟨d, hd, ed, x0, m0, ⟨so, n, hR⟩, e3, e4⟩
  · rw [e3, e4, bd_s, bd_s]
    exact R2_eq hI c (if_neg (rfc_ne hc)) (e40 c hc)
  · rw [e3, e4, bd_s, bd_s, if_pos rfl, b_Mo_whatIs_40, if_pos (show (0 : Int32) ≤ 0 from by decide)]
    subst e e2 ed
    replace hR : Rw x m d so n := hR
    obtain ⟨m1, g1, b1, k1, l1⟩ := mo_open_n hM hV.1
    have hR1 : Rw x m1 d so n := Rw_fr hR frX.rf (l1.S (by omega) (by omega))
    rcases hw with hw | hw
    · subst hw
      obtain ⟨r, x', m', p1, p2, p3, p4, p5⟩ := kinds_l hV hd hl hy 8 fu 0 0 x m1 (by omega) (by decide) hR1 hX b1 k1
      refine R2_in (r := r) hV hr hX ?_ p2 ?_ p4 ((l1.tr p5.K).S (by omega) (by omega))
      · rw [if_pos rfl, gI_n hd (by omega), hid_n hd]
        have : f_Hb_kindsTold (67 + d) (nI h) (nI y) x = some (r, x') := p1
        rw [this, bd_s]
      · rw [g1, bd_s]
        exact p3
    · subst hw
      obtain ⟨r, x', m', p1, p2, p3, p4, p5⟩ := figs_l hV hd hl hy 10 fu 0 0 x m1 (by omega) (by decide) hR1 hX b1 k1
      refine R2_in (r := r) hV hr hX ?_ p2 ?_ p4 ((l1.tr p5.K).S (by omega) (by omega))
      · rw [if_neg one_ne0, gI_n hd (by omega), hid_n hd]
        have : f_Hb_figuresTold (67 + d) (nI h) (nI y) x = some (r, x') := p1
        rw [this, bd_s]
      · rw [g1, bd_s]
        exact p3

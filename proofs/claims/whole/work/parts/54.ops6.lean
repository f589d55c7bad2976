/-! Two, comes, cost, toss: both sides. -/
theorem n_rem {a b : Nat} (ha : a < 2147483648) (hb : b < 2147483648) : x_rem (nI a) (nI b) = nI (a % b) := by
  unfold x_rem
  rw [n_div ha hb, n_mul, n_sub (Nat.div_mul_le_self a b)]
  refine congrArg nI ?_
  have := Nat.div_add_mod a b
  rw [Nat.mul_comm] at this
  omega
def gN (mine theirs ch : Nat) : Int32 := if nI theirs ≤ nI mine then 0 + nI ch else 3 + nI ch
abbrev tN (y : Nat) (A : Ld) (h w : Nat) : Nat := latN y (w * 5) A h
abbrev bestC (y : Nat) (A : Ld) (a b p q : Nat) : Prop := gN (tN y A a p) (tN y A b q) p < gN (tN y A a (1 - p)) (tN y A b q) (1 - p)
theorem hb_gain_n {a b c : Nat} {x : XD} : f_Hb_gain (nI a) (nI b) (nI c) x = some (gN a b c, x) := by
  unfold f_Hb_gain gN
  split <;> rfl
theorem hb_best {A : Ld} {a b p q y : Nat} {x : XD} (hX : LnX x 10 A) (hV : VA A) (ha : a < ln A) (hb : b < ln A) (hp : p ≤ 1) (hq : q ≤ 1) (hy : y ≤ 20) : ∃ r x', f_Hb_isBest (nI a) (nI p) (nI b) (nI q) (nI y) x = some (r, x') ∧ (bestC y A a b p q → r = 0) ∧ (¬ bestC y A a b p q → r = 1) ∧ frX x x' := by
  have a7 : a < 7 := Nat.lt_of_lt_of_le ha hV.1
  have b7 : b < 7 := Nat.lt_of_lt_of_le hb hV.1
  obtain ⟨x1, e1, f1⟩ := hb_dlr (h := b) (w := q * 5) hX hV hb hy (by omega)
  obtain ⟨x2, e2, f2⟩ := hb_dlr (h := a) (w := p * 5) (LnX_X hX hV f1) hV ha hy (by omega)
  obtain ⟨x3, e3, f3⟩ := hb_dlr (h := a) (w := (1 - p) * 5) (LnX_X hX hV (f1.tr f2)) hV ha hy (by omega)
  have m1 : nI q * 5 = nI (q * 5) := n_mul q 5
  have m2 : nI p * 5 = nI (p * 5) := n_mul p 5
  have m0 : (1 : Int32) - nI p = nI (1 - p) := n_sub hp
  have m3 : nI (1 - p) * 5 = nI ((1 - p) * 5) := n_mul (1 - p) 5
  have key : f_Hb_isBest (nI a) (nI p) (nI b) (nI q) (nI y) x = if gN (tN y A a p) (tN y A b q) p < gN (tN y A a (1 - p)) (tN y A b q) (1 - p) then some (0, x3) else some (1, x3) := by
    unfold f_Hb_isBest
    rw [gI_n b7 (by omega), sid10 b7, m1, e1, bd_s]
    dsimp only
    rw [gI_n a7 (by omega), sid10 a7, m2, e2, bd_s]
    dsimp only
    rw [gI_n a7 (by omega), m0, m3, e3, bd_s]
    dsimp only
    rw [hb_gain_n, bd_s]
    dsimp only
    rw [hb_gain_n, bd_s]
  by_cases c : bestC y A a b p q
  · exact ⟨0, x3, by rw [key]; exact if_pos c, fun _ => rfl, fun h => absurd c h, (f1.tr f2).tr f3⟩
  · exact ⟨1, x3, by rw [key]; exact if_neg c, fun h => absurd h c, fun _ => rfl, (f1.tr f2).tr f3⟩
/-- what the reference has noted -/
def TwM (m : MD) (y : Nat) (A : Ld) (a b j : Nat) : Prop := ∀ w, w < j → m.1 102 w = nI (tN y A a w) ∧ m.1 102 (2 + w) = nI (tN y A b w)
theorem mo_by0 {m : MD} {y : Nat} {A : Ld} {a b p q : Nat} (h : TwM m y A a b 2) (hp : p ≤ 1) (hq : q ≤ 1) : f_Mo_hasBy 0 (nI p) (nI q) m = some (gN (tN y A a p) (tN y A b q) p, m) := by
  unfold f_Mo_hasBy gN
  have e1 : (0 : Int32) + nI p = nI p := by rw [show (0 : Int32) = nI 0 from rfl, n_add, Nat.zero_add]
  have e2 : (2 : Int32) - 0 + nI q = nI (2 + q) := by rw [show (2 : Int32) - 0 = nI 2 from by decide, n_add]
  rw [e2]
  rw [show gI ((0 : Int32) + nI p) 4 = gI (nI p) 4 (α := Int32 × MD) from by rw [e1], gI_n (by omega) (by omega), gI_n (by omega) (by omega), e1, n_nat (by omega), n_nat (by omega), (h p (by omega)).1, (h q (by omega)).2]
  split
  · rw [← e1]
  · rfl
theorem mo_by2 {m : MD} {y : Nat} {A : Ld} {a b p q : Nat} (h : TwM m y A a b 2) (hp : p ≤ 1) (hq : q ≤ 1) : f_Mo_hasBy 2 (nI p) (nI q) m = some (gN (tN y A b p) (tN y A a q) p, m) := by
  unfold f_Mo_hasBy gN
  have e1 : (2 : Int32) + nI p = nI (2 + p) := n_add 2 p
  have e2 : (2 : Int32) - 2 + nI q = nI q := by rw [show (2 : Int32) - 2 = nI 0 from by decide, n_add, Nat.zero_add]
  rw [e2, e1, gI_n (by omega) (by omega), gI_n (by omega) (by omega), n_nat (by omega), n_nat (by omega), (h p (by omega)).2, (h q (by omega)).1]
  split <;> rfl
theorem two_l {A : Ld} {a b y : Nat} (hV : VA A) (ha : a < ln A) (hb : b < ln A) (hy : y ≤ 20) : ∀ (k n j : Nat) (x : XD) (m : MD), j + k = 4 → k < n → LnX x 10 A → TwM m y A a b 2 → ∃ r x', b_Hb_two_33 (nI a) (nI b) (nI y) n (nI j) x = some (r, x') ∧ frX x x' ∧ b_Mo_two_85 n (nI j) m = some (r, m) := by
  intro k
  induction k with
  | zero =>
    intro n j x m hj hn hX hT
    obtain ⟨n, rfl⟩ : ∃ m, n = m + 1 := ⟨n - 1, by omega⟩
    obtain rfl : j = 4 := by omega
    refine ⟨-4, x, ?_, frX.rf, ?_⟩
    · rw [b_Hb_two_33, if_pos (show (4 : Int32) ≤ nI 4 from by decide)]
    · rw [b_Mo_two_85, if_pos (show (4 : Int32) ≤ nI 4 from by decide)]
  | succ k ih =>
    intro n j x m hj hn hX hT
    obtain ⟨n, rfl⟩ : ∃ m, n = m + 1 := ⟨n - 1, by omega⟩
    have d1 : nI j / 2 = nI (j / 2) := n_div (a := j) (b := 2) (by omega) (by omega)
    have d2 : x_rem (nI j) 2 = nI (j % 2) := n_rem (a := j) (b := 2) (by omega) (by omega)
    have p1 : j / 2 ≤ 1 := by omega
    have q1 : j % 2 ≤ 1 := by omega
    have c1 : (1 : Int32) - nI (j / 2) = nI (1 - j / 2) := n_sub p1
    have c2 : (1 : Int32) - nI (j % 2) = nI (1 - j % 2) := n_sub q1
    obtain ⟨r1, x1, e1, u1, w1, f1⟩ := hb_best (a := a) (b := b) hX hV ha hb p1 q1 hy
    obtain ⟨r2, x2, e2, u2, w2, f2⟩ := hb_best (a := b) (b := a) (LnX_X hX hV f1) hV hb ha q1 p1 hy
    have eX : b_Hb_two_33 (nI a) (nI b) (nI y) (n + 1) (nI j) x = if r1 = 0 then b_Hb_two_33 (nI a) (nI b) (nI y) n (nI (j + 1)) x1 else if r2 = 0 then b_Hb_two_33 (nI a) (nI b) (nI y) n (nI (j + 1)) x2 else some (10 * nI (j / 2) + nI (j % 2), x2) := by
      rw [b_Hb_two_33, show (4 : Int32) = nI 4 from rfl]
      simp only [n_le (show 4 < 2147483648 by omega) (show j < 2147483648 by omega)]
      rw [if_neg (by omega), d1, d2, e1, bd_s]
      dsimp only
      rw [e2, bd_s]
      simp only [b_Hb_two_88, show nI j + 1 = nI (j + 1) from n_add j 1]
    have eM : b_Mo_two_85 (n + 1) (nI j) m = if bestC y A a b (j / 2) (j % 2) then b_Mo_two_85 n (nI (j + 1)) m else if bestC y A b a (j % 2) (j / 2) then b_Mo_two_85 n (nI (j + 1)) m else some (10 * nI (j / 2) + nI (j % 2), m) := by
      rw [b_Mo_two_85, show (4 : Int32) = nI 4 from rfl]
      simp only [n_le (show 4 < 2147483648 by omega) (show j < 2147483648 by omega)]
      rw [if_neg (by omega), d1, d2, mo_by0 hT p1 q1, bd_s]
      dsimp only
      rw [c1, mo_by0 hT (by omega) q1, bd_s]
      dsimp only
      rw [mo_by2 hT q1 p1, bd_s]
      dsimp only
      rw [c2, mo_by2 hT (by omega) p1, bd_s]
      simp only [b_Mo_two_158, show nI j + 1 = nI (j + 1) from n_add j 1]
    by_cases z1 : bestC y A a b (j / 2) (j % 2)
    · obtain ⟨r, x', g1, g2, g3⟩ := ih n (j + 1) x1 m (by omega) (by omega) (LnX_X hX hV f1) hT
      exact ⟨r, x', by rw [eX, if_pos (u1 z1)]; exact g1, f1.tr g2, by rw [eM, if_pos z1]; exact g3⟩
    · have n1 : ¬ r1 = 0 := by rw [w1 z1]; decide
      by_cases z2 : bestC y A b a (j % 2) (j / 2)
      · obtain ⟨r, x', g1, g2, g3⟩ := ih n (j + 1) x2 m (by omega) (by omega) (LnX_X hX hV (f1.tr f2)) hT
        exact ⟨r, x', by rw [eX, if_neg n1, if_pos (u2 z2)]; exact g1, (f1.tr f2).tr g2, by rw [eM, if_neg z1, if_pos z2]; exact g3⟩
      · have n2 : ¬ r2 = 0 := by rw [w2 z2]; decide
        exact ⟨_, x2, by rw [eX, if_neg n1, if_neg n2], f1.tr f2, by rw [eM, if_neg z1, if_neg z2]⟩
theorem two_38 {A : Ld} {a b y : Nat} (hV : VA A) (ha : a < ln A) (hb : b < ln A) (hy : y ≤ 20) : ∀ (k n j : Nat) (m : MD), j + k = 2 → k < n → LnM m A → TwM m y A a b j → ∃ m', b_Mo_two_38 (nI a) (nI b) (nI y) n (nI j) m = b_Mo_two_85 fu 0 m' ∧ LnM m' A ∧ TwM m' y A a b 2 ∧ frS m m' := by
  intro k
  induction k with
  | zero =>
    intro n j m hj hn hM hT
    obtain ⟨n, rfl⟩ : ∃ m, n = m + 1 := ⟨n - 1, by omega⟩
    obtain rfl : j = 2 := by omega
    exact ⟨m, by rw [b_Mo_two_38, if_pos (show (2 : Int32) ≤ nI 2 from by decide)], hM, hT, frS.rf⟩
  | succ k ih =>
    intro n j m hj hn hM hT
    obtain ⟨n, rfl⟩ : ∃ m, n = m + 1 := ⟨n - 1, by omega⟩
    obtain ⟨m1, e1, a1, f1⟩ := mo_waited (w := j) hM hV ha hy (by omega)
    have h1 : LnM (x_up m1.1 102 j (nI (latN y (5 * j) A a)), m1.2) A := LnM_fr a1 (fun k h1 h2 => x_up_ne (by omega)) (fun i _ => by
      show x_up m1.1 102 j (nI (latN y (5 * j) A a)) 83 i = _
      rw [x_up_ne (by decide)])
    obtain ⟨m2, e2, a2, f2⟩ := mo_waited (w := j) h1 hV hb hy (by omega)
    have h2 : LnM (x_up m2.1 102 (2 + j) (nI (latN y (5 * j) A b)), m2.2) A := LnM_fr a2 (fun k h1 h2 => x_up_ne (by omega)) (fun i _ => by
      show x_up m2.1 102 (2 + j) (nI (latN y (5 * j) A b)) 83 i = _
      rw [x_up_ne (by decide)])
    have g1 : m1.1 102 = m.1 102 := f1.2.1 102 (by omega) (by omega)
    have g2 : m2.1 102 = x_up m1.1 102 j (nI (latN y (5 * j) A a)) 102 := f2.2.1 102 (by omega) (by omega)
    have hT2 : TwM (x_up m2.1 102 (2 + j) (nI (latN y (5 * j) A b)), m2.2) y A a b (j + 1) := fun w hw => by
      show x_up m2.1 102 (2 + j) (nI (latN y (5 * j) A b)) 102 w = _ ∧ x_up m2.1 102 (2 + j) (nI (latN y (5 * j) A b)) 102 (2 + w) = _
      by_cases c : w = j
      · subst c
        rw [x_up_at, x_up_nj (by omega), g2, x_up_at, Nat.mul_comm]
        exact ⟨rfl, rfl⟩
      · rw [x_up_nj (by omega), x_up_nj (by omega), g2, x_up_nj c, x_up_nj (by omega), g1]
        exact hT w (by omega)
    obtain ⟨m', e3, a3, t3, f3⟩ := ih n (j + 1) _ (by omega) (by omega) h2 hT2
    refine ⟨m', ?_, a3, t3, ((((f1.S (by omega) (by omega)).tr (frS.up (a := 102) (Or.inr (by omega)) (fun e => absurd e (by decide)))).tr (f2.S (by omega) (by omega))).tr (frS.up (a := 102) (Or.inr (by omega)) (fun e => absurd e (by decide)))).tr f3⟩
    rw [← e3, b_Mo_two_38, show (2 : Int32) = nI 2 from rfl]
    simp only [n_le (show 2 < 2147483648 by omega) (show j < 2147483648 by omega)]
    rw [if_neg (by omega), e1, bd_s, gI_n (by omega) (by omega), n_nat (by omega), lt_e]
    dsimp only
    rw [e2, bd_s, n_add, gI_n (by omega) (by omega), n_nat (by omega), lt_e, show nI j + 1 = nI (j + 1) from n_add j 1]
theorem op_two (a1 a2 a3 : Int32) : St2 IV (f_Hb_two a1 a2 a3) (f_Mo_two a1 a2 a3) := by
  intro x m ⟨A, hV, hX, hM, hr⟩
  show R2 _ _
  unfold f_Hb_two f_Mo_two
  refine R2_14 hM hr fun m hM hr => ?_
  have hI : IV x m := ⟨A, hV, hX, hM, hr⟩
  refine g_horse hV hX hM (fail2 hI) fun h hl e => pass2 ?_
  refine g_horse hV hX hM (fail2 hI) fun i il e2 => pass2 ?_
  refine R2_ite (fun _ => R2_eq hI (-1) rfl rfl) fun _ => ?_
  refine g_yard (fail2 hI) fun y hy e3 => pass2 ?_
  subst e e2 e3
  obtain ⟨m1, e1, h1, t1, f1⟩ := two_38 hV hl il hy 2 fu 0 m (by omega) (by decide) hM (fun w hw => absurd hw (Nat.not_lt_zero w))
  obtain ⟨r, x', e2, f2, e3⟩ := two_l hV hl il hy 4 fu 0 x m1 (by omega) (by decide) hX t1
  exact R2_in (r := r) hV hr hX e2 f2 (e1.trans e3) h1 f1
def comeA (A : Ld) (s : Hs) : Ld := (ln A + 1, lo A, ldy A, fun j => if j = ln A then s else ls A j)
theorem come_V {A : Ld} {s : Hs} (hV : VA A) (hs : VH s) (h7 : ln A < 7) : VA (comeA A s) := ⟨h7, hV.2.1, fun i hi => by
  show VH (if i = ln A then s else ls A i)
  split
  · exact hs
  · exact hV.2.2 i (by have : i < ln A + 1 := hi; omega)⟩
theorem la_gets_0 {x : XD} {o : Nat} {A : Ld} {a b c d : Int32} (hX : LnX x o A) (hV : VA A) (h7 : ¬ ln A < 7) : f_La_gets o a b c d x = some (0, x) := by
  unfold f_La_gets
  rw [hX.1, show (7 : Int32) = nI 7 from rfl, if_neg]
  rw [n_lt (by have := hV.1; omega) (by omega)]
  exact h7
theorem la_gets_1 {x : XD} {o k f h a : Nat} {A : Ld} (ho : 10 ≤ o ∧ o < 16) (hX : LnX x o A) (h7 : ln A < 7) : ∃ x', f_La_gets o (nI k) (nI f) (nI h) (nI a) x = some (1, x') ∧ LnX x' o (comeA A (k, f, h, a, 0)) ∧ frL o x x' := by
  obtain ⟨h1, h2, h3, h4⟩ := hX
  have nq : 22 + 7 * (o - 10) + ln A ≠ o := by omega
  have nq2 : ¬ o = 22 + 7 * (o - 10) + ln A := by omega
  refine ⟨x_up (x_up (x_up (x_up (x_up (x_up x (22 + 7 * (o - 10) + ln A) 0 (nI k)) (22 + 7 * (o - 10) + ln A) 1 (nI f)) (22 + 7 * (o - 10) + ln A) 2 (nI h)) (22 + 7 * (o - 10) + ln A) 3 (nI a)) (22 + 7 * (o - 10) + ln A) 4 0) o 2 (nI (ln A) + 1), ?_, ⟨?_, ?_, ?_, fun i hi => ?_⟩, ?_⟩
  · unfold f_La_gets
    rw [h1, show (7 : Int32) = nI 7 from rfl, if_pos (by rw [n_lt (by omega) (by omega)]; exact h7), gI_n h7 (by omega), sid_n h7]
    simp only [lt_e]
    rw [x_up_ne nq2, x_up_ne nq2, x_up_ne nq2, x_up_ne nq2, x_up_ne nq2, h1]
  · exact x_up_at.trans (n_add (ln A) 1)
  · show x_up _ o 2 _ o 3 = nI (lo A)
    rw [x_up_nj (by decide), x_up_ne nq2, x_up_ne nq2, x_up_ne nq2, x_up_ne nq2, x_up_ne nq2, h2]
  · show x_up _ o 2 _ o 4 = ldy A
    rw [x_up_nj (by decide), x_up_ne nq2, x_up_ne nq2, x_up_ne nq2, x_up_ne nq2, x_up_ne nq2, h3]
  · have hi' : i < ln A + 1 := hi
    show xst _ _ (if i = ln A then _ else ls A i)
    by_cases c : i = ln A
    · rw [if_pos c, c]
      refine xst_fr (x := x_up (x_up (x_up (x_up (x_up x (22 + 7 * (o - 10) + ln A) 0 (nI k)) (22 + 7 * (o - 10) + ln A) 1 (nI f)) (22 + 7 * (o - 10) + ln A) 2 (nI h)) (22 + 7 * (o - 10) + ln A) 3 (nI a)) (22 + 7 * (o - 10) + ln A) 4 0) ?_ (x_up_ne nq)
      refine ⟨?_, ?_, ?_, ?_, ?_⟩
      · rw [x_up_nj (by decide), x_up_nj (by decide), x_up_nj (by decide), x_up_nj (by decide), x_up_at]
      · rw [x_up_nj (by decide), x_up_nj (by decide), x_up_nj (by decide), x_up_at]
      · rw [x_up_nj (by decide), x_up_nj (by decide), x_up_at]
      · rw [x_up_nj (by decide), x_up_at]
      · rw [x_up_at]; rfl
    · rw [if_neg c]
      have n1 : ¬ 22 + 7 * (o - 10) + i = 22 + 7 * (o - 10) + ln A := by omega
      refine xst_fr (h4 i (by omega)) ?_
      rw [x_up_ne (by omega), x_up_ne n1, x_up_ne n1, x_up_ne n1, x_up_ne n1, x_up_ne n1]
  · intro k' k1 k2
    have n1 : ¬ k' = 22 + 7 * (o - 10) + ln A := by omega
    rw [x_up_ne k1, x_up_ne n1, x_up_ne n1, x_up_ne n1, x_up_ne n1, x_up_ne n1]
theorem mo_yard_n {m : MD} {v : Nat} (hv : v < 1000) : f_Mo_isYard (nI v) m = some (if v ≤ 20 then 1 else 0, m) := by
  rw [mo_isYard_r]
  unfold rng
  rw [show (20 : Int32) = nI 20 from rfl, if_neg (nneg (by omega))]
  simp only [n_lt (show 20 < 2147483648 by omega) (show v < 2147483648 by omega)]
  by_cases c : v ≤ 20
  · rw [if_pos c, if_neg (by omega)]
  · rw [if_neg c, if_pos (by omega)]
theorem hb_yard_n {x : XD} {v : Nat} (hv : v < 1000) : f_Hb_isYard (nI v) x = some (if v ≤ 20 then 1 else 0, x) := by
  rw [hb_isYard]
  unfold rng
  rw [show (20 : Int32) = nI 20 from rfl, if_neg (nneg (by omega))]
  simp only [n_lt (show 20 < 2147483648 by omega) (show v < 2147483648 by omega)]
  by_cases c : v ≤ 20
  · rw [if_pos c, if_neg (by omega)]
  · rw [if_neg c, if_pos (by omega)]
theorem hc_34 {a b c d : Int32} {m : MD} : b_Mo_horseComes_34 a b c d m = some (0, m) := by
  unfold b_Mo_horseComes_34 b_Mo_horseComes_35
  rw [if_pos rfl]
  exact gB_0
theorem mo_come_0 {m : MD} {A : Ld} {k f h a : Nat} (hM : LnM m A) (hV : VA A) (hk : k < 1000) (hh : h < 1000) (ha : a < 1000) (hc : ¬ (k < 8 ∧ h ≤ 20 ∧ a ≤ 20 ∧ ln A < 7)) : f_Mo_horseComes (nI k) (nI f) (nI h) (nI a) m = some (0, m) := by
  have h7 := hV.1
  unfold f_Mo_horseComes
  rw [show (8 : Int32) = nI 8 from rfl, show (7 : Int32) = nI 7 from rfl]
  simp only [n_le (show 8 < 2147483648 by omega) (show k < 2147483648 by omega), mo_yard_n hh, mo_yard_n ha, bd_s, hc_34]
  by_cases c1 : 8 ≤ k
  · rw [if_pos c1]
  · rw [if_neg c1]
    by_cases c2 : h ≤ 20
    · rw [if_pos c2, if_neg one_ne0]
      by_cases c3 : a ≤ 20
      · rw [if_pos c3, if_neg one_ne0, hM.1, if_pos]
        rw [n_le (by omega) (by omega)]
        omega
      · rw [if_neg c3, if_pos rfl]
    · rw [if_neg c2, if_pos rfl]
theorem mo_come_1 {m : MD} {A : Ld} {k f h a : Nat} (hM : LnM m A) (hk : k < 8) (hh : h ≤ 20) (ha : a ≤ 20) (h7 : ln A < 7) : ∃ m', f_Mo_horseComes (nI k) (nI f) (nI h) (nI a) m = some (1, m') ∧ LnM m' (comeA A (k, f, h, a, 0)) ∧ frM m m' := by
  obtain ⟨h1, h2, h3, h4⟩ := hM
  have q : ∀ (w : XD) (i : Nat) (v : Int32), 83 < i → x_up w i (ln A) v 83 = w 83 := fun w i v hi => x_up_ne (by omega)
  have q84 := fun w v => q w 84 v (by omega)
  have q85 := fun w v => q w 85 v (by omega)
  have q86 := fun w v => q w 86 v (by omega)
  have q87 := fun w v => q w 87 v (by omega)
  have q88 := fun w v => q w 88 v (by omega)
  refine ⟨(x_up (x_up (x_up (x_up (x_up (x_up m.1 84 (ln A) (nI k)) 85 (ln A) (nI f)) 86 (ln A) (nI h)) 87 (ln A) (nI a)) 88 (ln A) 0) 83 0 (nI (ln A) + 1), m.2), ?_, ⟨?_, ?_, ?_, fun i hi => ?_⟩, ?_⟩
  · unfold f_Mo_horseComes b_Mo_horseComes_35
    rw [show (8 : Int32) = nI 8 from rfl, show (7 : Int32) = nI 7 from rfl, if_neg (by rw [n_le (by omega) (by omega)]; omega), mo_yard_n (by omega), bd_s, if_pos hh]
    dsimp only
    rw [if_neg one_ne0, mo_yard_n (by omega), bd_s, if_pos ha]
    dsimp only
    rw [if_neg one_ne0, h1, if_neg (by rw [n_le (by omega) (by omega)]; omega), if_neg one_ne0]
    simp only [lt_e, gI_n h7 (show 7 < 2147483648 by omega), n_nat (show ln A < 2147483648 by omega), q84, q85, q86, q87, q88, h1, gB_1]
  · dsimp only
    rw [x_up_at, show (1 : Int32) = nI 1 from rfl, n_add]
    rfl
  · dsimp only
    rw [x_up_nj (by decide), q88, q87, q86, q85, q84, h2]
    rfl
  · dsimp only
    rw [x_up_nj (by decide), q88, q87, q86, q85, q84, h3]
    rfl
  · have hi' : i < ln A + 1 := hi
    show mst _ _ (if i = ln A then _ else ls A i)
    by_cases c : i = ln A
    · rw [if_pos c, c]
      refine ⟨?_, ?_, ?_, ?_, ?_⟩ <;> simp [x_up]
      rfl
    · rw [if_neg c]
      obtain ⟨s0, s1, s2, s3, s4⟩ := h4 i (by omega)
      refine ⟨?_, ?_, ?_, ?_, ?_⟩
      · dsimp only
        rw [x_up_ne (by decide), x_up_nj c, x_up_nj c, x_up_nj c, x_up_nj c, x_up_nj c, s0]
      · dsimp only
        rw [x_up_ne (by decide), x_up_nj c, x_up_nj c, x_up_nj c, x_up_nj c, x_up_nj c, s1]
      · dsimp only
        rw [x_up_ne (by decide), x_up_nj c, x_up_nj c, x_up_nj c, x_up_nj c, x_up_nj c, s2]
      · dsimp only
        rw [x_up_ne (by decide), x_up_nj c, x_up_nj c, x_up_nj c, x_up_nj c, x_up_nj c, s3]
      · dsimp only
        rw [x_up_ne (by decide), x_up_nj c, x_up_nj c, x_up_nj c, x_up_nj c, x_up_nj c, s4]
  · exact ((((((frA.up (a := 84)).M (by omega) (by omega)).tr ((frA.up (a := 85)).M (by omega) (by omega))).tr ((frA.up (a := 86)).M (by omega) (by omega))).tr ((frA.up (a := 87)).M (by omega) (by omega))).tr ((frA.up (a := 88)).M (by omega) (by omega))).tr (frM.up (Or.inl rfl))
theorem op_comes (a1 a2 a3 : Int32) : St2 IV (f_Hb_comes a1 a2 a3) (f_Mo_comes a1 a2 a3) := by
  intro x m ⟨A, hV, hX, hM, hr⟩
  show R2 _ _
  unfold f_Hb_comes f_Mo_comes
  refine R2_14 hM hr fun m hM hr => ?_
  have hI : IV x m := ⟨A, hV, hX, hM, hr⟩
  have e28 : ∀ c, rfc c → b_Mo_comes_28 a1 a2 a3 c m = some (c, m) := fun c hc => by
    unfold b_Mo_comes_28
    rw [if_neg]
    rcases hc with h | h | h <;> rw [h] <;> decide
  refine g_yard (R2_eq hI (-1) (if_pos rfl) ((if_pos rfl).trans (e28 _ (Or.inl rfl)))) fun h hh e => pass2 ?_
  refine g_yard (R2_eq hI (-1) (if_pos rfl) ((if_pos rfl).trans (e28 _ (Or.inl rfl)))) fun a ha e2 => pass2 ?_
  dsimp only
  rcases sh_kind (v := a1) hr with ⟨c, hc, e3, e4⟩ | ⟨d, hd, ed, x0, m0, ⟨k, f, hk, hf, q1, q2, q3, q4⟩, e3, e4⟩
  · rw [e3, e4, bd_s, bd_s]
    refine R2_eq hI c (if_neg ?_) (e28 c hc)
    show ¬ c = 0
    rcases hc with h | h | h <;> rw [h] <;> decide
  · rw [e3, e4, bd_s, bd_s, if_pos rfl]
    subst ed
    dsimp only
    rw [gI_n hd (by omega), gI_n hd (by omega), hid_n hd, q1, q3, e, e2, b_Mo_comes_28, if_pos (show (0 : Int32) ≤ 0 from by decide), gI_n hd (by omega), gI_n hd (by omega), n_nat (by omega), q2, q4]
    by_cases c7 : ln A < 7
    · obtain ⟨x', g1, g2, g3⟩ := la_gets_1 (o := 10) (k := k) (f := f) (h := h) (a := a) (by decide) hX c7
      obtain ⟨m', u1, u2, u3⟩ := mo_come_1 (k := k) (f := f) (h := h) (a := a) hM hk hh ha c7
      rw [g1, bd_s, u1, bd_s]
      have hu : m'.1 83 0 - 1 = nI (ln A) := by
        rw [u2.1]
        show nI (ln A + 1) - 1 = _
        rw [show (1 : Int32) = nI 1 from rfl, n_sub (by omega)]
        rfl
      refine pass2 ?_
      dsimp only
      rw [hX.1, hu]
      exact R2_fin (come_V hV ⟨hk, hf, hh, ha, Nat.zero_le _⟩ c7) hr g2 u2 g3.R u3.B.S
    · rw [la_gets_0 hX hV c7, bd_s, mo_come_0 hM hV (by omega) (by omega) (by omega) (fun z => c7 z.2.2.2), bd_s]
      exact fail2 hI
theorem op_cost (a1 : Int32) : St2 IV (f_Hb_cost a1) (f_Mo_cost a1) := by
  intro x m ⟨A, hV, hX, hM, hr⟩
  show R2 _ _
  unfold f_Hb_cost f_Mo_cost
  refine R2_14 hM hr fun m hM hr => ?_
  have hI : IV x m := ⟨A, hV, hX, hM, hr⟩
  rcases sh_kind (v := a1) hr with ⟨c, hc, e3, e4⟩ | ⟨d, hd, ed, x0, m0, ⟨k, f, hk, hf, q1, q2, q3, q4⟩, e3, e4⟩
  · rw [e3, e4, bd_s, bd_s]
    refine R2_eq hI c (if_neg ?_) ?_
    · show ¬ c = 0
      rcases hc with h | h | h <;> rw [h] <;> decide
    · dsimp only
      rw [if_neg (show ¬ (0 : Int32) ≤ c from by rcases hc with h | h | h <;> rw [h] <;> decide), e4, bd_s]
  · rw [e3, e4, bd_s, bd_s, if_pos rfl, if_pos (show (0 : Int32) ≤ 0 from by decide)]
    subst ed
    dsimp only
    rw [gI_n hd (by omega), gI_n hd (by omega), hid_n hd, q1, q3, v_price_n hk hf, bd_s, gI_n hd (by omega), gI_n hd (by omega), n_nat (by omega), q2, q4, mo_costOf_n hk, bd_s]
    exact R2_eq hI _ rfl rfl
theorem op_toss (a1 : Int32) : St2 IV (f_Hb_toss a1) (f_Mo_toss a1) := by
  intro x m ⟨A, hV, hX, hM, hr⟩
  show R2 _ _
  unfold f_Hb_toss f_Mo_toss
  refine R2_14 hM hr fun m hM hr => ?_
  have hI : IV x m := ⟨A, hV, hX, hM, hr⟩
  rcases sh_kind (v := a1) hr with ⟨c, hc, e3, e4⟩ | ⟨d, hd, ed, x0, m0, ⟨k, f, hk, hf, q1, q2, q3, q4⟩, e3, e4⟩
  · rw [e3, e4, bd_s, bd_s]
    refine R2_eq hI c (if_neg ?_) ?_
    · show ¬ c = 0
      rcases hc with h | h | h <;> rw [h] <;> decide
    · dsimp only
      rw [if_neg (show ¬ (0 : Int32) ≤ c from by rcases hc with h | h | h <;> rw [h] <;> decide), e4, bd_s]
  · rw [e3, e4, bd_s, bd_s, if_pos rfl, if_pos (show (0 : Int32) ≤ 0 from by decide)]
    subst ed
    dsimp only
    rw [gI_n hd (by omega), hid_n hd, q1, q3, gI_n hd (by omega), gI_n hd (by omega), n_nat (by omega), q2, q4, mo_costOf_n hk, bd_s]
    unfold f_toss2 xthr
    rw [gI_n hk (by omega), bd_s, v_price_n hk hf, bd_s]
    by_cases z : nI f = 0
    · rw [z]
      refine R2_eq hI (-15) ?_ ?_
      · rw [if_pos rfl, ite_self, ite_self]
        exact if_pos rfl
      · rw [if_pos rfl, ite_self, ite_self]
    · rw [if_neg z, if_neg z]
      rcases kind8 hk with rfl | rfl | rfl | rfl | rfl | rfl | rfl | rfl
      · exact R2_eq hI _ rfl rfl
      · exact R2_eq hI _ rfl rfl
      · exact R2_eq hI _ rfl rfl
      · exact R2_eq hI _ rfl rfl
      · exact R2_eq hI _ rfl rfl
      · exact R2_eq hI _ rfl rfl
      · exact R2_eq hI _ rfl rfl
      · exact R2_eq hI _ rfl rfl

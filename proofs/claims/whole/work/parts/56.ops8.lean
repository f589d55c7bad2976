/-! Fractions, judge, forged, lands: both sides. -/
def lI (a : Nat) : Int64 := Int64.ofNat a
theorem l_int {a : Nat} (h : a < 9223372036854775808) : (lI a).toInt = (a : Int) := Int64.toInt_ofNat_of_lt h
theorem l_add (a b : Nat) : lI a + lI b = lI (a + b) := (Int64.ofNat_add a b).symm
theorem l_mul (a b : Nat) : lI a * lI b = lI (a * b) := (Int64.ofNat_mul a b).symm
theorem l_sub {a b : Nat} (h : b ≤ a) : lI a - lI b = lI (a - b) := by
  obtain ⟨c, rfl⟩ : ∃ c, a = b + c := ⟨a - b, by omega⟩
  rw [show b + c - b = c from by omega, ← l_add, Int64.add_comm, Int64.add_sub_cancel]
theorem l_eq {a b : Nat} (ha : a < 9223372036854775808) (hb : b < 9223372036854775808) : (lI a = lI b) = (a = b) := by
  apply propext
  constructor
  · intro h
    have := congrArg Int64.toInt h
    rw [l_int ha, l_int hb] at this
    omega
  · intro h; rw [h]
theorem l_div {a b : Nat} (ha : a < 9223372036854775808) (hb : b < 9223372036854775808) : lI a / lI b = lI (a / b) := by
  refine Int64.toInt_inj.mp ?_
  have h3 : a / b ≤ a := Nat.div_le_self a b
  rw [Int64.toInt_div, l_int ha, l_int hb, l_int (by omega)]
  rw [show ((a : Int).tdiv (b : Int)) = ((a / b : Nat) : Int) from by rw [Int.ofNat_tdiv]]
  generalize a / b = c at h3
  exact Int.bmod_eq_of_le (by omega) (by omega)
theorem l_remn {a b : Nat} (ha : a < 9223372036854775808) (hb : b < 9223372036854775808) : l_rem (lI a) (lI b) = lI (a % b) := by
  unfold l_rem
  rw [l_div ha hb, l_mul, l_sub (Nat.div_mul_le_self a b)]
  refine congrArg lI ?_
  have := Nat.div_add_mod a b
  rw [Nat.mul_comm] at this
  omega
theorem lgc_eq {a b : Int64} : (lg_cmp a b = 0) = (a = b) := by
  apply propext
  unfold lg_cmp
  by_cases c : a > b
  · rw [if_pos c]
    constructor
    · intro h; exact absurd h (by decide)
    · intro h; rw [h] at c; exact absurd c (Int64.lt_irrefl)
  · rw [if_neg c]
    by_cases c2 : a = b
    · rw [if_pos c2]
      exact ⟨fun _ => c2, fun _ => rfl⟩
    · rw [if_neg c2]
      exact ⟨fun h => absurd h (by decide), fun h => absurd h c2⟩
theorem lgc_0 {a : Nat} (h : a < 9223372036854775808) : (lg_cmp (lI a) 0 = 0) = (a = 0) := by
  rw [lgc_eq, show (0 : Int64) = lI 0 from rfl, l_eq h (by omega)]
theorem li_0 {a : Nat} (h : a < 9223372036854775808) : (lI a = 0) = (a = 0) := by
  rw [show (0 : Int64) = lI 0 from rfl, l_eq h (by omega)]
theorem n_long {a : Nat} (h : a < 2147483648) : (nI a).toInt64 = lI a := by
  refine Int64.toInt_inj.mp ?_
  rw [Int32.toInt_toInt64, n_int h, l_int (by omega)]
theorem gcd_step {a b : Nat} (h : b ≠ 0) : Nat.gcd b (a % b) = Nat.gcd a b := by
  rw [Nat.gcd_comm b (a % b), ← Nat.gcd_rec, Nat.gcd_comm]
theorem half_rem {r b : Nat} (h0 : r ≠ 0) (h : r < b) : 2 * (b % r) < b := by
  have h1 : b % r < r := Nat.mod_lt b (by omega)
  have h2 : b % r ≤ b - r := by
    rw [Nat.mod_eq_sub_mod (by omega)]
    exact Nat.mod_le _ _
  omega
theorem mo_gcd {m : MD} : ∀ (k n a b : Nat), b < 2 ^ k → 2 * k + 1 < n → a < 9223372036854775808 → b < 9223372036854775808 → b_Mo_divisor_6 n (lI a) (lI b) m = some (lI (Nat.gcd a b), m) := by
  intro k
  induction k with
  | zero =>
    intro n a b hb hn ha hb2
    obtain ⟨n, rfl⟩ : ∃ m, n = m + 1 := ⟨n - 1, by omega⟩
    have : b = 0 := by omega
    subst this
    rw [b_Mo_divisor_6]
    simp only [lgc_0 (show 0 < 9223372036854775808 by omega)]
    rw [if_pos trivial, Nat.gcd_zero_right]
  | succ k ih =>
    intro n a b hb hn ha hb2
    obtain ⟨n, rfl⟩ : ∃ m, n = m + 1 := ⟨n - 1, by omega⟩
    obtain ⟨n, rfl⟩ : ∃ m, n = m + 1 := ⟨n - 1, by omega⟩
    rw [b_Mo_divisor_6]
    simp only [lgc_0 hb2, li_0 hb2]
    by_cases c : b = 0
    · rw [if_pos c, c, Nat.gcd_zero_right]
    · rw [if_neg c, if_neg c, l_remn ha hb2, b_Mo_divisor_6]
      have hr : a % b < b := Nat.mod_lt a (by omega)
      have hr2 : a % b < 9223372036854775808 := by omega
      simp only [lgc_0 hr2, li_0 hr2]
      by_cases c2 : a % b = 0
      · rw [if_pos c2, ← gcd_step c, c2, Nat.gcd_zero_right]
      · rw [if_neg c2, if_neg c2, l_remn hb2 hr2]
        have hh2 := half_rem c2 hr
        rw [ih n (a % b) (b % (a % b)) (by rw [Nat.pow_succ] at hb; omega) (by omega) hr2 (by omega), gcd_step c2, gcd_step c]
theorem hb_gcd {x : XD} {v0 v2 : Int64} {v4 : Int32} : ∀ (k n a b c : Nat), b < 2 ^ k → 2 * k + 1 < n → 2 * k + 1 + c < 130 → a < 9223372036854775808 → b < 9223372036854775808 → b_Hb_partOf_9 v0 v2 v4 n (lI a) (lI b) (nI c) x = b_Hb_partOf_45 v0 v2 v4 (lI (Nat.gcd a b)) x := by
  intro k
  induction k with
  | zero =>
    intro n a b q hb hn hq ha hb2
    obtain ⟨n, rfl⟩ : ∃ m, n = m + 1 := ⟨n - 1, by omega⟩
    have : b = 0 := by omega
    subst this
    rw [b_Hb_partOf_9, show (130 : Int32) = nI 130 from rfl]
    simp only [lgc_0 (show 0 < 9223372036854775808 by omega), n_le (show 130 < 2147483648 by omega) (show q < 2147483648 by omega)]
    rw [if_neg (by omega), if_pos trivial, Nat.gcd_zero_right]
  | succ k ih =>
    intro n a b q hb hn hq ha hb2
    obtain ⟨n, rfl⟩ : ∃ m, n = m + 1 := ⟨n - 1, by omega⟩
    obtain ⟨n, rfl⟩ : ∃ m, n = m + 1 := ⟨n - 1, by omega⟩
    rw [b_Hb_partOf_9, show (130 : Int32) = nI 130 from rfl]
    simp only [lgc_0 hb2, li_0 hb2, n_le (show 130 < 2147483648 by omega) (show q < 2147483648 by omega)]
    rw [if_neg (by omega)]
    by_cases c : b = 0
    · rw [if_pos c, c, Nat.gcd_zero_right]
    · rw [if_neg c, if_neg c, l_remn ha hb2, show nI q + 1 = nI (q + 1) from n_add q 1, b_Hb_partOf_9, show (130 : Int32) = nI 130 from rfl]
      have hr : a % b < b := Nat.mod_lt a (by omega)
      have hr2 : a % b < 9223372036854775808 := by omega
      simp only [lgc_0 hr2, li_0 hr2, n_le (show 130 < 2147483648 by omega) (show q + 1 < 2147483648 by omega)]
      rw [if_neg (by omega)]
      by_cases c2 : a % b = 0
      · rw [if_pos c2, ← gcd_step c, c2, Nat.gcd_zero_right]
      · rw [if_neg c2, if_neg c2, l_remn hb2 hr2, show nI (q + 1) + 1 = nI (q + 2) from n_add (q + 1) 1]
        have hh2 := half_rem c2 hr
        rw [ih n (a % b) (b % (a % b)) (q + 2) (by rw [Nat.pow_succ] at hb; omega) (by omega) (by omega) hr2 (by omega), gcd_step c2, gcd_step c]
/-- a part of a fraction -/
def partN (a b : Nat) (p : Int32) : Int64 := if p = 0 then lI (a / Nat.gcd a b) else lI (b / Nat.gcd a b)
theorem hb_part {x : XD} {a b : Nat} {p : Int32} (ha : a < 2147483648) (hb : b < 2147483648) (h0 : 0 < b) : f_Hb_partOf (lI a) (lI b) p x = some (partN a b p, x) := by
  have hg : 0 < Nat.gcd a b := Nat.gcd_pos_of_pos_right a h0
  have hg2 : Nat.gcd a b ≤ b := Nat.gcd_le_right a h0
  have e := hb_gcd (x := x) (v0 := lI a) (v2 := lI b) (v4 := p) 31 fu b a 0 (by omega) (by decide) (by omega) (by omega) (by omega)
  unfold f_Hb_partOf
  rw [show (0 : Int32) = nI 0 from rfl, e, Nat.gcd_comm]
  unfold b_Hb_partOf_45 partN
  have z : ¬ Nat.gcd a b = 0 := by omega
  simp only [lgc_0 (show Nat.gcd a b < 9223372036854775808 by omega), li_0 (show Nat.gcd a b < 9223372036854775808 by omega), z, if_false]
  rw [l_div (a := a) (b := Nat.gcd a b) (by omega) (by omega), l_div (a := b) (b := Nat.gcd a b) (by omega) (by omega)]
  split <;> rfl
theorem mo_part {m : MD} {a b : Nat} {p : Int32} (ha : a < 2147483648) (hb : b < 2147483648) (h0 : 0 < b ∨ a = 0) (hp : p = 0 ∨ p = 1) : f_Mo_partOf (lI a) (lI b) p m = some (partN a (max 1 b) p, m) := by
  unfold f_Mo_partOf
  simp only [lgc_0 (show a < 9223372036854775808 by omega)]
  by_cases c : a = 0
  · rw [if_pos c]
    subst c
    unfold partN
    rw [Nat.gcd_zero_left, Nat.zero_div, Nat.div_self (by omega)]
    rcases hp with h | h <;> subst h <;> rfl
  · have hb0 : 0 < b := by omega
    rw [show max 1 b = b by omega, if_neg c]
    have hg : 0 < Nat.gcd a b := Nat.gcd_pos_of_pos_right a hb0
    have hg2 : Nat.gcd a b ≤ b := Nat.gcd_le_right a hb0
    unfold f_Mo_divisor
    rw [mo_gcd 31 fu a b (by omega) (by decide) (by omega) (by omega), bd_s]
    unfold partN
    have z : ¬ Nat.gcd a b = 0 := by omega
    simp only [li_0 (show Nat.gcd a b < 9223372036854775808 by omega), z, if_false]
    rw [l_div (a := a) (b := Nat.gcd a b) (by omega) (by omega), l_div (a := b) (b := Nat.gcd a b) (by omega) (by omega)]
    split <;> rfl
theorem op_mean (a1 : Int32) : St2 IV (f_Hb_mean a1) (f_Mo_mean a1) := by
  intro x m ⟨A, hV, hX, hM, hr⟩
  show R2 _ _
  unfold f_Hb_mean f_Mo_mean
  refine R2_14 hM hr fun m hM hr => ?_
  have hI : IV x m := ⟨A, hV, hX, hM, hr⟩
  refine g_either (fail2 hI) fun hp => pass2 ?_
  have h7 := hV.1
  have hs : sumK hlo (ls A) (ln A) ≤ ln A * 99 := sumK_le _ (fun h hl => (hV.2.2 h hl).2.2.2.2)
  have hs2 : ln A * 99 ≤ 7 * 99 := Nat.mul_le_mul_right _ h7
  have hs0 : 0 < ln A ∨ sumK hlo (ls A) (ln A) = 0 := by
    rcases Nat.eq_zero_or_pos (ln A) with z | z
    · right; rw [z]; rfl
    · exact Or.inl z
  dsimp only
  have hm : x_max 1 (nI (ln A)) = nI (max 1 (ln A)) := by
    unfold x_max
    rw [show (1 : Int32) = nI 1 from rfl]
    simp only [n_lt (show 1 < 2147483648 by omega) (show ln A < 2147483648 by omega)]
    split
    · rw [Nat.max_eq_right (by omega)]
    · rw [Nat.max_eq_left (by omega)]
  rw [la_allLonging_n hX hV, bd_s, mo_allLonging_n hM hV, bd_s]
  dsimp only
  rw [hX.1, hM.1, hm, n_long (by omega), n_long (by omega), n_long (by omega), hb_part (by omega) (by omega) (by omega), bd_s, mo_part (by omega) (by omega) hs0 hp, bd_s]
  exact R2_eq hI _ rfl rfl
/-- a row of both sides, told -/
def Rw (x : XD) (m : MD) (d so n : Nat) : Prop := so < 3 ∧ n ≤ 100 ∧ x (67 + d) 3 = nI so ∧ m.1 92 d = nI so ∧ x (67 + d) 4 = nI n ∧ m.1 93 d = nI n ∧ ∀ i, i < 100 → m.2.1 94 (100 * d + i) = (x (75 + d) i).toInt64
theorem Rw_fr {x x' : XD} {m m' : MD} {d so n : Nat} (h : Rw x m d so n) (fx : frX x x') (fm : frS m m') : Rw x' m' d so n := by
  unfold Rw at h ⊢
  rw [fx (67 + d) (by omega), fx (75 + d) (by omega), fm.1, fm.2.1 92 (by omega) (by omega), fm.2.1 93 (by omega) (by omega)]
  exact h
def lsN (so : Nat) : Int32 := if so = 0 then -128 else if so = 1 then -32768 else -2147483648
abbrev telC (x : XD) (d so i : Nat) (v : Int32) : Prop := x (75 + d) i = v ∨ x (75 + d) i = lsN so
theorem hb_least {x : XD} {d so : Nat} (h : x (67 + d) 3 = nI so) (hs : so < 3) : f_Sh_leastOfSort (67 + d) x = some (lsN so, x) := by
  unfold f_Sh_leastOfSort lsN
  rw [h]
  rcases so_is hs with rfl | rfl | rfl <;> rfl
theorem mo_skip {m : MD} {d so : Nat} (h : m.1 92 d = nI so) (hs : so < 3) (hd : d < 8) : f_Mo_skipped (nI d) m = some ((lsN so).toInt64, m) := by
  unfold f_Mo_skipped lsN
  rw [gI_n hd (by omega), gI_n hd (by omega), n_nat (by omega), h]
  rcases so_is hs with rfl | rfl | rfl <;> rfl
theorem hb_tells {x : XD} {m : MD} {d so n i : Nat} {v : Int32} (h : Rw x m d so n) (hi : i < 100) : f_Sh_tells (67 + d) (nI i) v x = some (if telC x d so i v then 1 else 0, x) := by
  unfold f_Sh_tells
  rw [gI_n hi (by omega), gI_n hi (by omega), n_nat (by omega), hb_least h.2.2.1 h.1, bd_s, show 67 + d + 8 = 75 + d by omega]
  unfold telC
  by_cases c : x (75 + d) i = v
  · rw [if_pos c, if_pos (Or.inl c)]
    rfl
  · rw [if_neg c]
    by_cases c2 : x (75 + d) i = lsN so
    · rw [if_pos (Or.inr c2)]
      dsimp only
      rw [if_pos c2]
      rfl
    · dsimp only
      rw [if_neg c2, if_neg (fun e => Or.elim e c c2)]
theorem long_inj {a b : Int32} : (a.toInt64 = b.toInt64) = (a = b) := by
  apply propext
  constructor
  · intro h
    have := congrArg Int64.toInt h
    rw [Int32.toInt_toInt64, Int32.toInt_toInt64] at this
    exact Int32.toInt_inj.mp this
  · intro h; rw [h]
theorem judge_l {A : Ld} {d so N : Nat} (hV : VA A) (hd : d < 8) : ∀ (k n j : Nat) (x : XD) (m : MD) (A' : Ld), j + k = N → k + 1 < n → Rw x m d so N → LnX x 12 A' → VA A' → LnM m A' → LkM m 98 A → ∃ r x' m', b_Hb_judge_30 (nI d) n (nI j) x = some (r, x') ∧ frX x x' ∧ b_Mo_judge_27 (nI d) n (-4) (nI j) m = some (r, m') ∧ LnM m' A ∧ frB m m' := by
  intro k
  induction k with
  | zero =>
    intro n j x m A' hj hn hR hX hV' hM hK
    obtain ⟨n, rfl⟩ : ∃ m, n = m + 1 := ⟨n - 1, by omega⟩
    obtain ⟨m2, g3, b2, hK2, k2⟩ := mo_close_n hK hV.1
    have h100 := hR.2.1
    refine ⟨-4, x, m2, ?_, frX.rf, ?_, b2, k2⟩
    · rw [b_Hb_judge_30, gI_n hd (by omega), hid_n hd, hR.2.2.2.2.1, if_pos (nI_le (by omega) (by omega))]
    · rw [b_Mo_judge_27, gI_n hd (by omega), n_nat (by omega), hR.2.2.2.2.2.1, if_pos (nI_le (by omega) (by omega)), b_Mo_judge_97, g3, bd_s]
  | succ k ih =>
    intro n j x m A' hj hn hR hX hV' hM hK
    obtain ⟨n, rfl⟩ : ∃ m, n = m + 1 := ⟨n - 1, by omega⟩
    have h100 := hR.2.1
    have hj100 : j < 100 := by omega
    obtain ⟨m1, g1, b1, k1⟩ := mo_day_n hM hV'
    have hK1 := LkM_B (by omega) hK k1.B
    have nle : ¬ N ≤ j := by omega
    have eX : b_Hb_judge_30 (nI d) (n + 1) (nI j) x = if telC x d so j (nI (sumK hlo (ls A') (ln A'))) then (f_La_pass 12 1 x).bind fun p7 => b_Hb_judge_30 (nI d) n (nI (j + 1)) p7.2 else some (nI j, x) := by
      rw [b_Hb_judge_30, gI_n hd (by omega), hid_n hd, hR.2.2.2.2.1, gI_n hd (by omega), la_allLonging_n hX hV', bd_s]
      simp only [n_le (show N < 2147483648 by omega) (show j < 2147483648 by omega)]
      rw [if_neg nle, hb_tells hR hj100, bd_s]
      simp only [show nI j + 1 = nI (j + 1) from n_add j 1]
      by_cases c : telC x d so j (nI (sumK hlo (ls A') (ln A')))
      · rw [if_pos c, if_pos c, if_neg one_ne0]
      · rw [if_neg c, if_neg c, if_pos rfl]
    have eM : b_Mo_judge_27 (nI d) (n + 1) (-4) (nI j) m = b_Mo_judge_27 (nI d) n (if telC x d so j (nI (sumK hlo (ls A') (ln A'))) then -4 else nI j) (nI (j + 1)) m1 := by
      rw [b_Mo_judge_27, gI_n hd (by omega), n_nat (by omega), hR.2.2.2.2.2.1]
      simp only [n_le (show N < 2147483648 by omega) (show j < 2147483648 by omega)]
      rw [if_neg nle, if_neg (show ¬ (0 : Int32) ≤ -4 from by decide), n_100, gI_n (by omega) (by omega), mo_skip hR.2.2.2.1 hR.1 hd, bd_s, n_nat (by omega), hR.2.2.2.2.2.2 j hj100]
      simp only [lgc_eq, long_inj, mo_allLonging_n hM hV', bd_s, b_Mo_judge_78, b_Mo_judge_85, g1, show nI j + 1 = nI (j + 1) from n_add j 1]
      by_cases c2 : x (75 + d) j = lsN so
      · rw [if_pos c2, if_pos (Or.inr c2)]
      · rw [if_neg c2]
        by_cases c : x (75 + d) j = nI (sumK hlo (ls A') (ln A'))
        · rw [if_pos c, if_pos (Or.inl c)]
        · rw [if_neg c, if_neg (fun e => e.elim c c2)]
    rw [eX, eM]
    by_cases c : telC x d so j (nI (sumK hlo (ls A') (ln A')))
    · rw [if_pos c, if_pos c]
      obtain ⟨x1, e1, s1, f1⟩ := la_pass_n (m := 1) (by decide) hX hV' (by omega)
      have fX : frX x x1 := f1.X (by omega)
      obtain ⟨r, x', m', p1, p2, p3, p4, p5⟩ := ih n (j + 1) x1 m1 (passA 1 A') (by omega) (by omega) (Rw_fr hR fX k1.B.S) s1 (pass_V hV') b1 hK1
      refine ⟨r, x', m', ?_, fX.tr p2, p3, p4, k1.B.tr p5⟩
      rw [show (1 : Int32) = nI 1 from rfl, e1, bd_s]
      exact p1
    · rw [if_neg c, if_neg c]
      obtain ⟨n, rfl⟩ : ∃ m, n = m + 1 := ⟨n - 1, by omega⟩
      obtain ⟨m2, g3, b2, hK2, k2⟩ := mo_close_n hK1 hV.1
      refine ⟨nI j, x, m2, rfl, frX.rf, ?_, b2, k1.B.tr k2⟩
      rw [b_Mo_judge_27, gI_n hd (by omega), if_pos (pos_le (by omega)), b_Mo_judge_97, g3, bd_s]
      split <;> rfl
theorem op_judge (a1 : Int32) : St2 IV (f_Hb_judge a1) (f_Mo_judge a1) := by
  intro x m ⟨A, hV, hX, hM, hr⟩
  show R2 _ _
  unfold f_Hb_judge f_Mo_judge
  refine R2_14 hM hr fun m hM hr => ?_
  have hI : IV x m := ⟨A, hV, hX, hM, hr⟩
  rcases sh_row (v := a1) hr with ⟨c, hc, e3, e4⟩ | ⟨d, hd, ed, x0, m0, ⟨so, n, hR⟩, e3, e4⟩
  · rw [e3, e4, bd_s, bd_s]
    exact R2_eq hI c (if_neg (rfc_ne hc)) (if_neg (rfc_neg hc))
  · rw [e3, e4, bd_s, bd_s, if_pos rfl, if_pos (show (0 : Int32) ≤ 0 from by decide)]
    subst ed
    replace hR : Rw x m d so n := hR
    have h100 := hR.2.1
    obtain ⟨x1, e1, s1, f1⟩ := la_become_n (o := 12) (o1 := 10) (x := x) (by decide) (by decide) (by decide) hX hV.1
    obtain ⟨m1, g1, b1, k1, l1⟩ := mo_open_n hM hV.1
    have fX : frX x x1 := f1.X (by omega)
    obtain ⟨r, x', m', p1, p2, p3, p4, p5⟩ := judge_l hV hd n fu 0 x1 m1 A (by omega) (by show n + 1 < 1000; omega) (Rw_fr hR fX (l1.S (by omega) (by omega))) s1 hV b1 k1
    refine R2_in (r := r) hV hr hX ?_ (fX.tr p2) ?_ p4 ((l1.tr p5.K).S (by omega) (by omega))
    · dsimp only
      rw [e1, bd_s]
      exact p1
    · dsimp only
      rw [g1, bd_s]
      exact p3

/-! Storms: both sides. -/
/-- the sum over all ways a storm may come or not -/
def uS : Nat → (Nat → Nat) → Nat
  | 0, g => g 0
  | n + 1, g => uS n (fun c => g (c + 1)) + uS n g
def bin : Nat → Nat → Nat
  | _, 0 => 1
  | 0, _ + 1 => 0
  | n + 1, c + 1 => bin n c + bin n (c + 1)
theorem bin_z : ∀ n c, n < c → bin n c = 0
  | 0, 0, h => absurd h (Nat.lt_irrefl 0)
  | 0, c + 1, _ => rfl
  | n + 1, 0, h => absurd h (Nat.not_lt_zero _)
  | n + 1, c + 1, h => by
    unfold bin
    rw [bin_z n c (by omega), bin_z n (c + 1) (by omega)]
theorem bin_0 {n : Nat} : bin n 0 = 1 := by cases n <;> rfl
theorem sumN_c {f g : Nat → Nat} : ∀ n, (∀ i, i < n → f i = g i) → sumN f n = sumN g n
  | 0, _ => rfl
  | n + 1, h => by
    show sumN f n + f n = sumN g n + g n
    rw [sumN_c n (fun i hi => h i (by omega)), h n (by omega)]
theorem sumN_add {f g : Nat → Nat} : ∀ n, sumN (fun i => f i + g i) n = sumN f n + sumN g n
  | 0 => rfl
  | n + 1 => by
    show sumN (fun i => f i + g i) n + (f n + g n) = sumN f n + f n + (sumN g n + g n)
    rw [sumN_add n]
    omega
theorem sumN_f {f : Nat → Nat} : ∀ n, sumN f (n + 1) = f 0 + sumN (fun i => f (i + 1)) n
  | 0 => by show 0 + f 0 = f 0 + 0; omega
  | n + 1 => by
    show sumN f (n + 1) + f (n + 1) = f 0 + (sumN (fun i => f (i + 1)) n + f (n + 1))
    rw [sumN_f n]
    omega
theorem sumN_split {f : Nat → Nat} {a : Nat} : ∀ b, sumN f (a + b) = sumN f a + sumN (fun i => f (a + i)) b
  | 0 => rfl
  | b + 1 => by
    show sumN f (a + b) + f (a + b) = sumN f a + (sumN (fun i => f (a + i)) b + f (a + b))
    rw [sumN_split b]
    omega
theorem uS_bin : ∀ (n : Nat) (g : Nat → Nat), sumN (fun c => bin n c * g c) (n + 1) = uS n g
  | 0, g => by
    show 0 + bin 0 0 * g 0 = g 0
    rw [bin_0]
    omega
  | n + 1, g => by
    rw [sumN_f, bin_0]
    have e1 : sumN (fun i => bin (n + 1) (i + 1) * g (i + 1)) (n + 1) = sumN (fun i => bin n i * g (i + 1)) (n + 1) + sumN (fun i => bin n (i + 1) * g (i + 1)) (n + 1) := by
      rw [← sumN_add]
      exact sumN_c _ (fun i _ => by rw [show bin (n + 1) (i + 1) = bin n i + bin n (i + 1) from rfl, Nat.add_mul])
    have e2 : sumN (fun c => bin n c * g c) (n + 1 + 1) = bin n 0 * g 0 + sumN (fun i => bin n (i + 1) * g (i + 1)) (n + 1) := sumN_f (n + 1)
    have e3 : sumN (fun c => bin n c * g c) (n + 1 + 1) = sumN (fun c => bin n c * g c) (n + 1) + bin n (n + 1) * g (n + 1) := rfl
    rw [bin_z n (n + 1) (by omega), Nat.zero_mul, Nat.add_zero, uS_bin n g] at e3
    rw [e3, bin_0] at e2
    rw [e1, uS_bin n (fun c => g (c + 1))]
    show 1 * g 0 + (_ + _) = uS n (fun c => g (c + 1)) + uS n g
    omega
/-- how many calm days a mask has -/
def zer : Nat → Nat → Nat
  | 0, _ => 0
  | n + 1, k => zer n k + (if k / 2 ^ n % 2 = 1 then 0 else 1)
theorem zer_up : ∀ (n N k : Nat), n ≤ N → zer n (2 ^ N + k) = zer n k
  | 0, _, _, _ => rfl
  | n + 1, N, k, h => by
    unfold zer
    rw [zer_up n N k (by omega)]
    have e : (2 ^ N + k) / 2 ^ n % 2 = k / 2 ^ n % 2 := by
      obtain ⟨d, rfl⟩ : ∃ d, N = n + 1 + d := ⟨N - (n + 1), by omega⟩
      rw [Nat.pow_add, Nat.pow_add, Nat.mul_assoc, Nat.add_comm, Nat.add_mul_div_left _ _ (Nat.two_pow_pos n), show (2 : Nat) ^ 1 = 2 from rfl, Nat.add_mul_mod_self_left]
    rw [e]
theorem sum_zer : ∀ (n : Nat) (g : Nat → Nat), sumN (fun k => g (zer n k)) (2 ^ n) = uS n g
  | 0, g => by
    show 0 + g 0 = g 0
    omega
  | n + 1, g => by
    rw [show (2 : Nat) ^ (n + 1) = 2 ^ n + 2 ^ n by rw [Nat.pow_succ]; omega, sumN_split]
    have e1 : sumN (fun k => g (zer (n + 1) k)) (2 ^ n) = uS n (fun c => g (c + 1)) := by
      rw [← sum_zer n (fun c => g (c + 1))]
      refine sumN_c _ (fun i hi => ?_)
      show g (zer n i + _) = g (zer n i + 1)
      rw [Nat.div_eq_of_lt hi]
      rfl
    have e2 : sumN (fun i => g (zer (n + 1) (2 ^ n + i))) (2 ^ n) = uS n g := by
      rw [← sum_zer n g]
      refine sumN_c _ (fun i hi => ?_)
      show g (zer n (2 ^ n + i) + _) = g (zer n i)
      rw [zer_up n n i (Nat.le_refl n), Nat.add_div_left _ (Nat.two_pow_pos n), Nat.div_eq_of_lt hi]
      rfl
    rw [e1, e2]
    rfl
theorem uS_le {b : Nat} : ∀ (n : Nat) (g : Nat → Nat), (∀ c, g c ≤ b) → uS n g ≤ 2 ^ n * b
  | 0, g, h => by
    show g 0 ≤ 1 * b
    have := h 0
    omega
  | n + 1, g, h => by
    have h1 := uS_le n (fun c => g (c + 1)) (fun c => h (c + 1))
    have h2 := uS_le n g h
    show uS n _ + uS n g ≤ _
    rw [Nat.pow_succ, Nat.mul_two, Nat.add_mul]
    exact Nat.add_le_add h1 h2
theorem bin_mul : ∀ n, n < 8 → ∀ c, c < 8 → c ≤ n → bin n c * (n - c) = bin n (c + 1) * (c + 1) ∧ bin n c ≤ 35 := by decide +kernel
theorem hb_part2 {x : XD} {a b : Nat} {p : Int32} (ha : a < 2 ^ 60) (hb : b < 2 ^ 60) (h0 : 0 < b) : f_Hb_partOf (lI a) (lI b) p x = some (partN a b p, x) := by
  have hg : 0 < Nat.gcd a b := Nat.gcd_pos_of_pos_right a h0
  have hg2 : Nat.gcd a b ≤ b := Nat.gcd_le_right a h0
  have e := hb_gcd (x := x) (v0 := lI a) (v2 := lI b) (v4 := p) 60 fu b a 0 ha (by decide) (by omega) (by omega) (by omega)
  unfold f_Hb_partOf
  rw [show (0 : Int32) = nI 0 from rfl, e, Nat.gcd_comm]
  unfold b_Hb_partOf_45 partN
  have z : ¬ Nat.gcd a b = 0 := by omega
  simp only [lgc_0 (show Nat.gcd a b < 9223372036854775808 by omega), li_0 (show Nat.gcd a b < 9223372036854775808 by omega), z, if_false]
  rw [l_div (a := a) (b := Nat.gcd a b) (by omega) (by omega), l_div (a := b) (b := Nat.gcd a b) (by omega) (by omega)]
  split <;> rfl
theorem mo_part2 {m : MD} {a b : Nat} {p : Int32} (ha : a < 2 ^ 60) (hb : b < 2 ^ 60) (h0 : 0 < b) (hp : p = 0 ∨ p = 1) : f_Mo_partOf (lI a) (lI b) p m = some (partN a b p, m) := by
  unfold f_Mo_partOf
  simp only [lgc_0 (show a < 9223372036854775808 by omega)]
  by_cases c : a = 0
  · rw [if_pos c]
    subst c
    unfold partN
    rw [Nat.gcd_zero_left, Nat.zero_div, Nat.div_self h0]
    rcases hp with h | h <;> subst h <;> rfl
  · rw [if_neg c]
    have hg : 0 < Nat.gcd a b := Nat.gcd_pos_of_pos_right a h0
    have hg2 : Nat.gcd a b ≤ b := Nat.gcd_le_right a h0
    unfold f_Mo_divisor
    rw [mo_gcd 60 fu a b hb (by decide) (by omega) (by omega), bd_s]
    unfold partN
    have z : ¬ Nat.gcd a b = 0 := by omega
    simp only [li_0 (show Nat.gcd a b < 9223372036854775808 by omega), z, if_false]
    rw [l_div (a := a) (b := Nat.gcd a b) (by omega) (by omega), l_div (a := b) (b := Nat.gcd a b) (by omega) (by omega)]
    split <;> rfl
/-- what a number of calm days is worth -/
def gS (A : Ld) (h : Nat) (v2 : Int32) (w c : Nat) : Nat := if nI (paceN (stayN (lo A) c (ls A h))) < v2 then 0 else w ^ c
theorem stay_day {o : Nat} : ∀ (c : Nat) (s : Hs), stayN o c (dayN o s) = dayN o (stayN o c s)
  | 0, _ => rfl
  | c + 1, s => stay_day c (dayN o s)
theorem stay_1 {o c : Nat} {s : Hs} : stayN o 1 (stayN o c s) = stayN o (c + 1) s := (stay_day c s).symm
theorem pow_b {w c : Nat} (hw : w ≤ 19) (hc : c ≤ 8) : w ^ c ≤ 16983563041 := by
  have h1 : w ^ c ≤ 19 ^ c := Nat.pow_le_pow_left hw c
  have h2 : (19 : Nat) ^ c ≤ 19 ^ 8 := Nat.pow_le_pow_right (by omega) hc
  have h3 : (19 : Nat) ^ 8 = 16983563041 := by decide
  omega
theorem hb_below {N T : Nat} {v5 : Int32} {v6 : Int64} {x : XD} (hN : N ≤ 7) (hT : T ≤ 20) : ∀ (k n j : Nat), j + k = N → k < n → b_Hb_storm_149 (nI N) (nI T) v5 v6 n (lI (T ^ j)) (nI j) x = (f_Hb_partOf v6 (lI (T ^ N)) v5 x).bind fun p2 => some (p2.1, p2.2) := by
  intro k
  induction k with
  | zero =>
    intro n j hj hn
    obtain ⟨n, rfl⟩ : ∃ m, n = m + 1 := ⟨n - 1, by omega⟩
    rw [b_Hb_storm_149, if_pos (nI_le (by omega) (by omega)), show j = N by omega]
  | succ k ih =>
    intro n j hj hn
    obtain ⟨n, rfl⟩ : ∃ m, n = m + 1 := ⟨n - 1, by omega⟩
    rw [← ih n (j + 1) (by omega) (by omega), b_Hb_storm_149]
    simp only [n_le (show N < 2147483648 by omega) (show j < 2147483648 by omega)]
    rw [if_neg (by omega), n_long (by omega), l_mul, ← Nat.pow_succ, show nI j + 1 = nI (j + 1) from n_add j 1]
theorem hb_storm_l {A : Ld} {h N T : Nat} {v2 v5 : Int32} (hV : VA A) (hl : h < ln A) (hN : N ≤ 7) (hT : 2 ≤ T ∧ T ≤ 20) : ∀ (k n c : Nat) (x : XD), c + k = N + 1 → k < n → LnX x 10 A → xst x 64 (stayN (lo A) c (ls A h)) → ∃ x', b_Hb_storm_79 v2 (nI N) (nI T) v5 1 n (lI (sumN (fun c => bin N c * gS A h v2 (T - 1) c) c)) (lI (bin N c * (T - 1) ^ c)) (nI c) x = ((f_Hb_partOf (lI (uS N (gS A h v2 (T - 1)))) (lI (T ^ N)) v5 x').bind fun p2 => some (p2.1, p2.2)) ∧ frX x x' := by
  intro k
  induction k with
  | zero =>
    intro n c x hc hn hX hs
    obtain ⟨n, rfl⟩ : ∃ m, n = m + 1 := ⟨n - 1, by omega⟩
    obtain rfl : c = N + 1 := by omega
    refine ⟨x, ?_, frX.rf⟩
    rw [b_Hb_storm_79, if_pos, uS_bin]
    · exact hb_below hN hT.2 N fu 0 (by omega) (by show N < 1000; omega)
    · rw [n_lt (by omega) (by omega)]
      omega
  | succ k ih =>
    intro n c x hc hn hX hs
    obtain ⟨n, rfl⟩ : ∃ m, n = m + 1 := ⟨n - 1, by omega⟩
    have hVc := stay_V (oats := lo A) c (hV.2.2 h hl)
    obtain ⟨x1, e1, s1, f1⟩ := st_stay_n (m := 1) hs hVc hV.2.1 (by omega)
    rw [stay_1] at s1
    have fX : frX x x1 := f1.X (by omega)
    obtain ⟨x', e2, f2⟩ := ih n (c + 1) x1 (by omega) (by omega) (LnX_X hX hV fX) s1
    refine ⟨x', ?_, fX.tr f2⟩
    have hb := bin_mul N (by omega) c (by omega) (by omega)
    have hp := pow_b (w := T - 1) (c := c + 1) (by omega) (by omega)
    have hpc := pow_b (w := T - 1) (c := c) (by omega) (by omega)
    have hbig : bin N c * (T - 1) ^ c * (N - c) * (T - 1) = bin N (c + 1) * (T - 1) ^ (c + 1) * (c + 1) := by
      rw [show bin N c * (T - 1) ^ c * (N - c) * (T - 1) = (bin N c * (N - c)) * ((T - 1) ^ c * (T - 1)) by ac_rfl, hb.1, ← Nat.pow_succ]
      ac_rfl
    have hle : bin N c * (T - 1) ^ c * (N - c) * (T - 1) < 9223372036854775808 := by
      have q1 : bin N c * (T - 1) ^ c ≤ 35 * 16983563041 := Nat.mul_le_mul hb.2 hpc
      have q2 : bin N c * (T - 1) ^ c * (N - c) ≤ 35 * 16983563041 * 7 := Nat.mul_le_mul q1 (by omega)
      have q3 : bin N c * (T - 1) ^ c * (N - c) * (T - 1) ≤ 35 * 16983563041 * 7 * 19 := Nat.mul_le_mul q2 (by omega)
      omega
    have w1 : (nI N - nI c).toInt64 = lI (N - c) := by rw [n_sub (by omega), n_long (by omega)]
    have w2 : (nI T - 1).toInt64 = lI (T - 1) := by rw [show (1 : Int32) = nI 1 from rfl, n_sub (by omega), n_long (by omega)]
    have w3 : (nI c + 1).toInt64 = lI (c + 1) := by rw [show (1 : Int32) = nI 1 from rfl, n_add, n_long (by omega)]
    have e103 : ∀ v6 : Int64, b_Hb_storm_103 (b_Hb_storm_79 v2 (nI N) (nI T) v5 1 n) v2 (nI N) (nI T) v5 v6 1 (lI (bin N c * (T - 1) ^ c)) (nI c) x = b_Hb_storm_79 v2 (nI N) (nI T) v5 1 n v6 (lI (bin N (c + 1) * (T - 1) ^ (c + 1))) (nI (c + 1)) x1 := fun v6 => by
      unfold b_Hb_storm_103
      rw [w3, w1, w2, if_neg (by rw [li_0 (by omega)]; omega), lt_e, l_mul, l_mul, l_div hle (by omega), hbig, Nat.mul_div_cancel _ (Nat.succ_pos c), hX.2.1, show (1 : Int32) = nI 1 from rfl, e1, bd_s, n_add]
    rw [b_Hb_storm_79]
    simp only [n_lt (show N < 2147483648 by omega) (show c < 2147483648 by omega)]
    rw [if_neg (by omega), st_pace_n hs hVc, bd_s]
    dsimp only
    rw [e103, e103, ← e2]
    show _ = b_Hb_storm_79 v2 (nI N) (nI T) v5 1 n (lI (sumN _ c + bin N c * gS A h v2 (T - 1) c)) _ _ x1
    unfold gS
    by_cases z : nI (paceN (stayN (lo A) c (ls A h))) < v2
    · rw [if_pos z, if_pos z, Nat.mul_zero]
      rfl
    · rw [if_neg z, if_neg z, l_add]
/-- a land some calm days on -/
def stA (c : Nat) (dd : Int32) (A : Ld) : Ld := (ln A, lo A, dd, fun i => stayN (lo A) c (ls A i))
theorem stA_V {c : Nat} {dd : Int32} {A : Ld} (hV : VA A) : VA (stA c dd A) := ⟨hV.1, hV.2.1, fun i hi => stay_V c (hV.2.2 i hi)⟩
theorem mo_storm {m : MD} {A : Ld} {c : Nat} {dd : Int32} (hM : LnM m (stA c dd A)) (h7 : ln A ≤ 7) : ∃ m', f_Mo_dayBy 1 m = some ((), m') ∧ LnM m' (stA c (dd + 1) A) ∧ frM m m' := by
  obtain ⟨h1, h2, h3, h4⟩ := hM
  refine ⟨(x_up m.1 83 7 (m.1 83 7 + 1), m.2), ?_, ⟨?_, ?_, ?_, h4⟩, frM.up (Or.inr (Or.inr rfl))⟩
  · unfold f_Mo_dayBy
    rw [lt_e, show fu = 999 + 1 from rfl, b_Mo_dayBy_12, if_neg one_ne0]
    split <;> rfl
  · exact (show x_up m.1 83 7 (m.1 83 7 + 1) 83 0 = m.1 83 0 from x_up_nj (by decide)).trans h1
  · exact (show x_up m.1 83 7 (m.1 83 7 + 1) 83 6 = m.1 83 6 from x_up_nj (by decide)).trans h2
  · refine (show x_up m.1 83 7 (m.1 83 7 + 1) 83 7 = m.1 83 7 + 1 from x_up_at).trans ?_
    rw [h3]
    rfl
theorem mo_calm {m : MD} {A : Ld} {c : Nat} {dd : Int32} (hM : LnM m (stA c dd A)) (hV : VA A) : ∃ m', f_Mo_dayBy 0 m = some ((), m') ∧ LnM m' (stA (c + 1) (dd + 1) A) ∧ frM m m' := by
  obtain ⟨m', e, h, f⟩ := mo_day_n hM (stA_V hV)
  refine ⟨m', e, ?_, f⟩
  have : passA 1 (stA c dd A) = stA (c + 1) (dd + 1) A := by
    show (ln A, lo A, dd + nI 1, fun i => stayN (lo A) 1 (stayN (lo A) c (ls A i))) = _
    unfold stA
    simp only [stay_1]
    rfl
  rw [← this]
  exact h
theorem bit_is : ∀ k, k < 128 → ∀ j, j < 7 → (((nI k >>> (nI j &&& 31)) &&& 1 = 1) ↔ k / 2 ^ j % 2 = 1) := by decide +kernel
theorem mo_bit {m : MD} {k j : Nat} (hk : k < 128) (hj : j < 7) : f_Mo_hasBit (nI k) (nI j) m = some (if k / 2 ^ j % 2 = 1 then 1 else 0, m) := by
  unfold f_Mo_hasBit
  have e := bit_is k hk j hj
  by_cases c : k / 2 ^ j % 2 = 1
  · rw [if_pos (e.mpr c), if_pos c]
  · rw [if_neg (fun z => c (e.mp z)), if_neg c]
theorem mo_storm_in {A : Ld} {h N T kk : Nat} {v2 v5 : Int32} {v6 v8 : Int64} (hV : VA A) (hl : h < ln A) (hN : N ≤ 7) (hT : 2 ≤ T ∧ T ≤ 20) (hk : kk < 128) : ∀ (k n j : Nat) (m : MD) (dd : Int32), j + k = N → k < n → LnM m (stA (zer j kk) dd A) → LkM m 98 A → ∃ m', (∀ K, b_Mo_storm_117 K (nI h) v2 (nI N) (nI T) v5 v6 v8 (nI kk) n (lI ((T - 1) ^ zer j kk)) (nI j) m = K (v6 + lI (gS A h v2 (T - 1) (zer N kk))) (nI (kk + 1)) m') ∧ LnM m' A ∧ LkM m' 98 A ∧ frB m m' := by
  have h7 := hV.1
  intro k
  induction k with
  | zero =>
    intro n j m dd hj hn hM hK
    obtain ⟨n, rfl⟩ : ∃ m, n = m + 1 := ⟨n - 1, by omega⟩
    obtain rfl : j = N := by omega
    obtain ⟨m2, g3, b2, hK2, k2⟩ := mo_close_n hK hV.1
    refine ⟨m2, fun K => ?_, b2, hK2, k2⟩
    have ep : f_Mo_paceOf (nI h) m = some (nI (paceN (stayN (lo A) (zer j kk) (ls A h))), m) := mo_pace_n (hM.2.2.2 h hl) ((stA_V (c := zer j kk) (dd := dd) hV).2.2 h hl) (by omega)
    rw [b_Mo_storm_117, if_pos (nI_le (by omega) (by omega)), ep, bd_s]
    simp only [b_Mo_storm_181, g3, bd_s, show nI kk + 1 = nI (kk + 1) from n_add kk 1]
    unfold gS
    split
    · rfl
    · rfl
  | succ k ih =>
    intro n j m dd hj hn hM hK
    obtain ⟨n, rfl⟩ : ∃ m, n = m + 1 := ⟨n - 1, by omega⟩
    have w2 : (nI T - 1).toInt64 = lI (T - 1) := by rw [show (1 : Int32) = nI 1 from rfl, n_sub (by omega), n_long (by omega)]
    have hb := fun (m' : MD) => mo_bit (m := m') hk (show j < 7 by omega)
    by_cases c : kk / 2 ^ j % 2 = 1
    · obtain ⟨m1, e1, h1, f1⟩ := mo_storm hM h7
      obtain ⟨m', e2, h2, h3, f2⟩ := ih n (j + 1) m1 (dd + 1) (by omega) (by omega) (by
        show LnM m1 (stA (zer j kk + (if kk / 2 ^ j % 2 = 1 then 0 else 1)) (dd + 1) A)
        rw [if_pos c]
        exact h1) (LkM_B (by omega) hK f1.B)
      refine ⟨m', fun K => ?_, h2, h3, f1.B.tr f2⟩
      rw [← e2 K, b_Mo_storm_117]
      simp only [n_le (show N < 2147483648 by omega) (show j < 2147483648 by omega)]
      rw [if_neg (by omega), hb, bd_s, if_pos c]
      simp only [b_Mo_storm_144]
      rw [if_neg one_ne0, hb, bd_s, if_pos c]
      dsimp only
      rw [e1, bd_s, show nI j + 1 = nI (j + 1) from n_add j 1, Int64.mul_one]
      show _ = b_Mo_storm_117 K (nI h) v2 (nI N) (nI T) v5 v6 v8 (nI kk) n (lI ((T - 1) ^ (zer j kk + (if kk / 2 ^ j % 2 = 1 then 0 else 1)))) (nI (j + 1)) m1
      rw [if_pos c]
      rfl
    · obtain ⟨m1, e1, h1, f1⟩ := mo_calm hM hV
      obtain ⟨m', e2, h2, h3, f2⟩ := ih n (j + 1) m1 (dd + 1) (by omega) (by omega) (by
        show LnM m1 (stA (zer j kk + (if kk / 2 ^ j % 2 = 1 then 0 else 1)) (dd + 1) A)
        rw [if_neg c]
        exact h1) (LkM_B (by omega) hK f1.B)
      refine ⟨m', fun K => ?_, h2, h3, f1.B.tr f2⟩
      rw [← e2 K, b_Mo_storm_117]
      simp only [n_le (show N < 2147483648 by omega) (show j < 2147483648 by omega)]
      rw [if_neg (by omega), hb, bd_s, if_neg c]
      simp only [b_Mo_storm_144]
      rw [if_pos trivial, hb, bd_s, if_neg c]
      dsimp only
      rw [e1, bd_s, show nI j + 1 = nI (j + 1) from n_add j 1, w2, l_mul]
      show _ = b_Mo_storm_117 K (nI h) v2 (nI N) (nI T) v5 v6 v8 (nI kk) n (lI ((T - 1) ^ (zer j kk + (if kk / 2 ^ j % 2 = 1 then 0 else 1)))) (nI (j + 1)) m1
      rw [if_neg c, Nat.pow_succ]
theorem mo_storm_out {A : Ld} {h N T : Nat} {v2 v5 : Int32} {v8 : Int64} (hV : VA A) (hl : h < ln A) (hN : N ≤ 7) (hT : 2 ≤ T ∧ T ≤ 20) : ∀ (k n j : Nat) (m : MD), j + k = 2 ^ N → k < n → LnM m A → LkM m 98 A → ∃ m', b_Mo_storm_103 (nI h) v2 (nI N) (nI T) v5 v8 n (lI (sumN (fun k => gS A h v2 (T - 1) (zer N k)) j)) (nI j) m = ((f_Mo_partOf (lI (uS N (gS A h v2 (T - 1)))) v8 v5 m').bind fun p2 => some (p2.1, p2.2)) ∧ LnM m' A ∧ frB m m' := by
  have hp : 2 ^ N ≤ 128 := Nat.pow_le_pow_right (n := 2) (by omega) (show N ≤ 7 from hN)
  have hsh : (1 : Int32) <<< (nI N &&& 31) = nI (2 ^ N) := bit_n N (by omega)
  intro k
  induction k with
  | zero =>
    intro n j m hj hn hM hK
    obtain ⟨n, rfl⟩ : ∃ m, n = m + 1 := ⟨n - 1, by omega⟩
    obtain rfl : j = 2 ^ N := by omega
    refine ⟨m, ?_, hM, frB.rf⟩
    rw [b_Mo_storm_103, hsh, if_pos (nI_le (by omega) (by omega)), sum_zer]
  | succ k ih =>
    intro n j m hj hn hM hK
    obtain ⟨n, rfl⟩ : ∃ m, n = m + 1 := ⟨n - 1, by omega⟩
    have hM0 : LnM m (stA (zer 0 j) (ldy A) A) := hM
    obtain ⟨m1, e1, h1, h2, f1⟩ := mo_storm_in (h := h) (N := N) (T := T) (kk := j) (v2 := v2) (v5 := v5) (v6 := lI (sumN (fun k => gS A h v2 (T - 1) (zer N k)) j)) (v8 := v8) hV hl hN hT (by omega) N fu 0 m (ldy A) (by omega) (by show N < 1000; omega) hM0 hK
    obtain ⟨m', e2, h3, f2⟩ := ih n (j + 1) m1 (by omega) (by omega) h1 h2
    refine ⟨m', ?_, h3, f1.tr f2⟩
    rw [← e2, b_Mo_storm_103, hsh]
    simp only [n_le (show 2 ^ N < 2147483648 by omega) (show j < 2147483648 by omega)]
    rw [if_neg (by omega)]
    have e3 := e1 (b_Mo_storm_103 (nI h) v2 (nI N) (nI T) v5 v8 n)
    rw [l_add] at e3
    exact e3
theorem mo_below {A : Ld} {h N T : Nat} {v2 v5 : Int32} {v6 : Int64} {m : MD} (hN : N ≤ 7) (hT : T ≤ 20) : ∀ (k n j : Nat), j + k = N → k < n → b_Mo_storm_76 (nI h) v2 (nI N) (nI T) v5 v6 n (lI (T ^ j)) (nI j) m = (f_Mo_open m).bind fun p2 => (b_Mo_storm_103 (nI h) v2 (nI N) (nI T) v5 (lI (T ^ N)) fu v6 0 p2.2) := by
  intro k
  induction k with
  | zero =>
    intro n j hj hn
    obtain ⟨n, rfl⟩ : ∃ m, n = m + 1 := ⟨n - 1, by omega⟩
    rw [b_Mo_storm_76, if_pos (nI_le (by omega) (by omega)), show j = N by omega]
  | succ k ih =>
    intro n j hj hn
    obtain ⟨n, rfl⟩ : ∃ m, n = m + 1 := ⟨n - 1, by omega⟩
    rw [← ih n (j + 1) (by omega) (by omega), b_Mo_storm_76]
    simp only [n_le (show N < 2147483648 by omega) (show j < 2147483648 by omega)]
    rw [if_neg (by omega), n_long (by omega), l_mul, ← Nat.pow_succ, show nI j + 1 = nI (j + 1) from n_add j 1]
theorem op_storm (a1 a2 a3 a4 a5 : Int32) : St2 IV (f_Hb_storm a1 a2 a3 a4 a5) (f_Mo_storm a1 a2 a3 a4 a5) := by
  intro x m ⟨A, hV, hX, hM, hr⟩
  show R2 _ _
  unfold f_Hb_storm f_Mo_storm
  refine R2_14 hM hr fun m hM hr => ?_
  have hI : IV x m := ⟨A, hV, hX, hM, hr⟩
  refine g_horse hV hX hM (fail2 hI) fun h hl e => pass2 ?_
  refine g_in 1 60 rfl rfl (by decide) (by decide) (by omega) (fail2 hI) fun v _ hv e2 => pass2 ?_
  refine g_in 0 7 rfl rfl (by decide) (by decide) (by omega) (fail2 hI) fun N _ hN e3 => pass2 ?_
  refine g_in 2 20 rfl rfl (by decide) (by decide) (by omega) (fail2 hI) fun T hT1 hT e4 => pass2 ?_
  refine g_either (fail2 hI) fun hp => pass2 ?_
  subst e e3 e4
  have h7 : h < 7 := Nat.lt_of_lt_of_le hl hV.1
  have hp2 : 2 ^ N ≤ 128 := Nat.pow_le_pow_right (n := 2) (by omega) (show N ≤ 7 from hN)
  have hT60 : T ^ N < 2 ^ 60 := by
    have h1 : T ^ N ≤ 20 ^ N := Nat.pow_le_pow_left hT N
    have h2 : (20 : Nat) ^ N ≤ 20 ^ 7 := Nat.pow_le_pow_right (by omega) hN
    have h3 : (20 : Nat) ^ 7 = 1280000000 := by decide
    omega
  have hT0 : 0 < T ^ N := Nat.pow_pos (by omega)
  have hg : ∀ c, c ≤ 8 → gS A h a2 (T - 1) c ≤ 16983563041 := fun c hc => by
    unfold gS
    split
    · omega
    · exact pow_b (by omega) hc
  have hz : ∀ n k, zer n k ≤ n := fun n k => by
    induction n with
    | zero => exact Nat.le_refl _
    | succ n ih =>
      unfold zer
      split <;> omega
  have hu : uS N (gS A h a2 (T - 1)) < 2 ^ 60 := by
    rw [← sum_zer]
    have h1 := sumN_le (g := fun k => gS A h a2 (T - 1) (zer N k)) (b := 16983563041) (2 ^ N) (fun i _ => hg _ (by have := hz N i; omega))
    have h2 : 2 ^ N * 16983563041 ≤ 128 * 16983563041 := Nat.mul_le_mul_right _ hp2
    omega
  obtain ⟨x1, e1, s1, f1⟩ := st_become_n (o := 64) (o1 := 22 + h) (x := x) (by omega) (LnX_s hX hl)
  have fX : frX x x1 := f1.X (by omega)
  obtain ⟨x2, e2', f2⟩ := hb_storm_l (v2 := a2) (v5 := a5) hV hl hN ⟨hT1, hT⟩ (N + 1) fu 0 x1 (by omega) (by show N + 1 < 1000; omega) (LnX_X hX hV fX) s1
  obtain ⟨m1, g1, b1, k1, l1⟩ := mo_open_n hM hV.1
  obtain ⟨m2, g2, b2, l2⟩ := mo_storm_out (v2 := a2) (v5 := a5) (v8 := lI (T ^ N)) hV hl hN ⟨hT1, hT⟩ (2 ^ N) fu 0 m1 (by omega) (by show 2 ^ N < 1000; omega) b1 k1
  refine R2_in (r := partN (uS N (gS A h a2 (T - 1))) (T ^ N) a5) hV hr hX ?_ (fX.tr f2) ?_ b2 ((l1.tr l2.K).S (by omega) (by omega))
  · dsimp only
    rw [gI_n h7 (by omega), sid10 h7, e1, bd_s]
    have e5 : b_Hb_storm_79 a2 (nI N) (nI T) a5 1 fu 0 1 0 x1 = some (partN (uS N (gS A h a2 (T - 1))) (T ^ N) a5, x2) := by
      rw [hb_part2 hu hT60 hT0, bd_s] at e2'
      rw [bin_0, Nat.pow_zero] at e2'
      exact e2'
    exact e5
  · dsimp only
    have e6 := mo_below (A := A) (h := h) (v2 := a2) (v5 := a5) (v6 := 0) (m := m) hN hT N fu 0 (by omega) (by show N < 1000; omega)
    rw [g1, bd_s] at e6
    have e7 : b_Mo_storm_103 (nI h) a2 (nI N) (nI T) a5 (lI (T ^ N)) fu 0 0 m1 = some (partN (uS N (gS A h a2 (T - 1))) (T ^ N) a5, m2) := by
      rw [mo_part2 hu hT60 hT0 hp, bd_s] at g2
      exact g2
    exact e6.trans e7

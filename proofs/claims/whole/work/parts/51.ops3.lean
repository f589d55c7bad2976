/-! The least of many: both sides. -/
/-- a best one so far -/
def mbs (b0 : Int32) (f : Nat → Nat) (j : Nat) : Int32 := if j = 0 then b0 else nI (amin f j).1
def mls (l0 : Int32) (f : Nat → Nat) (j : Nat) : Int32 := if j = 0 then l0 else nI (amin f j).2
theorem mbs_s {b0 : Int32} {f : Nat → Nat} {j : Nat} : mbs b0 f (j + 1) = nI (amin f (j + 1)).1 := if_neg (by omega)
theorem mls_s {l0 : Int32} {f : Nat → Nat} {j : Nat} : mls l0 f (j + 1) = nI (amin f (j + 1)).2 := if_neg (by omega)
theorem mbs_p {b0 : Int32} {f : Nat → Nat} {j : Nat} (h : 0 < j) : mbs b0 f j = nI (amin f j).1 := if_neg (by omega)
theorem mls_p {l0 : Int32} {f : Nat → Nat} {j : Nat} (h : 0 < j) : mls l0 f j = nI (amin f j).2 := if_neg (by omega)
/-- what the class does with a next one -/
theorem mx_step {α : Type} {b0 : Int32} {f : Nat → Nat} {j : Nat} {K : Int32 → Int32 → α} (h : f j < 1000) : (if nI (amin f j).2 ≤ nI (f j) then K (mbs b0 f j) (nI (amin f j).2) else K (nI j) (nI (f j))) = K (mbs b0 f (j + 1)) (nI (amin f (j + 1)).2) := by
  have h1 := (amin_le f j).1
  have e := n_le (a := (amin f j).2) (b := f j) (by omega) (by omega)
  rw [mbs_s]
  by_cases c : (amin f j).2 ≤ f j
  · rw [if_pos (by rw [e]; exact c), amin_keep c, mbs_p]
    rcases Nat.eq_zero_or_pos j with z | z
    · subst z; exact absurd c (amin_0 h)
    · exact z
  · rw [if_neg (by rw [e]; exact c), amin_take c]
/-- what the reference does with a next one -/
theorem mm_step {α : Type} {b0 l0 : Int32} {f : Nat → Nat} {j : Nat} {K : Int32 → Int32 → α} (h0 : l0 < 0) (h : f j < 1000) : (if mls l0 f j < 0 then K (nI j) (nI (f j)) else if mls l0 f j ≤ nI (f j) then K (mbs b0 f j) (mls l0 f j) else K (nI j) (nI (f j))) = K (mbs b0 f (j + 1)) (mls l0 f (j + 1)) := by
  rw [mbs_s, mls_s]
  rcases Nat.eq_zero_or_pos j with z | z
  · subst z
    rw [if_pos (show mls l0 f 0 < 0 from h0), amin_take (amin_0 h)]
  · have h1 := (amin_le f j).1
    have e := n_le (a := (amin f j).2) (b := f j) (by omega) (by omega)
    rw [mls_p z, if_neg (nneg (by omega))]
    by_cases c : (amin f j).2 ≤ f j
    · rw [if_pos (by rw [e]; exact c), amin_keep c, mbs_p z]
    · rw [if_neg (by rw [e]; exact c), amin_take c]

def hres (v2 : Int32) (f : Nat → Nat) (n : Nat) : Int32 := if n = 0 then -4 else if v2 = 0 then nI (amin f n).1 else nI (amin f n).2
theorem own_lt {y h : Nat} {A : Ld} (hV : VA A) (hl : h < ln A) (hy : y ≤ 20) : ownN y A h ≤ 20 := rideN_le (hV.2.2 h hl) hy
theorem hb_hurry_l {A : Ld} {y : Nat} {v2 : Int32} (hV : VA A) (hy : y ≤ 20) : ∀ (k n j : Nat) (x : XD), j + k = ln A → k < n → LnX x 10 A → ∃ x', b_Hb_hurry_27 (nI y) v2 n (mbs (-4) (ownN y A) j) (nI (amin (ownN y A) j).2) (nI j) x = some (hres v2 (ownN y A) (ln A), x') ∧ frX x x' := by
  have h7 := hV.1
  intro k
  induction k with
  | zero =>
    intro n j x hj hn hX
    obtain ⟨n, rfl⟩ : ∃ m, n = m + 1 := ⟨n - 1, by omega⟩
    refine ⟨x, ?_, frX.rf⟩
    rw [b_Hb_hurry_27, hX.1, if_pos (nI_le (by omega) (by omega)), show j = ln A by omega]
    unfold mbs hres
    by_cases z : ln A = 0
    · rw [if_pos z, if_pos z, if_pos rfl]
    · rw [if_neg z, if_neg z, if_neg]
      · split <;> rfl
      · intro e
        have h1 := (amin_le (ownN y A) (ln A)).2
        have h2 := pos_le (a := (amin (ownN y A) (ln A)).1) (by omega)
        rw [e] at h2
        exact absurd h2 (by decide)
  | succ k ih =>
    intro n j x hj hn hX
    obtain ⟨n, rfl⟩ : ∃ m, n = m + 1 := ⟨n - 1, by omega⟩
    obtain ⟨x1, e1, f1⟩ := hb_dor (h := j) hX hV (by omega) hy
    obtain ⟨x', e2, f2⟩ := ih n (j + 1) x1 (by omega) (by omega) (LnX_X hX hV f1)
    refine ⟨x', ?_, f1.tr f2⟩
    have hs := mx_step (b0 := -4) (f := ownN y A) (j := j) (K := fun b l => b_Hb_hurry_27 (nI y) v2 n b l (nI (j + 1)) x1) (by have := own_lt (h := j) hV (by omega) hy; omega)
    rw [b_Hb_hurry_27, hX.1]
    simp only [n_le (show ln A < 2147483648 by omega) (show j < 2147483648 by omega)]
    rw [if_neg (by omega), gI_n (show j < 7 by omega) (by omega), sid10 (by omega), e1, bd_s]
    simp only [b_Hb_hurry_70, show nI j + 1 = nI (j + 1) from n_add j 1]
    exact hs.trans e2
theorem mo_hurry_l {A : Ld} {y : Nat} {v2 : Int32} (hV : VA A) (hy : y ≤ 20) : ∀ (k n j : Nat) (m : MD), j + k = ln A → k < n → LnM m A → ∃ m', b_Mo_hurry_34 (nI y) v2 n (mbs (-4) (ownN y A) j) (mls (-4) (ownN y A) j) (nI j) m = some (hres v2 (ownN y A) (ln A), m') ∧ LnM m' A ∧ frK 98 m m' := by
  have h7 := hV.1
  intro k
  induction k with
  | zero =>
    intro n j m hj hn hM
    obtain ⟨n, rfl⟩ : ∃ m, n = m + 1 := ⟨n - 1, by omega⟩
    refine ⟨m, ?_, hM, frK.rf⟩
    rw [b_Mo_hurry_34, hM.1, if_pos (nI_le (by omega) (by omega)), show j = ln A by omega]
    unfold mbs mls hres
    by_cases z : ln A = 0
    · rw [if_pos z, if_pos z, if_pos z]; split <;> rfl
    · rw [if_neg z, if_neg z, if_neg z]; split <;> rfl
  | succ k ih =>
    intro n j m hj hn hM
    obtain ⟨n, rfl⟩ : ∃ m, n = m + 1 := ⟨n - 1, by omega⟩
    obtain ⟨m1, e1, a1, f1⟩ := mo_own (h := j) hM hV (by omega) hy
    obtain ⟨m', e2, a2, f2⟩ := ih n (j + 1) m1 (by omega) (by omega) a1
    refine ⟨m', ?_, a2, f1.tr f2⟩
    have hs := mm_step (b0 := -4) (l0 := -4) (f := ownN y A) (j := j) (K := fun b l => b_Mo_hurry_34 (nI y) v2 n b l (nI (j + 1)) m1) (by decide) (by have := own_lt (h := j) hV (by omega) hy; omega)
    rw [b_Mo_hurry_34, hM.1]
    simp only [n_le (show ln A < 2147483648 by omega) (show j < 2147483648 by omega)]
    rw [if_neg (by omega), e1, bd_s]
    simp only [b_Mo_hurry_64, b_Mo_hurry_70, b_Mo_hurry_83, b_Mo_hurry_90, show nI j + 1 = nI (j + 1) from n_add j 1]
    refine Eq.trans ?_ (hs.trans e2)
    split
    · rfl
    · split <;> rfl
theorem op_hurry (a1 a2 : Int32) : St2 IV (f_Hb_hurry a1 a2) (f_Mo_hurry a1 a2) := by
  intro x m ⟨A, hV, hX, hM, hr⟩
  show R2 _ _
  unfold f_Hb_hurry f_Mo_hurry
  refine R2_14 hM hr fun m hM hr => ?_
  have hI : IV x m := ⟨A, hV, hX, hM, hr⟩
  refine g_yard (fail2 hI) fun y hy e => pass2 ?_
  refine g_either (fail2 hI) fun _ => pass2 ?_
  subst e
  have h7 := hV.1
  obtain ⟨x', e1, f1⟩ := hb_hurry_l (v2 := a2) hV hy (ln A) fu 0 x (by omega) (by show ln A < 1000; omega) hX
  obtain ⟨m', e2, a3, f2⟩ := mo_hurry_l (v2 := a2) hV hy (ln A) fu 0 m (by omega) (by show ln A < 1000; omega) hM
  exact R2_in hV hr hX e1 f1 e2 a3 (f2.S (by omega) (by omega))
/-- a sum over horses -/
def sumN (g : Nat → Nat) : Nat → Nat
  | 0 => 0
  | n + 1 => sumN g n + g n
theorem sumN_le {g : Nat → Nat} {b : Nat} : ∀ n, (∀ i, i < n → g i ≤ b) → sumN g n ≤ n * b
  | 0, _ => Nat.zero_le _
  | n + 1, h => by
    have h1 := sumN_le n (fun i hi => h i (by omega))
    have h2 := h n (by omega)
    rw [Nat.succ_mul]
    exact Nat.add_le_add h1 h2
def metN (A : Ld) (y : Nat) : Nat := sumN (ownN y A) (ln A)
theorem met_lt {A : Ld} {y : Nat} (hV : VA A) (hy : y ≤ 20) : metN A y < 1000 := by
  have h1 := sumN_le (g := ownN y A) (b := 20) (ln A) (fun i hi => own_lt hV hi hy)
  have h2 : ln A * 20 ≤ 7 * 20 := Nat.mul_le_mul_right _ hV.1
  show sumN _ _ < 1000
  omega
theorem hb_meet_31 {A : Ld} {y : Nat} {v1 v2 v3 : Int32} {K : Int32 → Int32 → Int32 → XD → Option (Int32 × XD)} (hV : VA A) (hy : y ≤ 20) : ∀ (k n j : Nat) (x : XD), j + k = ln A → k < n → LnX x 10 A → ∃ x', b_Hb_meet_31 K v1 v2 v3 (nI y) n (nI (sumN (ownN y A) j)) (nI j) x = (if v3 ≤ nI (metN A y) then K v2 v3 (nI (y + 1)) x' else K (nI y) (nI (metN A y)) (nI (y + 1)) x') ∧ frX x x' := by
  have h7 := hV.1
  intro k
  induction k with
  | zero =>
    intro n j x hj hn hX
    obtain ⟨n, rfl⟩ : ∃ m, n = m + 1 := ⟨n - 1, by omega⟩
    refine ⟨x, ?_, frX.rf⟩
    rw [b_Hb_meet_31, hX.1, if_pos (nI_le (by omega) (by omega)), show j = ln A by omega]
    simp only [b_Hb_meet_82, show nI y + 1 = nI (y + 1) from n_add y 1]
    rfl
  | succ k ih =>
    intro n j x hj hn hX
    obtain ⟨n, rfl⟩ : ∃ m, n = m + 1 := ⟨n - 1, by omega⟩
    obtain ⟨x1, e1, f1⟩ := hb_dor (h := j) hX hV (by omega) hy
    obtain ⟨x', e2, f2⟩ := ih n (j + 1) x1 (by omega) (by omega) (LnX_X hX hV f1)
    refine ⟨x', ?_, f1.tr f2⟩
    rw [b_Hb_meet_31, hX.1]
    simp only [n_le (show ln A < 2147483648 by omega) (show j < 2147483648 by omega)]
    rw [if_neg (by omega), gI_n (show j < 7 by omega) (by omega), sid10 (by omega), e1, bd_s]
    dsimp only
    rw [n_add, show nI j + 1 = nI (j + 1) from n_add j 1]
    exact e2
theorem hb_meet_l {A : Ld} {v1 : Int32} (hV : VA A) : ∀ (k n j : Nat) (x : XD), j + k = 21 → k < n → LnX x 10 A → ∃ x', b_Hb_meet_18 v1 n (mbs 0 (metN A) j) (nI (amin (metN A) j).2) (nI j) x = some (if v1 = 0 then nI (amin (metN A) 21).1 else nI (amin (metN A) 21).2, x') ∧ frX x x' := by
  have h7 := hV.1
  intro k
  induction k with
  | zero =>
    intro n j x hj hn hX
    obtain ⟨n, rfl⟩ : ∃ m, n = m + 1 := ⟨n - 1, by omega⟩
    obtain rfl : j = 21 := by omega
    refine ⟨x, ?_, frX.rf⟩
    rw [b_Hb_meet_18, if_pos (show (21 : Int32) ≤ nI 21 from by decide), mbs_p (by omega)]
    split <;> rfl
  | succ k ih =>
    intro n j x hj hn hX
    obtain ⟨n, rfl⟩ : ∃ m, n = m + 1 := ⟨n - 1, by omega⟩
    obtain ⟨x1, e1, f1⟩ := hb_meet_31 (y := j) (v1 := v1) (v2 := mbs 0 (metN A) j) (v3 := nI (amin (metN A) j).2) (K := b_Hb_meet_18 v1 n) hV (by omega) (ln A) fu 0 x (by omega) (by show ln A < 1000; omega) hX
    obtain ⟨x', e2, f2⟩ := ih n (j + 1) x1 (by omega) (by omega) (LnX_X hX hV f1)
    refine ⟨x', ?_, f1.tr f2⟩
    have hs := mx_step (b0 := 0) (f := metN A) (j := j) (K := fun b l => b_Hb_meet_18 v1 n b l (nI (j + 1)) x1) (met_lt hV (by omega))
    rw [b_Hb_meet_18, show (21 : Int32) = nI 21 from rfl]
    simp only [n_le (show 21 < 2147483648 by omega) (show j < 2147483648 by omega)]
    rw [if_neg (by omega)]
    exact (e1.trans hs).trans e2
theorem mo_meet_37 {A : Ld} {y : Nat} {v1 v2 v3 : Int32} {K : Int32 → Int32 → Int32 → MD → Option (Int32 × MD)} (hV : VA A) (hy : y ≤ 20) : ∀ (k n j : Nat) (m : MD), j + k = ln A → k < n → LnM m A → ∃ m', b_Mo_meet_37 K v1 v2 v3 (nI y) n (nI (sumN (ownN y A) j)) (nI j) m = (if v3 < 0 then K (nI y) (nI (metN A y)) (nI (y + 1)) m' else if v3 ≤ nI (metN A y) then K v2 v3 (nI (y + 1)) m' else K (nI y) (nI (metN A y)) (nI (y + 1)) m') ∧ LnM m' A ∧ frK 98 m m' := by
  have h7 := hV.1
  intro k
  induction k with
  | zero =>
    intro n j m hj hn hM
    obtain ⟨n, rfl⟩ : ∃ m, n = m + 1 := ⟨n - 1, by omega⟩
    refine ⟨m, ?_, hM, frK.rf⟩
    rw [b_Mo_meet_37, hM.1, if_pos (nI_le (by omega) (by omega)), show j = ln A by omega]
    rw [show sumN (ownN y A) (ln A) = metN A y from rfl]
    simp only [b_Mo_meet_75, b_Mo_meet_81, b_Mo_meet_92, b_Mo_meet_98, show nI y + 1 = nI (y + 1) from n_add y 1]
    split
    · rfl
    · split <;> rfl
  | succ k ih =>
    intro n j m hj hn hM
    obtain ⟨n, rfl⟩ : ∃ m, n = m + 1 := ⟨n - 1, by omega⟩
    obtain ⟨m1, e1, a1, f1⟩ := mo_own (h := j) hM hV (by omega) hy
    obtain ⟨m', e2, a2, f2⟩ := ih n (j + 1) m1 (by omega) (by omega) a1
    refine ⟨m', ?_, a2, f1.tr f2⟩
    rw [b_Mo_meet_37, hM.1]
    simp only [n_le (show ln A < 2147483648 by omega) (show j < 2147483648 by omega)]
    rw [if_neg (by omega), e1, bd_s]
    dsimp only
    rw [n_add, show nI j + 1 = nI (j + 1) from n_add j 1]
    exact e2
theorem mo_meet_l {A : Ld} {v1 : Int32} (hV : VA A) : ∀ (k n j : Nat) (m : MD), j + k = 21 → k < n → LnM m A → ∃ m', b_Mo_meet_24 v1 n (mbs 0 (metN A) j) (mls (-1) (metN A) j) (nI j) m = some (if v1 = 0 then nI (amin (metN A) 21).1 else nI (amin (metN A) 21).2, m') ∧ LnM m' A ∧ frK 98 m m' := by
  have h7 := hV.1
  intro k
  induction k with
  | zero =>
    intro n j m hj hn hM
    obtain ⟨n, rfl⟩ : ∃ m, n = m + 1 := ⟨n - 1, by omega⟩
    obtain rfl : j = 21 := by omega
    refine ⟨m, ?_, hM, frK.rf⟩
    rw [b_Mo_meet_24, if_pos (show (20 : Int32) < nI 21 from by decide), mbs_p (by omega), mls_p (by omega)]
    split <;> rfl
  | succ k ih =>
    intro n j m hj hn hM
    obtain ⟨n, rfl⟩ : ∃ m, n = m + 1 := ⟨n - 1, by omega⟩
    obtain ⟨m1, e1, a1, f1⟩ := mo_meet_37 (y := j) (v1 := v1) (v2 := mbs 0 (metN A) j) (v3 := mls (-1) (metN A) j) (K := b_Mo_meet_24 v1 n) hV (by omega) (ln A) fu 0 m (by omega) (by show ln A < 1000; omega) hM
    obtain ⟨m', e2, a2, f2⟩ := ih n (j + 1) m1 (by omega) (by omega) a1
    refine ⟨m', ?_, a2, f1.tr f2⟩
    have hs := mm_step (b0 := 0) (l0 := -1) (f := metN A) (j := j) (K := fun b l => b_Mo_meet_24 v1 n b l (nI (j + 1)) m1) (by decide) (met_lt hV (by omega))
    rw [b_Mo_meet_24, show (20 : Int32) = nI 20 from rfl]
    simp only [n_lt (show 20 < 2147483648 by omega) (show j < 2147483648 by omega)]
    rw [if_neg (by omega)]
    exact (e1.trans hs).trans e2
theorem op_meet (a1 : Int32) : St2 IV (f_Hb_meet a1) (f_Mo_meet a1) := by
  intro x m ⟨A, hV, hX, hM, hr⟩
  show R2 _ _
  unfold f_Hb_meet f_Mo_meet
  refine R2_14 hM hr fun m hM hr => ?_
  have hI : IV x m := ⟨A, hV, hX, hM, hr⟩
  refine g_either (fail2 hI) fun _ => pass2 ?_
  obtain ⟨x', e1, f1⟩ := hb_meet_l (v1 := a1) hV 21 fu 0 x (by omega) (by decide) hX
  obtain ⟨m', e2, a3, f2⟩ := mo_meet_l (v1 := a1) hV 21 fu 0 m (by omega) (by decide) hM
  exact R2_in hV hr hX e1 f1 e2 a3 (f2.S (by omega) (by omega))

theorem lat_lt {y h w : Nat} {A : Ld} (hV : VA A) (hl : h < ln A) (hy : y ≤ 20) : latN y w A h ≤ w + 20 := by
  have := rideN_le (y := y) (o := lo A) (stay_V (oats := lo A) w (hV.2.2 h hl)) hy
  show w + _ ≤ _
  omega
abbrev sooN (y h : Nat) (A : Ld) (w : Nat) : Nat := latN y w A h
theorem hb_soonest_l {A : Ld} {y h : Nat} {v3 : Int32} (hV : VA A) (hl : h < ln A) (hy : y ≤ 20) : ∀ (k n j : Nat) (x : XD), j + k = 31 → k < n → LnX x 10 A → ∃ x', b_Hb_soonest_35 (nI h) (nI y) v3 n (mbs 0 (sooN y h A) j) (nI (amin (sooN y h A) j).2) (nI j) x = some (if v3 = 0 then nI (amin (sooN y h A) 31).1 else nI (amin (sooN y h A) 31).2, x') ∧ frX x x' := by
  have h7 : h < 7 := Nat.lt_of_lt_of_le hl hV.1
  intro k
  induction k with
  | zero =>
    intro n j x hj hn hX
    obtain ⟨n, rfl⟩ : ∃ m, n = m + 1 := ⟨n - 1, by omega⟩
    obtain rfl : j = 31 := by omega
    refine ⟨x, ?_, frX.rf⟩
    rw [b_Hb_soonest_35, if_pos (show (30 : Int32) < nI 31 from by decide), mbs_p (by omega)]
    split <;> rfl
  | succ k ih =>
    intro n j x hj hn hX
    obtain ⟨n, rfl⟩ : ∃ m, n = m + 1 := ⟨n - 1, by omega⟩
    obtain ⟨x1, e1, f1⟩ := hb_dlr (h := h) (w := j) hX hV hl hy (by omega)
    obtain ⟨x', e2, f2⟩ := ih n (j + 1) x1 (by omega) (by omega) (LnX_X hX hV f1)
    refine ⟨x', ?_, f1.tr f2⟩
    have hs := mx_step (b0 := 0) (f := sooN y h A) (j := j) (K := fun b l => b_Hb_soonest_35 (nI h) (nI y) v3 n b l (nI (j + 1)) x1) (by have := lat_lt (w := j) hV hl hy; show latN y j A h < 1000; omega)
    rw [b_Hb_soonest_35, show (30 : Int32) = nI 30 from rfl]
    simp only [n_lt (show 30 < 2147483648 by omega) (show j < 2147483648 by omega)]
    rw [if_neg (by omega), gI_n h7 (by omega), sid10 h7, e1, bd_s]
    simp only [b_Hb_soonest_75, show nI j + 1 = nI (j + 1) from n_add j 1]
    exact hs.trans e2
theorem mo_soonest_l {A : Ld} {y h : Nat} {v3 : Int32} (hV : VA A) (hl : h < ln A) (hy : y ≤ 20) : ∀ (k n j : Nat) (m : MD), j + k = 31 → k < n → LnM m A → LkM m 98 A → ∃ m', b_Mo_soonest_45 (nI h) (nI y) v3 n (mbs 0 (sooN y h A) j) (mls (-1) (sooN y h A) j) (nI j) m = some (if v3 = 0 then nI (amin (sooN y h A) 31).1 else nI (amin (sooN y h A) 31).2, m') ∧ LnM m' A ∧ frB m m' := by
  intro k
  induction k with
  | zero =>
    intro n j m hj hn hM hK
    obtain ⟨n, rfl⟩ : ∃ m, n = m + 1 := ⟨n - 1, by omega⟩
    obtain rfl : j = 31 := by omega
    refine ⟨m, ?_, hM, frB.rf⟩
    rw [b_Mo_soonest_45, if_pos (show (30 : Int32) < nI 31 from by decide), mbs_p (by omega), mls_p (by omega)]
    split <;> rfl
  | succ k ih =>
    intro n j m hj hn hM hK
    obtain ⟨n, rfl⟩ : ∃ m, n = m + 1 := ⟨n - 1, by omega⟩
    obtain ⟨m1, m2, m3, e1, e2, e3, a3, k3, f3⟩ := mo_later (w := j) hM hK hV hl hy (by omega)
    obtain ⟨m', e4, a4, f4⟩ := ih n (j + 1) m3 (by omega) (by omega) a3 k3
    refine ⟨m', ?_, a4, f3.tr f4⟩
    have hs := mm_step (b0 := 0) (l0 := -1) (f := sooN y h A) (j := j) (K := fun b l => b_Mo_soonest_45 (nI h) (nI y) v3 n b l (nI (j + 1)) m3) (by decide) (by have := lat_lt (w := j) hV hl hy; show latN y j A h < 1000; omega)
    rw [b_Mo_soonest_45, show (30 : Int32) = nI 30 from rfl]
    simp only [n_lt (show 30 < 2147483648 by omega) (show j < 2147483648 by omega)]
    rw [if_neg (by omega), e1, bd_s]
    dsimp only
    rw [e2, bd_s]
    dsimp only
    rw [e3, bd_s]
    simp only [b_Mo_soonest_85, b_Mo_soonest_92, b_Mo_soonest_106, b_Mo_soonest_113, show nI j + 1 = nI (j + 1) from n_add j 1, n_add]
    refine Eq.trans ?_ (hs.trans e4)
    split
    · rfl
    · split <;> rfl
theorem op_soonest (a1 a2 a3 : Int32) : St2 IV (f_Hb_soonest a1 a2 a3) (f_Mo_soonest a1 a2 a3) := by
  intro x m ⟨A, hV, hX, hM, hr⟩
  show R2 _ _
  unfold f_Hb_soonest f_Mo_soonest
  refine R2_14 hM hr fun m hM hr => ?_
  have hI : IV x m := ⟨A, hV, hX, hM, hr⟩
  refine g_horse hV hX hM (fail2 hI) fun h hl e => pass2 ?_
  refine g_yard (fail2 hI) fun y hy e2 => pass2 ?_
  refine g_either (fail2 hI) fun _ => pass2 ?_
  subst e e2
  obtain ⟨x', e1, f1⟩ := hb_soonest_l (v3 := a3) hV hl hy 31 fu 0 x (by omega) (by decide) hX
  obtain ⟨m1, e3, a4, k4, f3⟩ := mo_open_n hM hV.1
  obtain ⟨m', e2, a5, f2⟩ := mo_soonest_l (v3 := a3) hV hl hy 31 fu 0 m1 (by omega) (by decide) a4 k4
  refine R2_in hV hr hX e1 f1 ?_ a5 ((f3.tr f2.K).S (by omega) (by omega))
  dsimp only
  rw [e3, bd_s]
  exact e2

def atS (y : Nat) (s : Hs) : Hs := (hk s, hf s, hh s, y, hlo s)
theorem atS_V {y : Nat} {s : Hs} (h : VH s) (hy : y ≤ 20) : VH (atS y s) := ⟨h.1, h.2.1, h.2.2.1, hy, h.2.2.2.2⟩
def walN (y h c : Nat) (A : Ld) (f : Nat) : Nat := (rideN y (lo A) (stayN (lo A) c (atS f (ls A h)))).1
theorem wal_le {y h c f : Nat} {A : Ld} (hV : VA A) (hl : h < ln A) (hy : y ≤ 20) (hf : f ≤ 20) : walN y h c A f ≤ 20 :=
  rideN_le (stay_V c (atS_V (hV.2.2 h hl) hf)) hy
theorem ls_set {A : Ld} {h : Nat} {s : Hs} : ls (setS A h s) h = s := if_pos rfl
theorem hb_walk_l {A : Ld} {y h c : Nat} {v4 : Int32} (hV : VA A) (hl : h < ln A) (hy : y ≤ 20) (hc : c ≤ 60) : ∀ (k n j : Nat) (x : XD), j + k = 21 → k < n → LnX x 10 A → ∃ x', b_Hb_walkAhead_46 (nI h) (nI y) (nI c) v4 n (mbs 0 (walN y h c A) j) (nI (amin (walN y h c A) j).2) (nI j) x = some (if v4 = 0 then nI (amin (walN y h c A) 21).1 else nI (amin (walN y h c A) 21).2, x') ∧ frX x x' := by
  have h7 : h < 7 := Nat.lt_of_lt_of_le hl hV.1
  have hVh := hV.2.2 h hl
  intro k
  induction k with
  | zero =>
    intro n j x hj hn hX
    obtain ⟨n, rfl⟩ : ∃ m, n = m + 1 := ⟨n - 1, by omega⟩
    obtain rfl : j = 21 := by omega
    refine ⟨x, ?_, frX.rf⟩
    rw [b_Hb_walkAhead_46, if_pos (show (21 : Int32) ≤ nI 21 from by decide), mbs_p (by omega)]
    split <;> rfl
  | succ k ih =>
    intro n j x hj hn hX
    obtain ⟨n, rfl⟩ : ∃ m, n = m + 1 := ⟨n - 1, by omega⟩
    obtain ⟨x1, e1, s1, f1⟩ := st_become_n (o := 64) (o1 := 22 + h) (x := x) (by omega) (LnX_s hX hl)
    have s1' : xst (x_up x1 64 3 (nI j)) 64 (atS j (ls A h)) := xst_up3 s1
    have f1' : frO 64 x (x_up x1 64 3 (nI j)) := f1.tr frO.up
    have o1 : x_up x1 64 3 (nI j) 10 3 = nI (lo A) := by rw [f1' 10 (by decide)]; exact hX.2.1
    have hV1 := atS_V (y := j) hVh (by omega)
    obtain ⟨x2, e2, s2, f2⟩ := st_stay_n (m := c) s1' hV1 hV.2.1 (by omega)
    have o2 : x2 10 3 = nI (lo A) := by rw [f2 10 (by decide)]; exact o1
    obtain ⟨x3, e3, s3, f3⟩ := st_ride_n s2 (stay_V c hV1) hV.2.1 hy
    have fX : frX x x3 := ((f1'.tr f2).tr f3).X (by omega)
    obtain ⟨x', e4, f4⟩ := ih n (j + 1) x3 (by omega) (by omega) (LnX_X hX hV fX)
    refine ⟨x', ?_, fX.tr f4⟩
    have hs := mx_step (b0 := 0) (f := walN y h c A) (j := j) (K := fun b l => b_Hb_walkAhead_46 (nI h) (nI y) (nI c) v4 n b l (nI (j + 1)) x3) (by have := wal_le (c := c) hV hl hy (show j ≤ 20 by omega); omega)
    rw [b_Hb_walkAhead_46, show (21 : Int32) = nI 21 from rfl]
    simp only [n_le (show 21 < 2147483648 by omega) (show j < 2147483648 by omega)]
    rw [if_neg (by omega), gI_n h7 (by omega), sid10 h7, e1, bd_s]
    simp only [lt_e, o1]
    rw [e2, bd_s]
    dsimp only
    rw [o2, e3, bd_s]
    simp only [b_Hb_walkAhead_125, show nI j + 1 = nI (j + 1) from n_add j 1]
    exact hs.trans e4
theorem mo_walk_l {A : Ld} {y h c : Nat} {v4 : Int32} (hV : VA A) (hl : h < ln A) (hy : y ≤ 20) (hc : c ≤ 60) : ∀ (k n j : Nat) (m : MD), j + k = 21 → k < n → LnM m A → LkM m 98 A → ∃ m', b_Mo_walkAhead_58 (nI h) (nI y) (nI c) v4 n (mbs 0 (walN y h c A) j) (mls (-1) (walN y h c A) j) (nI j) m = some (if v4 = 0 then nI (amin (walN y h c A) 21).1 else nI (amin (walN y h c A) 21).2, m') ∧ LnM m' A ∧ frB m m' := by
  have h7 : h < 7 := Nat.lt_of_lt_of_le hl hV.1
  have hn' : (nI h).toNatClampNeg = h := n_nat (by omega)
  intro k
  induction k with
  | zero =>
    intro n j m hj hn hM hK
    obtain ⟨n, rfl⟩ : ∃ m, n = m + 1 := ⟨n - 1, by omega⟩
    obtain rfl : j = 21 := by omega
    refine ⟨m, ?_, hM, frB.rf⟩
    rw [b_Mo_walkAhead_58, if_pos (show (20 : Int32) < nI 21 from by decide), mbs_p (by omega), mls_p (by omega)]
    split <;> rfl
  | succ k ih =>
    intro n j m hj hn hM hK
    obtain ⟨n, rfl⟩ : ∃ m, n = m + 1 := ⟨n - 1, by omega⟩
    have hM1 : LnM (x_up m.1 87 h (nI j), m.2) (setS A h (atS j (ls A h))) := LnM_87 hM
    have hV1 : VA (setS A h (atS j (ls A h))) := setS_V hV (atS_V (hV.2.2 h hl) (by omega))
    have fu1 : frB m (x_up m.1 87 h (nI j), m.2) := (frA.up.M (by omega) (by omega)).B
    obtain ⟨m1, e1, a1, f1⟩ := mo_goDays_n (c := c) (by omega) hM1 hV1
    obtain ⟨m2, e2, a2, f2⟩ := mo_ride_n (h := h) a1 (pass_V (m := c) hV1) hl hy
    have fB := (fu1.tr f1.B).tr f2.B
    obtain ⟨m3, e3, a3, k3, f3⟩ := mo_close_n (LkM_B (by omega) hK fB) hV.1
    rw [rideA_N] at e2
    have eL : ls (passA c (setS A h (atS j (ls A h)))) h = stayN (lo A) c (atS j (ls A h)) := congrArg (stayN (lo A) c) ls_set
    rw [eL] at e2
    replace e2 : f_Mo_ride (nI h) (nI y) m1 = some (nI (walN y h c A j), m2) := e2
    obtain ⟨m', e4, a4, f4⟩ := ih n (j + 1) m3 (by omega) (by omega) a3 k3
    refine ⟨m', ?_, a4, (fB.tr f3).tr f4⟩
    have hs := mm_step (b0 := 0) (l0 := -1) (f := walN y h c A) (j := j) (K := fun b l => b_Mo_walkAhead_58 (nI h) (nI y) (nI c) v4 n b l (nI (j + 1)) m3) (by decide) (by have := wal_le (c := c) hV hl hy (show j ≤ 20 by omega); omega)
    rw [b_Mo_walkAhead_58, show (20 : Int32) = nI 20 from rfl]
    simp only [n_lt (show 20 < 2147483648 by omega) (show j < 2147483648 by omega)]
    rw [if_neg (by omega), gI_n h7 (by omega), hn']
    simp only [lt_e]
    rw [e1, bd_s]
    dsimp only
    rw [e2, bd_s]
    dsimp only
    rw [e3, bd_s]
    simp only [b_Mo_walkAhead_102, b_Mo_walkAhead_109, b_Mo_walkAhead_123, b_Mo_walkAhead_130, show nI j + 1 = nI (j + 1) from n_add j 1]
    refine Eq.trans ?_ (hs.trans e4)
    split
    · rfl
    · split <;> rfl
theorem op_walkAhead (a1 a2 a3 a4 : Int32) : St2 IV (f_Hb_walkAhead a1 a2 a3 a4) (f_Mo_walkAhead a1 a2 a3 a4) := by
  intro x m ⟨A, hV, hX, hM, hr⟩
  show R2 _ _
  unfold f_Hb_walkAhead f_Mo_walkAhead
  refine R2_14 hM hr fun m hM hr => ?_
  have hI : IV x m := ⟨A, hV, hX, hM, hr⟩
  refine g_horse hV hX hM (fail2 hI) fun h hl e => pass2 ?_
  refine g_yard (fail2 hI) fun y hy e2 => pass2 ?_
  refine g_in 0 30 rfl rfl (by decide) (by decide) (by omega) (fail2 hI) fun c _ hc e3 => pass2 ?_
  refine g_either (fail2 hI) fun _ => pass2 ?_
  subst e e2 e3
  obtain ⟨x', e1, f1⟩ := hb_walk_l (v4 := a4) (c := c) hV hl hy (by omega) 21 fu 0 x (by omega) (by decide) hX
  obtain ⟨m1, e3, a4', k4, f3⟩ := mo_open_n hM hV.1
  obtain ⟨m', e2, a5, f2⟩ := mo_walk_l (v4 := a4) (c := c) hV hl hy (by omega) 21 fu 0 m1 (by omega) (by decide) a4' k4
  refine R2_in hV hr hX e1 f1 ?_ a5 ((f3.tr f2.K).S (by omega) (by omega))
  dsimp only
  rw [e3, bd_s]
  exact e2

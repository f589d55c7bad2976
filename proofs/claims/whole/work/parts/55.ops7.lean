/-! Shelves: both sides. -/
theorem ShD_of {x x' : XD} {m m' : MD} {d : Nat} (h : ShD x m d) (e1 : x' (67 + d) = x (67 + d)) (e2 : x' (75 + d) = x (75 + d)) (f : ∀ k, 88 < k → k < 94 → m'.1 k d = m.1 k d) (g : ∀ i, i < 100 → m'.2.1 94 (100 * d + i) = m.2.1 94 (100 * d + i)) : ShD x' m' d := by
  rcases h with ⟨a, b⟩ | ⟨a, b, k, q, c1, c2, c3, c4, c5, c6⟩ | ⟨a, b, so, n, c1, c2, c3, c4, c5, c6, c7⟩
  · exact Or.inl ⟨by rw [e1]; exact a, (f 89 (by omega) (by omega)).trans b⟩
  · exact Or.inr (Or.inl ⟨by rw [e1]; exact a, (f 89 (by omega) (by omega)).trans b, k, q, c1, c2, by rw [e1]; exact c3, (f 90 (by omega) (by omega)).trans c4, by rw [e1]; exact c5, (f 91 (by omega) (by omega)).trans c6⟩)
  · exact Or.inr (Or.inr ⟨by rw [e1]; exact a, (f 89 (by omega) (by omega)).trans b, so, n, c1, c2, by rw [e1]; exact c3, (f 92 (by omega) (by omega)).trans c4, by rw [e1]; exact c5, (f 93 (by omega) (by omega)).trans c6, fun i hi => by rw [e2]; exact (g i hi).trans (c7 i hi)⟩)
theorem ShA_set {x x' : XD} {m m' : MD} {d : Nat} (h : ∀ d, d < 8 → ShD x m d) (hd : d < 8) (fx : ∀ k, 64 < k → k ≠ 67 + d → k ≠ 75 + d → x' k = x k) (f : ∀ k i, 88 < k → k < 94 → i ≠ d → m'.1 k i = m.1 k i) (g : ∀ e i, e ≠ d → e < 8 → i < 100 → m'.2.1 94 (100 * e + i) = m.2.1 94 (100 * e + i)) (hn : ShD x' m' d) : ∀ e, e < 8 → ShD x' m' e := fun e he => by
  by_cases c : e = d
  · rw [c]; exact hn
  · exact ShD_of (h e he) (fx _ (by omega) (by omega) (by omega)) (fx _ (by omega) (by omega) (by omega)) (fun k k1 k2 => f k e k1 k2 c) (fun i hi => g e i c he hi)
theorem IV_sh {x x' : XD} {m m' : MD} {A : Ld} (hV : VA A) (hX : LnX x 10 A) (hM : LnM m A) (hr : IVr x m) (fx : ∀ k, k < 65 → x' k = x k) (fm : ∀ k, (82 < k ∧ k < 89) ∨ k = 101 → m'.1 k = m.1 k) (hs : ∀ d, d < 8 → ShD x' m' d) : IV x' m' :=
  ⟨A, hV, LnX_eq hX hV.1 (fun k hk => fx k (by have := hV.1; omega)), LnM_fr hM (fun k k1 k2 => fm k (by omega)) (fun j _ => by rw [fm 83 (by omega)]), ImD_fr hr.1 (fun k hk => fx k (by omega)) (fm 101 (by omega)) (by rw [fm 83 (by omega)]), hs⟩
theorem hb_isKind {v : Int32} {x : XD} : f_Hb_isKind v x = some (rng 0 7 v, x) := by
  unfold f_Hb_isKind
  rw [hb_within, bd_s]
  exact gB_rng
theorem g_kind {α : Type} {x : XD} {m : MD} {v : Int32} {KX : Int32 × XD → Option (α × XD)} {KM : Int32 × MD → Option (α × MD)} (H0 : R2 (KX (0, x)) (KM (0, m))) (H1 : ∀ d, d < 8 → v = nI d → R2 (KX (1, x)) (KM (1, m))) : R2 ((f_Hb_isKind v x).bind KX) ((f_Mo_in v.toInt64 0 7 m).bind KM) := by
  rw [hb_isKind, show (0 : Int64) = (0 : Int32).toInt64 from by decide, show (7 : Int64) = (7 : Int32).toInt64 from by decide, mo_in_r, bd_s, bd_s]
  rcases rng_01 (a := 0) (b := 7) (v := v) with e | e
  · rw [e]; exact H0
  · obtain ⟨n, h1, h2⟩ := rng_nat (b := 7) (by omega) e
    rw [e]
    exact H1 n (by omega) h2
theorem op_keep (a1 a2 a3 a4 : Int32) : St2 IV (f_Hb_keep a1 a2 a3 a4) (f_Mo_keep a1 a2 a3 a4) := by
  intro x m ⟨A, hV, hX, hM, hr⟩
  show R2 _ _
  unfold f_Hb_keep f_Mo_keep
  refine R2_14 hM hr fun m hM hr => ?_
  have hI : IV x m := ⟨A, hV, hX, hM, hr⟩
  refine g_shelf (fail2 hI) fun d hd e => pass2 ?_
  refine g_either (fail2 hI) fun c => pass2 ?_
  subst e
  rcases c with c | c
  · subst c
    refine ⟨0, x_up x (67 + d) 0 0, (x_up (x_up (x_up m.1 89 d 0) 90 d 0) 91 d 0, m.2), ?_, ?_, ?_⟩
    · dsimp only
      rw [if_pos rfl, gI_n hd (by omega), hid_n hd, lt_e]
    · dsimp only
      rw [if_neg (show ¬ (0 : Int32) = 1 from by decide), b_Mo_keep_59, gI_n hd (by omega), n_nat (by omega), lt_e]
      rw [if_neg (show ¬ (0 : Int32) = 1 from by decide), b_Mo_keep_81, gI_n hd (by omega), n_nat (by omega), lt_e]
      rw [if_neg (show ¬ (0 : Int32) = 1 from by decide), b_Mo_keep_98, gI_n hd (by omega), n_nat (by omega), lt_e]
    · refine IV_sh hV hX hM hr (fun k hk => x_up_ne (by omega)) (fun k hk => ?_) (ShA_set (d := d) hr.2 hd (fun k k1 k2 k3 => x_up_ne k2) (fun k i k1 k2 k3 => ?_) (fun e i _ _ _ => rfl) (Or.inl ⟨x_up_at, ?_⟩))
      · dsimp only
        rw [x_up_ne (by omega), x_up_ne (by omega), x_up_ne (by omega)]
      · dsimp only
        rw [x_up_nj k3, x_up_nj k3, x_up_nj k3]
      · dsimp only
        rw [x_up_ne (by decide), x_up_ne (by decide), x_up_at]
  · subst c
    dsimp only
    rw [if_neg one_ne0, if_pos rfl]
    refine g_kind (fail2 hI) fun k hk e => pass2 ?_
    refine g_in 0 9 rfl rfl (by decide) (by decide) (by omega) (fail2 hI) fun f _ hf e2 => pass2 ?_
    subst e e2
    refine ⟨0, x_up (x_up (x_up x (67 + d) 0 1) (67 + d) 1 (nI k)) (67 + d) 2 (nI f), (x_up (x_up (x_up m.1 89 d 1) 90 d (nI k)) 91 d (nI f), m.2), ?_, ?_, ?_⟩
    · dsimp only
      rw [gI_n hd (by omega), hid_n hd, lt_e, gI_n hd (by omega), gI_n hk (by omega), lt_e, gI_n hd (by omega), lt_e]
    · dsimp only
      rw [b_Mo_keep_59, gI_n hd (by omega), n_nat (by omega), lt_e]
      rw [if_pos rfl, b_Mo_keep_81, gI_n hd (by omega), n_nat (by omega), lt_e]
      rw [if_pos rfl, b_Mo_keep_98, gI_n hd (by omega), n_nat (by omega), lt_e]
    · refine IV_sh hV hX hM hr (fun k hk => ?_) (fun k hk => ?_) (ShA_set (d := d) hr.2 hd (fun k k1 k2 k3 => ?_) (fun k i k1 k2 k3 => ?_) (fun e i _ _ _ => rfl) (Or.inr (Or.inl ⟨?_, ?_, k, f, hk, by omega, ?_, ?_, ?_, ?_⟩)))
      · rw [x_up_ne (by omega), x_up_ne (by omega), x_up_ne (by omega)]
      · dsimp only
        rw [x_up_ne (by omega), x_up_ne (by omega), x_up_ne (by omega)]
      · rw [x_up_ne k2, x_up_ne k2, x_up_ne k2]
      · dsimp only
        rw [x_up_nj k3, x_up_nj k3, x_up_nj k3]
      · rw [x_up_nj (by decide), x_up_nj (by decide), x_up_at]
      · dsimp only
        rw [x_up_ne (by decide), x_up_ne (by decide), x_up_at]
      · rw [x_up_nj (by decide), x_up_at]
      · dsimp only
        rw [x_up_ne (by decide), x_up_at]
      · rw [x_up_at]
      · dsimp only
        rw [x_up_at]
theorem zeroX {o : Nat} : ∀ (k n j : Nat) (x : XD), j + k = 100 → k < n → (∀ i, i < j → x (o + 8) i = 0) → ∃ x', b_Sh_getRow_17 o n (nI j) x = some ((), x') ∧ (∀ i, i < 100 → x' (o + 8) i = 0) ∧ ∀ k, k ≠ o + 8 → x' k = x k := by
  intro k
  induction k with
  | zero =>
    intro n j x hj hn hz
    obtain ⟨n, rfl⟩ : ∃ m, n = m + 1 := ⟨n - 1, by omega⟩
    obtain rfl : j = 100 := by omega
    exact ⟨x, by rw [b_Sh_getRow_17, if_pos (show (100 : Int32) ≤ nI 100 from by decide)], hz, fun _ _ => rfl⟩
  | succ k ih =>
    intro n j x hj hn hz
    obtain ⟨n, rfl⟩ : ∃ m, n = m + 1 := ⟨n - 1, by omega⟩
    obtain ⟨x', e, h1, h2⟩ := ih n (j + 1) (x_up x (o + 8) j 0) (by omega) (by omega) (fun i hi => by
      by_cases c : i = j
      · rw [c, x_up_at]
      · rw [x_up_nj c]; exact hz i (by omega))
    refine ⟨x', ?_, h1, fun k hk => (h2 k hk).trans (x_up_ne hk)⟩
    rw [← e, b_Sh_getRow_17, show (100 : Int32) = nI 100 from rfl]
    simp only [n_le (show 100 < 2147483648 by omega) (show j < 2147483648 by omega)]
    rw [if_neg (by omega), gI_n (by omega) (by omega), n_nat (by omega), lt_e, show nI j + 1 = nI (j + 1) from n_add j 1]
theorem n_100 {d i : Nat} : (100 : Int32) * nI d + nI i = nI (100 * d + i) := by
  rw [show (100 : Int32) = nI 100 from rfl, n_mul, n_add]
theorem zeroM {d : Nat} (hd : d < 8) : ∀ (k n j : Nat) (m : MD), j + k = 100 → k < n → (∀ i, i < j → m.2.1 94 (100 * d + i) = 0) → ∃ m', b_Mo_row_68 (nI d) n (nI j) m = some (0, m') ∧ (∀ i, i < 100 → m'.2.1 94 (100 * d + i) = 0) ∧ m'.1 = m.1 ∧ ∀ e i, e ≠ d → i < 100 → m'.2.1 94 (100 * e + i) = m.2.1 94 (100 * e + i) := by
  intro k
  induction k with
  | zero =>
    intro n j m hj hn hz
    obtain ⟨n, rfl⟩ : ∃ m, n = m + 1 := ⟨n - 1, by omega⟩
    obtain rfl : j = 100 := by omega
    exact ⟨m, by rw [b_Mo_row_68, if_pos (show (100 : Int32) ≤ nI 100 from by decide)], hz, rfl, fun _ _ _ _ => rfl⟩
  | succ k ih =>
    intro n j m hj hn hz
    obtain ⟨n, rfl⟩ : ∃ m, n = m + 1 := ⟨n - 1, by omega⟩
    obtain ⟨m', e, h1, h2, h3⟩ := ih n (j + 1) (m.1, x_up m.2.1 94 (100 * d + j) 0, m.2.2) (by omega) (by omega) (fun i hi => by
      dsimp only
      by_cases c : i = j
      · rw [c, x_up_at]
      · rw [x_up_nj (by omega)]; exact hz i (by omega))
    refine ⟨m', ?_, h1, h2, fun e i he hi => (h3 e i he hi).trans (by
      dsimp only
      exact x_up_nj (by omega))⟩
    rw [← e, b_Mo_row_68, show (100 : Int32) = nI 100 from rfl]
    simp only [n_le (show 100 < 2147483648 by omega) (show j < 2147483648 by omega)]
    rw [if_neg (by omega), n_mul, n_add, gI_n (by omega) (by omega), n_nat (by omega), lt_e, show nI j + 1 = nI (j + 1) from n_add j 1]
theorem rng_le {v : Int32} {b : Nat} (hb : b < 1000000) (h0 : (0 : Int32) ≤ v) (h1 : v ≤ nI b) : ∃ n, n ≤ b ∧ v = nI n := rng_nat hb (by
  unfold rng
  rw [if_neg (Int32.not_lt.mpr h0), if_neg (Int32.not_lt.mpr h1)])
theorem op_row (a1 a2 a3 : Int32) : St2 IV (f_Hb_row a1 a2 a3) (f_Mo_row a1 a2 a3) := by
  intro x m ⟨A, hV, hX, hM, hr⟩
  show R2 _ _
  unfold f_Hb_row f_Mo_row
  refine R2_14 hM hr fun m hM hr => ?_
  have hI : IV x m := ⟨A, hV, hX, hM, hr⟩
  refine g_shelf (fail2 hI) fun d hd e => pass2 ?_
  refine g_in 0 2 rfl rfl (by decide) (by decide) (by omega) (fail2 hI) fun so _ hso e2 => pass2 ?_
  subst e e2
  by_cases c1 : a3 ≤ 100
  · by_cases c2 : 0 ≤ a3
    · obtain ⟨n, hn, en⟩ := rng_le (b := 100) (by omega) c2 c1
      subst en
      obtain ⟨x', e1, h1, h2⟩ := zeroX (o := 67 + d) 100 fu 0 (x_up (x_up (x_up x (67 + d) 0 2) (67 + d) 3 (nI so)) (67 + d) 4 (nI n)) (by omega) (by decide) (fun i hi => absurd hi (Nat.not_lt_zero i))
      obtain ⟨m', e2, g1, g2, g3⟩ := zeroM hd 100 fu 0 (x_up (x_up (x_up m.1 89 d 2) 92 d (nI so)) 93 d (nI n), m.2) (by omega) (by decide) (fun i hi => absurd hi (Nat.not_lt_zero i))
      have e75 : 67 + d + 8 = 75 + d := by omega
      rw [e75] at h1 h2
      have hx : x' (67 + d) = x_up (x_up (x_up x (67 + d) 0 2) (67 + d) 3 (nI so)) (67 + d) 4 (nI n) (67 + d) := h2 _ (by omega)
      refine ⟨0, x', m', ?_, ?_, ?_⟩
      · dsimp only
        rw [if_pos c1, if_pos c2, gI_n hd (by omega), hid_n hd]
        have : f_Sh_getRow (67 + d) (nI so) (nI n) x = some ((), x') := by
          unfold f_Sh_getRow
          rw [lt_e, lt_e, lt_e]
          exact e1
        rw [this, bd_s]
      · dsimp only
        rw [if_pos c1, if_pos c2, gI_n hd (by omega), n_nat (by omega), lt_e, gI_n hd (by omega), lt_e, gI_n hd (by omega), lt_e]
        exact e2
      · refine IV_sh hV hX hM hr (fun k hk => ?_) (fun k hk => ?_) (ShA_set (d := d) hr.2 hd (fun k k1 k2 k3 => ?_) (fun k i k1 k2 k3 => ?_) (fun e i he _ hi => g3 e i he hi) (Or.inr (Or.inr ⟨?_, ?_, so, n, by omega, hn, ?_, ?_, ?_, ?_, fun i hi => ?_⟩)))
        · rw [h2 k (by omega), x_up_ne (by omega), x_up_ne (by omega), x_up_ne (by omega)]
        · rw [g2]
          dsimp only
          rw [x_up_ne (by omega), x_up_ne (by omega), x_up_ne (by omega)]
        · rw [h2 k k3, x_up_ne k2, x_up_ne k2, x_up_ne k2]
        · rw [g2]
          dsimp only
          rw [x_up_nj k3, x_up_nj k3, x_up_nj k3]
        · rw [hx, x_up_nj (by decide), x_up_nj (by decide), x_up_at]
        · rw [g2]
          dsimp only
          rw [x_up_ne (by decide), x_up_ne (by decide), x_up_at]
        · rw [hx, x_up_nj (by decide), x_up_at]
        · rw [g2]
          dsimp only
          rw [x_up_ne (by decide), x_up_at]
        · rw [hx, x_up_at]
        · rw [g2]
          dsimp only
          rw [x_up_at]
        · rw [g1 i hi, h1 i hi]
          rfl
    · exact R2_eq hI (-14) (by dsimp only; rw [if_pos c1, if_neg c2]) (by dsimp only; rw [if_pos c1, if_neg c2])
  · exact R2_eq hI (-1) (by dsimp only; rw [if_neg c1]) (by dsimp only; rw [if_neg c1])
theorem rng_size {v : Int32} {n : Nat} (hn : n ≤ 1000) (h : rng 0 (nI n - 1) v = 1) : ∃ i, i < n ∧ v = nI i := by
  cases n with
  | zero => exact rng_horse (by omega) h
  | succ k =>
    rw [show nI (k + 1) - 1 = nI k from by rw [show (1 : Int32) = nI 1 from rfl, n_sub (by omega)]; rfl] at h
    obtain ⟨i, h1, h2⟩ := rng_nat (by omega) h
    exact ⟨i, by omega, h2⟩
/-- what is put in, by the sort -/
def putN (so : Nat) (v : Int32) : Int32 := if so = 0 then v.toInt8.toInt32 else if so = 1 then v.toInt16.toInt32 else v
theorem so_is {so : Nat} (h : so < 3) : so = 0 ∨ so = 1 ∨ so = 2 := by omega
theorem hb_set {x : XD} {o i so : Nat} {v : Int32} (hi : i < 100) (hs : so < 3) (h3 : x o 3 = nI so) : f_Sh_set o (nI i) v x = some ((), x_up x (o + 8) i (putN so v)) := by
  unfold f_Sh_set putN
  rw [h3, gI_n hi (by omega), gI_n hi (by omega), gI_n hi (by omega), n_nat (by omega), lt_e, lt_e, lt_e]
  rcases so_is hs with rfl | rfl | rfl <;> rfl
theorem mo_narrow {m : MD} {so : Nat} {v : Int32} (hs : so < 3) : f_Mo_narrowed v (nI so) m = some ((putN so v).toInt64, m) := by
  unfold f_Mo_narrowed putN
  rcases so_is hs with rfl | rfl | rfl <;> rfl
theorem rfc_neg {c : Int32} (h : rfc c) : ¬ (0 : Int32) ≤ c := by
  rcases h with h | h | h <;> rw [h] <;> decide
theorem rfc_ne {c : Int32} (h : rfc c) : ¬ c = 0 := by
  rcases h with h | h | h <;> rw [h] <;> decide
theorem op_put (a1 a2 a3 : Int32) : St2 IV (f_Hb_put a1 a2 a3) (f_Mo_put a1 a2 a3) := by
  intro x m ⟨A, hV, hX, hM, hr⟩
  show R2 _ _
  unfold f_Hb_put f_Mo_put
  refine R2_14 hM hr fun m hM hr => ?_
  have hI : IV x m := ⟨A, hV, hX, hM, hr⟩
  rcases sh_row (v := a1) hr with ⟨c, hc, e3, e4⟩ | ⟨d, hd, ed, x0, m0, ⟨so, n, q1, q2, q3, q4, q5, q6, q7⟩, e3, e4⟩
  · rw [e3, e4, bd_s, bd_s]
    exact R2_eq hI c (if_neg (rfc_ne hc)) (if_neg (rfc_neg hc))
  · rw [e3, e4, bd_s, bd_s, if_pos rfl, if_pos (show (0 : Int32) ≤ 0 from by decide)]
    subst ed
    dsimp only
    rw [gI_n hd (by omega), hid_n hd, q5, gI_n hd (by omega), n_nat (by omega), q6, hb_within, show (0 : Int64) = (0 : Int32).toInt64 from by decide, mo_in_r, bd_s, bd_s]
    rcases rng_01 (a := 0) (b := nI n - 1) (v := a2) with e | e
    · rw [e]
      exact fail2 hI
    · obtain ⟨i, hi, ei⟩ := rng_size (by omega) e
      rw [e]
      subst ei
      refine pass2 ?_
      dsimp only
      rw [gI_n hd (by omega), hb_set (by omega) q1 q3, bd_s, gI_n hd (by omega), q4, mo_narrow q1, bd_s, n_100, gI_n (by omega) (by omega), n_nat (by omega), lt_e]
      have e75 : 67 + d + 8 = 75 + d := by omega
      rw [e75]
      refine ⟨0, x_up x (75 + d) i (putN so a3), (m.1, x_up m.2.1 94 (100 * d + i) (putN so a3).toInt64, m.2.2), rfl, rfl, ?_⟩
      refine IV_sh hV hX hM hr (fun k hk => x_up_ne (by omega)) (fun k hk => rfl) (ShA_set (d := d) hr.2 hd (fun k k1 k2 k3 => x_up_ne k3) (fun k i k1 k2 k3 => rfl) (fun e j he he8 hj => ?_) (Or.inr (Or.inr ⟨?_, m0, so, n, q1, q2, ?_, q4, ?_, q6, fun j hj => ?_⟩)))
      · dsimp only
        exact x_up_nj (by omega)
      · rw [x_up_ne (by omega)]; exact x0
      · rw [x_up_ne (by omega)]; exact q3
      · rw [x_up_ne (by omega)]; exact q5
      · dsimp only
        by_cases c : j = i
        · rw [c, x_up_at, x_up_at]
        · rw [x_up_nj (by omega), x_up_nj c]
          exact q7 j hj
theorem op_element : StE IV := by
  intro a b x m hIV
  obtain ⟨A, hV, hX, hM, hr⟩ := hIV
  have st : ∀ v : Int32, IV x (x_up m.1 83 14 v, m.2) := fun v => ⟨A, hV, hX, LnM_83 hM (by decide), IVr_fr hr frR.rf (frS.up (Or.inl (by decide)) (fun _ => by decide))⟩
  have hE : f_Mo_element a b m = (f_Mo_wrongRow a m).bind fun p1 => ((if p1.1 = (-1) then b_Mo_element_43 a b 1 p1.2 else (if p1.1 < 0 then b_Mo_element_38 a b p1.2 else gI a 8 ((f_Mo_in b.toInt64 0 (((p1.2.1 93 a.toNatClampNeg) - 1).toInt64) p1.2).bind fun p5 => ((if p5.1 = 0 then b_Mo_element_38 a b p5.2 else b_Mo_element_43 a b 0 p5.2)))))) := rfl
  have h43 : ∀ v : Int32, ¬ v ≤ 0 → b_Mo_element_43 a b v m = some (0, (x_up m.1 83 14 v, m.2)) := fun v hv => by
    unfold b_Mo_element_43
    rw [lt_e, if_neg]
    dsimp only
    rw [x_up_at]
    exact hv
  have h38 : b_Mo_element_38 a b m = some (0, (x_up m.1 83 14 2, m.2)) := h43 2 (by decide)
  rw [hE, mo_wrongRow]
  unfold f_Hb_element
  rw [hb_isShelf, bd_s]
  rcases rng_01 (a := 0) (b := 7) (v := a) with e | e
  · rw [e, if_pos rfl, if_pos rfl, bd_s, if_pos rfl]
    refine ⟨some xE_a, 0, x, 0, _, rfl, Or.inr (Or.inl rfl), h43 1 (by decide), ?_, fun h => absurd h (by simp), st 1⟩
    dsimp only
    rw [x_up_at]
    unfold x_code
    rw [if_neg (by simp), if_pos rfl]
  · obtain ⟨d, h1, h2⟩ := rng_nat (b := 7) (by omega) e
    have hd : d < 8 := by omega
    rw [e, if_neg one_ne0, if_neg one_ne0, bd_s]
    subst h2
    dsimp only
    rw [gI_n hd (by omega), hid_n hd, n_nat (by omega)]
    have no : x (67 + d) 0 ≠ 2 → (refC 2 (m.1 89 d) = -11 ∨ refC 2 (m.1 89 d) = -12) → ∃ E v x' r m', (if x (67 + d) 0 = 2 then gI (nI d) 8 ((f_Hb_isWithin b 0 ((x (67 + d) 4) - 1) x).bind fun p2 => if p2.1 = 0 then some ((some xE_i, 0), p2.2) else gI (nI d) 8 (gI b 100 (some ((none, (p2.2 (67 + d + 8) b.toNatClampNeg).toInt64), p2.2)))) else some ((some xE_i, 0), x)) = some ((E, v), x') ∧ (E = none ∨ E = some xE_a ∨ E = some xE_i) ∧ (if refC 2 (m.1 89 d) = -1 then b_Mo_element_43 (nI d) b 1 m else if refC 2 (m.1 89 d) < 0 then b_Mo_element_38 (nI d) b m else gI (nI d) 8 ((f_Mo_in b.toInt64 0 (((m.1 93 d) - 1).toInt64) m).bind fun p5 => ((if p5.1 = 0 then b_Mo_element_38 (nI d) b p5.2 else b_Mo_element_43 (nI d) b 0 p5.2)))) = some (r, m') ∧ m'.1 83 14 = x_code E ∧ (E = none → v = r) ∧ IV x' m' := fun n2 hc => by
      refine ⟨some xE_i, 0, x, 0, _, if_neg n2, Or.inr (Or.inr rfl), ?_, ?_, fun h => absurd h (by simp), st 2⟩
      · rw [if_neg, if_pos, h38]
        · rcases hc with h | h <;> rw [h] <;> decide
        · rcases hc with h | h <;> rw [h] <;> decide
      · dsimp only
        rw [x_up_at]
        unfold x_code
        rw [if_neg (by simp), if_neg (by decide)]
    rcases hr.2 d hd with ⟨x0, m0⟩ | ⟨x0, m0, -⟩ | ⟨x0, m0, ⟨so, n, q1, q2, q3, q4, q5, q6, q7⟩⟩
    · exact no (by rw [x0]; decide) (Or.inl (by rw [m0]; rfl))
    · exact no (by rw [x0]; decide) (Or.inr (by rw [m0]; rfl))
    · have rc : refC 2 (m.1 89 d) = 0 := by rw [m0]; rfl
      rw [if_pos x0, gI_n hd (by omega), q5, hb_within, bd_s, if_neg (show ¬ refC 2 (m.1 89 d) = -1 from by rw [rc]; decide), if_neg (show ¬ refC 2 (m.1 89 d) < 0 from by rw [rc]; decide), gI_n hd (by omega), q6, show (0 : Int64) = (0 : Int32).toInt64 from by decide, mo_in_r, bd_s]
      rcases rng_01 (a := 0) (b := nI n - 1) (v := b) with e | e
      · rw [e]
        refine ⟨some xE_i, 0, x, 0, _, if_pos rfl, Or.inr (Or.inr rfl), ?_, ?_, fun h => absurd h (by simp), st 2⟩
        · rw [gI_n hd (by omega)]
          exact (if_pos rfl).trans h38
        · dsimp only
          rw [x_up_at]
          unfold x_code
          rw [if_neg (by simp), if_neg (by decide)]
      · obtain ⟨i, hi, ei⟩ := rng_size (by omega) e
        rw [e]
        subst ei
        refine ⟨none, (x (75 + d) i).toInt64, x, m.2.1 94 (100 * d + i), (x_up m.1 83 14 0, m.2), ?_, Or.inl rfl, ?_, ?_, fun _ => (q7 i (by omega)).symm, st 0⟩
        · rw [if_neg one_ne0, gI_n (show i < 100 by omega) (by omega), n_nat (by omega)]
          dsimp only
          rw [show 67 + d + 8 = 75 + d by omega]
        · rw [if_neg one_ne0]
          unfold b_Mo_element_43
          have z : (x_up m.1 83 14 0) 83 14 ≤ 0 := by rw [x_up_at]; decide
          rw [gI_n hd (by omega), lt_e, if_pos z, n_100, gI_n (by omega) (by omega), n_nat (by omega)]
        · dsimp only
          rw [x_up_at]
          rfl
theorem holds_eq {x : XD} {m : MD} {d : Nat} (h : ShD x m d) : m.1 89 d = x (67 + d) 0 := by
  rcases h with ⟨a, b⟩ | ⟨a, b, -⟩ | ⟨a, b, -⟩ <;> rw [a, b]
theorem holds_2 {x : XD} {m : MD} {d : Nat} (h : ShD x m d) (e : x (67 + d) 0 = 2) : RwD x m d := by
  rcases h with ⟨a, b⟩ | ⟨a, b, -⟩ | ⟨a, b, c⟩
  · rw [a] at e; exact absurd e (by decide)
  · rw [a] at e; exact absurd e (by decide)
  · exact c
theorem cpy1 {d e i j c : Nat} (hd : d < 8) (hic : i + c ≤ 100) : ∀ (k n q : Nat) (m : MD), q + k = c → k < n → (∀ t, t < q → m.2.1 103 t = m.2.1 94 (100 * d + i + t)) → ∃ m', b_Mo_copy_137 (nI d) (nI i) (nI e) (nI j) (nI c) n (nI q) m = b_Mo_copy_174 (nI e) (nI j) (nI c) fu 0 m' ∧ m'.1 = m.1 ∧ m'.2.1 94 = m.2.1 94 ∧ ∀ t, t < c → m'.2.1 103 t = m.2.1 94 (100 * d + i + t) := by
  intro k
  induction k with
  | zero =>
    intro n q m hj hn hz
    obtain ⟨n, rfl⟩ : ∃ m, n = m + 1 := ⟨n - 1, by omega⟩
    obtain rfl : q = c := by omega
    exact ⟨m, by rw [b_Mo_copy_137, if_pos (nI_le (by omega) (by omega))], rfl, rfl, hz⟩
  | succ k ih =>
    intro n q m hj hn hz
    obtain ⟨n, rfl⟩ : ∃ m, n = m + 1 := ⟨n - 1, by omega⟩
    obtain ⟨m', e1, h1, h2, h3⟩ := ih n (q + 1) (m.1, x_up m.2.1 103 q (m.2.1 94 (100 * d + i + q)), m.2.2) (by omega) (by omega) (fun t ht => by
      dsimp only
      rw [x_up_ne (show ¬ 94 = 103 by decide)]
      by_cases c : t = q
      · rw [c, x_up_at]
      · rw [x_up_nj c]; exact hz t (by omega))
    refine ⟨m', ?_, h1, h2.trans (show x_up m.2.1 103 q (m.2.1 94 (100 * d + i + q)) 94 = m.2.1 94 from x_up_ne (by decide)), fun t ht => (h3 t ht).trans (by
      dsimp only
      rw [x_up_ne (show ¬ 94 = 103 by decide)])⟩
    rw [← e1, b_Mo_copy_137]
    simp only [n_le (show c < 2147483648 by omega) (show q < 2147483648 by omega)]
    rw [if_neg (by omega), n_100, n_add, gI_n (by omega) (by omega), gI_n (by omega) (by omega), n_nat (by omega), n_nat (by omega), lt_e, show nI q + 1 = nI (q + 1) from n_add q 1]
theorem cpy2 {e j c : Nat} (he : e < 8) (hjc : j + c ≤ 100) : ∀ (k n q : Nat) (m : MD), q + k = c → k < n → ∃ m', b_Mo_copy_174 (nI e) (nI j) (nI c) n (nI q) m = some (nI c, m') ∧ m'.1 = m.1 ∧ m'.2.1 103 = m.2.1 103 ∧ (∀ p, ¬ (100 * e + j + q ≤ p ∧ p < 100 * e + j + c) → m'.2.1 94 p = m.2.1 94 p) ∧ ∀ t, q ≤ t → t < c → m'.2.1 94 (100 * e + j + t) = m.2.1 103 t := by
  intro k
  induction k with
  | zero =>
    intro n q m hj hn
    obtain ⟨n, rfl⟩ : ∃ m, n = m + 1 := ⟨n - 1, by omega⟩
    obtain rfl : q = c := by omega
    exact ⟨m, by rw [b_Mo_copy_174, if_pos (nI_le (by omega) (by omega))], rfl, rfl, fun _ _ => rfl, fun t h1 h2 => by omega⟩
  | succ k ih =>
    intro n q m hj hn
    obtain ⟨n, rfl⟩ : ∃ m, n = m + 1 := ⟨n - 1, by omega⟩
    obtain ⟨m', e1, h1, h2, h3, h4⟩ := ih n (q + 1) (m.1, x_up m.2.1 94 (100 * e + j + q) (m.2.1 103 q), m.2.2) (by omega) (by omega)
    refine ⟨m', ?_, h1, h2.trans (show x_up m.2.1 94 (100 * e + j + q) (m.2.1 103 q) 103 = m.2.1 103 from x_up_ne (by decide)), fun p hp => (h3 p (by omega)).trans (by
      dsimp only
      exact x_up_nj (by omega)), fun t t1 t2 => ?_⟩
    · rw [← e1, b_Mo_copy_174]
      simp only [n_le (show c < 2147483648 by omega) (show q < 2147483648 by omega)]
      rw [if_neg (by omega), n_100, n_add, gI_n (by omega) (by omega), gI_n (by omega) (by omega), n_nat (by omega), n_nat (by omega), lt_e, show nI q + 1 = nI (q + 1) from n_add q 1]
    · by_cases z : t = q
      · rw [z, h3 _ (by omega)]
        dsimp only
        rw [x_up_at]
      · rw [h4 t (by omega) t2]
        dsimp only
        rw [x_up_ne (show ¬ 103 = 94 by decide)]
theorem sub_ok {n : Nat} {v w : Int32} (hn : n ≤ 100) (hv : ¬ v < 0) (hw : ¬ w < 0) (h : ¬ nI n - v < w) : ∃ a b, v = nI a ∧ w = nI b ∧ b + a ≤ n := by
  rw [Int32.lt_iff_toInt_lt, show (0 : Int32).toInt = 0 from rfl] at hv hw
  rw [Int32.lt_iff_toInt_lt, Int32.toInt_sub, n_int (by omega)] at h
  have h1 := Int32.toInt_lt v
  have h2 := Int32.toInt_lt w
  simp only [Int.bmod] at h
  refine ⟨v.toInt.toNat, w.toInt.toNat, Int32.toInt_inj.mp ?_, Int32.toInt_inj.mp ?_, by omega⟩
  · rw [n_int (by omega)]; omega
  · rw [n_int (by omega)]; omega
theorem op_copy (a1 a2 a3 a4 a5 : Int32) : St2 IV (f_Hb_copy a1 a2 a3 a4 a5) (f_Mo_copy a1 a2 a3 a4 a5) := by
  intro x m ⟨A, hV, hX, hM, hr⟩
  show R2 _ _
  unfold f_Hb_copy f_Mo_copy
  refine R2_14 hM hr fun m hM hr => ?_
  have hI : IV x m := ⟨A, hV, hX, hM, hr⟩
  refine g_shelf (fail2 hI) fun d hd e1 => pass2 ?_
  refine g_shelf (fail2 hI) fun e he e2 => pass2 ?_
  subst e1 e2
  have hsd := hr.2 d hd
  have hse := hr.2 e he
  dsimp only
  simp only [gI_n hd (show 8 < 2147483648 by omega), gI_n he (show 8 < 2147483648 by omega), hid_n hd, hid_n he, n_nat (show d < 2147483648 by omega), n_nat (show e < 2147483648 by omega), holds_eq hsd, holds_eq hse]
  refine R2_ite (fun _ => R2_eq hI (-11) rfl rfl) fun _ => ?_
  refine R2_ite (fun _ => R2_eq hI (-11) rfl rfl) fun _ => ?_
  refine R2_ite (fun z1 => ?_) fun _ => R2_eq hI (-12) rfl rfl
  refine R2_ite (fun z2 => ?_) fun _ => R2_eq hI (-12) rfl rfl
  obtain ⟨so, n, q1, q2, q3, q4, q5, q6, q7⟩ := holds_2 hsd z1
  obtain ⟨to', p, r1, r2, r3, r4, r5, r6, r7⟩ := holds_2 hse z2
  rw [q3, r3, q4, r4, q6, r6]
  refine R2_ite (fun z3 => ?_) fun _ => R2_eq hI (-12) rfl rfl
  have hp : ∀ (o k : Nat) (v w : Int32), x o 4 = nI k → f_Sh_hasPlaces o v w x = some (if w < 0 then 0 else if v < 0 then 0 else if nI k - w < v then 0 else 1, x) := fun o k v w ho => by
    unfold f_Sh_hasPlaces
    rw [ho]
    repeat' split
    all_goals rfl
  rw [hp _ n _ _ q5, bd_s]
  by_cases c1 : a5 < 0
  · exact R2_eq hI (-13) (by dsimp only; rw [if_pos c1, if_pos rfl]) (if_pos c1)
  by_cases c2 : a2 < 0
  · exact R2_eq hI (-13) (by dsimp only; rw [if_neg c1, if_pos c2, if_pos rfl]) (by rw [if_neg c1, if_pos c2])
  by_cases c3 : nI n - a5 < a2
  · refine R2_eq hI (-13) (by dsimp only; rw [if_neg c1, if_neg c2, if_pos c3, if_pos rfl]) ?_
    rw [if_neg c1, if_neg c2]
    split <;> rfl
  rw [if_neg c1, if_neg c2, if_neg c3]
  dsimp only
  rw [if_neg one_ne0, hp _ p _ _ r5, bd_s]
  by_cases c4 : a4 < 0
  · exact R2_eq hI (-13) (by dsimp only; rw [if_neg c1, if_pos c4, if_pos rfl]) (by rw [if_neg c1, if_neg c2, if_pos c4])
  by_cases c5 : nI p - a5 < a4
  · exact R2_eq hI (-13) (by dsimp only; rw [if_neg c1, if_neg c4, if_pos c5, if_pos rfl]) (by rw [if_neg c1, if_neg c2, if_neg c4, if_neg c3, if_neg (Int32.not_le.mpr c5)])
  obtain ⟨c, i, ec, ei, h1⟩ := sub_ok q2 c1 c2 c3
  obtain ⟨c', j, ec', ej, h2⟩ := sub_ok r2 c1 c4 c5
  have hcc : c' = c := by
    have : nI c' = nI c := by rw [← ec, ← ec']
    rw [n_eq (by omega) (by omega)] at this
    exact this
  subst hcc
  rw [if_neg c1, if_neg c4, if_neg c5]
  dsimp only
  rw [if_neg one_ne0, if_neg c1, if_neg c2, if_neg c4, if_neg c3, if_pos (Int32.not_lt.mp c5)]
  subst ei ej
  rw [ec]
  obtain ⟨m1, g1, g2, g3, g4⟩ := cpy1 (e := e) (j := j) (i := i) (c := c') hd (by omega) c' fu 0 m (by omega) (by show c' < 1000; omega) (fun t ht => absurd ht (Nat.not_lt_zero t))
  obtain ⟨m2, k1, k2, k3, k4, k5⟩ := cpy2 (e := e) (j := j) (c := c') he (by omega) c' fu 0 m1 (by omega) (by show c' < 1000; omega)
  refine ⟨nI c', x_cp x (75 + d) (75 + e) i j c', m2, ?_, g1.trans k1, ?_⟩
  · unfold gC
    rw [if_neg, lt_e, n_nat (by omega), n_nat (by omega), n_nat (by omega), show 67 + d + 8 = 75 + d by omega, show 67 + e + 8 = 75 + e by omega]
    rw [n_nat (by omega), n_nat (by omega), n_nat (by omega)]
    rintro (z | z | z | z | z)
    · exact nneg (by omega) z
    · exact nneg (by omega) z
    · exact nneg (by omega) z
    · omega
    · omega
  · have e94 : ∀ t, t < 100 → ∀ f, f < 8 → f ≠ e → m2.2.1 94 (100 * f + t) = m.2.1 94 (100 * f + t) := fun t ht f hf hne => by
      rw [k4 _ (by omega), g3]
    refine IV_sh hV hX hM hr (fun k hk => ?_) (fun k hk => by rw [k2, g2]) (ShA_set (d := e) hr.2 he (fun k b1 b2 b3 => ?_) (fun k i b1 b2 b3 => by rw [k2, g2]) (fun f t hne hf ht => e94 t ht f hf hne) (Or.inr (Or.inr ⟨?_, ?_, to', p, r1, r2, ?_, ?_, ?_, ?_, fun t ht => ?_⟩)))
    · unfold x_cp
      rw [if_neg (by omega)]
    · unfold x_cp
      rw [if_neg b3]
    · unfold x_cp
      rw [if_neg (by omega)]; exact z2
    · rw [k2, g2, holds_eq hse]; exact z2
    · unfold x_cp
      rw [if_neg (by omega)]; exact r3
    · rw [k2, g2]; exact r4
    · unfold x_cp
      rw [if_neg (by omega)]; exact r5
    · rw [k2, g2]; exact r6
    · unfold x_cp va_cpy
      rw [if_pos rfl]
      by_cases z : j ≤ t ∧ t < j + c'
      · rw [if_pos z]
        have hk := k5 (t - j) (by omega) (by omega)
        rw [show 100 * e + j + (t - j) = 100 * e + t by omega, g4 _ (by omega), show 100 * d + i + (t - j) = 100 * d + (i + (t - j)) by omega, q7 _ (by omega)] at hk
        exact hk
      · rw [if_neg z, k4 _ (by omega), g3]
        exact r7 t ht

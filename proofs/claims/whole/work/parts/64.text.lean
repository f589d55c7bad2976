/-! The text of a land: how both sides read it. -/
abbrev gdB (e : Nat → Int32) (N i : Nat) : Prop := i < N ∧ rng 48 57 (e i) = 1
/-- how far digits go -/
def sc (e : Nat → Int32) (N : Nat) : Nat → Nat → Nat
  | 0, q => q
  | c + 1, q => if gdB e N q then sc e N c (q + 1) else q
def dvN (e : Nat → Int32) (i : Nat) : Nat := ((e i).toInt - 48).toNat
theorem dv_is {e : Nat → Int32} {i : Nat} (h : rng 48 57 (e i) = 1) : e i = nI (48 + dvN e i) ∧ dvN e i ≤ 9 := by
  obtain ⟨n, h1, h2, h3⟩ := rng_natg (a := 48) (b := 57) (by omega) (by omega) h
  have : dvN e i = n - 48 := by
    unfold dvN
    rw [h3, n_int (by omega)]
    omega
  rw [this]
  exact ⟨by rw [h3]; exact congrArg nI (by omega), by omega⟩
theorem sc_b {e : Nat → Int32} {N : Nat} : ∀ c q, q ≤ sc e N c q ∧ sc e N c q ≤ q + c
  | 0, q => ⟨Nat.le_refl q, Nat.le_refl q⟩
  | c + 1, q => by
    have h := sc_b (e := e) (N := N) c (q + 1)
    unfold sc
    split
    · omega
    · omega
theorem sc_g {e : Nat → Int32} {N q c : Nat} (h : gdB e N q) : sc e N (c + 1) q = sc e N c (q + 1) := if_pos h
theorem sc_n {e : Nat → Int32} {N q c : Nat} (h : ¬ gdB e N q) : sc e N (c + 1) q = q := if_neg h
theorem sc_all {e : Nat → Int32} {N : Nat} : ∀ c q, sc e N c q = q + c → ∀ t, t < c → gdB e N (q + t)
  | 0, _, _, t, ht => absurd ht (Nat.not_lt_zero t)
  | c + 1, q, h, t, ht => by
    by_cases g : gdB e N q
    · rw [sc_g g] at h
      cases t with
      | zero => exact g
      | succ t =>
        have := sc_all (e := e) (N := N) c (q + 1) (by omega) t (by omega)
        rw [show q + (t + 1) = q + 1 + t by omega]
        exact this
    · rw [sc_n g] at h
      omega
theorem sc_add {e : Nat → Int32} {N : Nat} (b : Nat) : ∀ a q, sc e N (a + b) q = if sc e N a q = q + a then sc e N b (q + a) else sc e N a q
  | 0, q => by
    rw [if_pos (show sc e N 0 q = q + 0 from rfl), Nat.zero_add]
    rfl
  | a + 1, q => by
    rw [show a + 1 + b = a + b + 1 by omega]
    by_cases g : gdB e N q
    · rw [sc_g g, sc_g g, sc_add b a (q + 1), show q + 1 + a = q + (a + 1) by omega]
    · rw [sc_n g, sc_n g, if_neg (by omega)]
/-- the letters -/
def dBn (c : Int32) : Nat := if c = 100 then 2 else if c = 104 then 6 else if c = 108 then 3 else if c = 111 then 2 else if c = 114 then 3 else 0
theorem hb_behind {c : Int32} {x : XD} : f_Hb_digitsBehind c x = some (nI (dBn c), x) := by
  by_cases c1 : c = 100
  · rw [c1]; rfl
  by_cases c2 : c = 104
  · rw [c2]; rfl
  by_cases c3 : c = 108
  · rw [c3]; rfl
  by_cases c4 : c = 111
  · rw [c4]; rfl
  by_cases c5 : c = 114
  · rw [c5]; rfl
  unfold f_Hb_digitsBehind dBn
  rw [if_neg c1, if_neg c1, if_neg c2, if_neg c3, if_neg c4, if_neg c5]
  simp only [if_neg c2, if_neg c3, if_neg c4, if_neg c5]
  repeat' split
  all_goals rfl
theorem dB_cases (c : Int32) : (dBn c = 0 ∧ c ≠ 100 ∧ c ≠ 104 ∧ c ≠ 108 ∧ c ≠ 111 ∧ c ≠ 114) ∨ c = 100 ∨ c = 104 ∨ c = 108 ∨ c = 111 ∨ c = 114 := by
  by_cases c1 : c = 100
  · exact Or.inr (Or.inl c1)
  by_cases c2 : c = 104
  · exact Or.inr (Or.inr (Or.inl c2))
  by_cases c3 : c = 108
  · exact Or.inr (Or.inr (Or.inr (Or.inl c3)))
  by_cases c4 : c = 111
  · exact Or.inr (Or.inr (Or.inr (Or.inr (Or.inl c4))))
  by_cases c5 : c = 114
  · exact Or.inr (Or.inr (Or.inr (Or.inr (Or.inr c5))))
  refine Or.inl ⟨?_, c1, c2, c3, c4, c5⟩
  unfold dBn
  rw [if_neg c1, if_neg c2, if_neg c3, if_neg c4, if_neg c5]
theorem dB_le (c : Int32) : dBn c ≤ 6 := by
  unfold dBn
  repeat' split
  all_goals omega
/-- the class's text -/
def TXx (x : XD) (d : Nat) (e : Nat → Int32) (N : Nat) : Prop := x (67 + d) 4 = nI N ∧ ∀ i, x (75 + d) i = e i
theorem hp1 {x : XD} {d p N : Nat} {e : Nat → Int32} (hT : TXx x d e N) (hp : p ≤ 1000) (hN : N ≤ 100) : f_Sh_hasPlaces (67 + d) (nI p) 1 x = some (if p < N then 1 else 0, x) := by
  unfold f_Sh_hasPlaces
  rw [if_neg (show ¬ (1 : Int32) < 0 from by decide), if_neg (nneg (by omega)), hT.1]
  have e1 : (nI N - 1 < nI p) = (N ≤ p) := by
    apply propext
    rw [Int32.lt_iff_toInt_lt, Int32.toInt_sub, n_int (by omega), n_int (by omega), show (1 : Int32).toInt = 1 from by decide]
    simp only [Int.bmod]
    omega
  simp only [e1]
  by_cases c : N ≤ p
  · rw [if_pos c, if_neg (by omega)]
  · rw [if_neg c, if_pos (by omega)]
theorem x_el {x : XD} {d p N : Nat} {e : Nat → Int32} (hT : TXx x d e N) (hp : p ≤ 1000) : x (67 + d + 8) (nI p).toNatClampNeg = e p := by
  rw [n_nat (by omega), show 67 + d + 8 = 75 + d by omega]
  exact hT.2 p
/-- behind the digits -/
def endX (K : Int32 → XD → Option (Int32 × XD)) (e : Nat → Int32) (N q : Nat) (x : XD) : Option (Int32 × XD) := if q < N ∧ e q = 59 then (if q + 1 < N then K (nI (q + 1)) x else some (-1, x)) else some (nI q, x)
theorem x_38 {K : Int32 → XD → Option (Int32 × XD)} {x : XD} {d N : Nat} {e : Nat → Int32} (hT : TXx x d e N) (hN : N ≤ 100) : ∀ (c n q : Nat), c < n → q + c ≤ 500 → b_Hb_placeOfLack_38 K (67 + d) (nI (q + c)) n (nI q) x = if sc e N c q = q + c then endX K e N (q + c) x else some (nI (sc e N c q), x) := by
  intro c
  induction c with
  | zero =>
    intro n q hn hq
    obtain ⟨n, rfl⟩ : ∃ m, n = m + 1 := ⟨n - 1, by omega⟩
    rw [if_pos (show sc e N 0 q = q + 0 from rfl), Nat.add_zero, b_Hb_placeOfLack_38, if_pos (nI_le (by omega) (by omega)), hp1 hT (by omega) hN, bd_s]
    unfold endX
    by_cases c1 : q < N
    · rw [if_pos c1]
      dsimp only
      rw [if_neg one_ne0, gI_n (by omega) (by omega)]
      simp only [x_el hT (show q ≤ 1000 by omega), hT.1, show nI q + 1 = nI (q + 1) from n_add q 1, n_lt (show q + 1 < 2147483648 by omega) (show N < 2147483648 by omega)]
      by_cases c2 : e q = 59
      · rw [if_pos c2, if_pos (show q < N ∧ e q = 59 from ⟨c1, c2⟩)]
      · rw [if_neg c2, if_neg (fun (z : q < N ∧ e q = 59) => c2 z.2)]
    · rw [if_neg c1]
      dsimp only
      rw [if_pos rfl, if_neg (fun (z : q < N ∧ e q = 59) => c1 z.1)]
  | succ c ih =>
    intro n q hn hq
    obtain ⟨n, rfl⟩ : ∃ m, n = m + 1 := ⟨n - 1, by omega⟩
    rw [b_Hb_placeOfLack_38]
    simp only [n_le (show q + (c + 1) < 2147483648 by omega) (show q < 2147483648 by omega)]
    rw [if_neg (by omega), hp1 hT (by omega) hN, bd_s]
    by_cases c1 : q < N
    · rw [if_pos c1]
      dsimp only
      rw [if_neg one_ne0, gI_n (by omega) (by omega), x_el hT (by omega), hb_within, bd_s]
      dsimp only
      by_cases c2 : rng 48 57 (e q) = 1
      · rw [sc_g ⟨c1, c2⟩, c2, if_neg one_ne0, show nI q + 1 = nI (q + 1) from n_add q 1, show q + (c + 1) = q + 1 + c by omega]
        exact ih n (q + 1) (by omega) (by omega)
      · have c3 : rng 48 57 (e q) = 0 := by
          rcases rng_01 (a := 48) (b := 57) (v := e q) with z | z
          · exact z
          · exact absurd z c2
        rw [sc_n (fun z => c2 z.2), c3, if_pos rfl, if_neg (by omega)]
    · rw [if_neg c1, sc_n (fun z => c1 z.1)]
      dsimp only
      rw [if_pos rfl, if_neg (show ¬ q = q + (c + 1) by omega)]
theorem x_lack {x : XD} {d N p n : Nat} {e : Nat → Int32} (hT : TXx x d e N) (hN : N ≤ 100) (hp : p ≤ 400) : b_Hb_placeOfLack_2 (67 + d) (n + 1) (nI p) x = if p < N ∧ dBn (e p) ≠ 0 then (if sc e N (dBn (e p)) (p + 1) = p + 1 + dBn (e p) then endX (b_Hb_placeOfLack_2 (67 + d) n) e N (p + 1 + dBn (e p)) x else some (nI (sc e N (dBn (e p)) (p + 1)), x)) else some (nI p, x) := by
  have hb := dB_le (e p)
  rw [b_Hb_placeOfLack_2, hp1 hT (by omega) hN, bd_s]
  by_cases c1 : p < N
  · rw [if_pos c1]
    dsimp only
    rw [if_neg one_ne0, gI_n (by omega) (by omega), x_el hT (by omega), hb_behind, bd_s, b_Hb_placeOfLack_24]
    dsimp only
    rw [show (0 : Int32) = nI 0 from rfl]
    simp only [n_eq (show dBn (e p) < 2147483648 by omega) (show 0 < 2147483648 by omega)]
    by_cases c2 : dBn (e p) = 0
    · rw [if_pos c2, if_neg (fun z => z.2 c2)]
    · rw [if_neg c2, if_pos ⟨c1, c2⟩, show nI p + 1 = nI (p + 1) from n_add p 1, n_add]
      exact x_38 hT hN (dBn (e p)) fu (p + 1) (by show dBn (e p) < 1000; omega) (by omega)
  · rw [if_neg c1]
    dsimp only
    rw [if_pos rfl, if_neg (fun (z : p < N ∧ dBn (e p) ≠ 0) => c1 z.1)]
    rfl
/-! The reference reads. -/
def PS (m : MD) (d p : Nat) (b : Int32) (s : Nat) : Prop := m.1 83 15 = nI d ∧ m.1 83 16 = nI p ∧ m.1 83 17 = b ∧ m.1 83 18 = nI s
def TXm (m : MD) (d : Nat) (e : Nat → Int32) (N : Nat) : Prop := m.1 93 d = nI N ∧ ∀ i, i < 100 → m.2.1 94 (100 * d + i) = (e i).toInt64
/-- only what is read on with has changed -/
def frD (m m' : MD) : Prop := m'.2 = m.2 ∧ (∀ k, k ≠ 83 → m'.1 k = m.1 k) ∧ ∀ j, j ≠ 16 → j ≠ 17 → j ≠ 18 → m'.1 83 j = m.1 83 j
theorem frD.rf {m : MD} : frD m m := ⟨rfl, fun _ _ => rfl, fun _ _ _ _ => rfl⟩
theorem frD.tr {m m1 m2 : MD} (h : frD m m1) (h' : frD m1 m2) : frD m m2 := ⟨h'.1.trans h.1, fun k hk => (h'.2.1 k hk).trans (h.2.1 k hk), fun j a b c => (h'.2.2 j a b c).trans (h.2.2 j a b c)⟩
theorem frD.up {m : MD} {j : Nat} {v : Int32} (hj : j = 16 ∨ j = 17 ∨ j = 18) : frD m (x_up m.1 83 j v, m.2) := ⟨rfl, fun k hk => x_up_ne hk, fun i a b c => show x_up m.1 83 j v 83 i = m.1 83 i from x_up_nj (by omega)⟩
theorem TXm_D {m m' : MD} {d N : Nat} {e : Nat → Int32} (h : TXm m d e N) (f : frD m m') : TXm m' d e N := by
  unfold TXm
  rw [f.2.1 93 (by decide), f.1]
  exact h
theorem PS_16 {m : MD} {d p q s : Nat} {b : Int32} (h : PS m d p b s) : PS (x_up m.1 83 16 (nI q), m.2) d q b s := ⟨(show x_up m.1 83 16 (nI q) 83 15 = m.1 83 15 from x_up_nj (by decide)).trans h.1, (show x_up m.1 83 16 (nI q) 83 16 = nI q from x_up_at), (show x_up m.1 83 16 (nI q) 83 17 = m.1 83 17 from x_up_nj (by decide)).trans h.2.2.1, (show x_up m.1 83 16 (nI q) 83 18 = m.1 83 18 from x_up_nj (by decide)).trans h.2.2.2⟩
theorem PS_17 {m : MD} {d p s : Nat} {b b' : Int32} (h : PS m d p b s) : PS (x_up m.1 83 17 b', m.2) d p b' s := ⟨(show x_up m.1 83 17 b' 83 15 = m.1 83 15 from x_up_nj (by decide)).trans h.1, (show x_up m.1 83 17 b' 83 16 = m.1 83 16 from x_up_nj (by decide)).trans h.2.1, (show x_up m.1 83 17 b' 83 17 = b' from x_up_at), (show x_up m.1 83 17 b' 83 18 = m.1 83 18 from x_up_nj (by decide)).trans h.2.2.2⟩
theorem PS_18 {m : MD} {d p s t : Nat} {b : Int32} (h : PS m d p b s) : PS (x_up m.1 83 18 (nI t), m.2) d p b t := ⟨(show x_up m.1 83 18 (nI t) 83 15 = m.1 83 15 from x_up_nj (by decide)).trans h.1, (show x_up m.1 83 18 (nI t) 83 16 = m.1 83 16 from x_up_nj (by decide)).trans h.2.1, (show x_up m.1 83 18 (nI t) 83 17 = m.1 83 17 from x_up_nj (by decide)).trans h.2.2.1, (show x_up m.1 83 18 (nI t) 83 18 = nI t from x_up_at)⟩
theorem PS_ne {m : MD} {d p s a j : Nat} {b v : Int32} (h : PS m d p b s) (ha : a ≠ 83) : PS (x_up m.1 a j v, m.2) d p b s := by
  unfold PS
  rw [show (x_up m.1 a j v, m.2).1 83 = m.1 83 from x_up_ne (fun z => ha z.symm)]
  exact h
theorem mo_here_n {m : MD} {d p s N : Nat} {b : Int32} {e : Nat → Int32} (hd : d < 8) (hP : PS m d p b s) (hT : TXm m d e N) (hN : N ≤ 100) (hp : p ≤ 500) : f_Mo_here m = some (if p < N then e p else -999, m) := by
  unfold f_Mo_here
  rw [hP.1, hP.2.1, gI_n hd (by omega), n_nat (by omega), hT.1]
  simp only [n_le (show N < 2147483648 by omega) (show p < 2147483648 by omega)]
  by_cases c : p < N
  · rw [if_neg (by omega), if_pos c, n_100, gI_n (by omega) (by omega), n_nat (by omega), hT.2 p (by omega), Int32.toInt32_toInt64]
  · rw [if_pos (by omega), if_neg c]
theorem rd_dig {m : MD} {d p s N : Nat} {b : Int32} {e : Nat → Int32} (hd : d < 8) (hP : PS m d p b s) (hT : TXm m d e N) (hN : N ≤ 100) (hp : p ≤ 500) : ((f_Mo_here m).bind fun p3 => f_Mo_in p3.1.toInt64 48 57 p3.2) = some (if gdB e N p then 1 else 0, m) := by
  rw [mo_here_n hd hP hT hN hp, bd_s, show (48 : Int64) = (48 : Int32).toInt64 from by decide, show (57 : Int64) = (57 : Int32).toInt64 from by decide]
  dsimp only
  rw [mo_in_r]
  by_cases c : p < N
  · rw [if_pos c]
    rcases rng_01 (a := 48) (b := 57) (v := e p) with z | z
    · rw [if_neg (fun (q : gdB e N p) => absurd (z.symm.trans q.2) (by decide)), z]
    · rw [if_pos (show gdB e N p from ⟨c, z⟩), z]
  · rw [if_neg c, if_neg (fun q => c q.1)]
    rfl
/-- the number so far -/
def decN (e : Nat → Int32) : Nat → Nat → Nat → Nat
  | 0, _, v => v
  | c + 1, p, v => decN e c (p + 1) (10 * v + dvN e p)
theorem rd_bad {d p s many : Nat} (hm : many ≤ 10) : ∀ (c n j : Nat) (v : Int32) (m : MD), j + c = many → c < n → PS m d p 1 s → ∃ w m', b_Mo_readDigits_4 (nI many) n v (nI j) m = some (w, m') ∧ PS m' d p 1 s ∧ frD m m' := by
  intro c
  induction c with
  | zero =>
    intro n j v m hj hn hP
    obtain ⟨n, rfl⟩ : ∃ m, n = m + 1 := ⟨n - 1, by omega⟩
    exact ⟨v, m, by rw [b_Mo_readDigits_4, if_pos (nI_le (by omega) (by omega))], hP, frD.rf⟩
  | succ c ih =>
    intro n j v m hj hn hP
    obtain ⟨n, rfl⟩ : ∃ m, n = m + 1 := ⟨n - 1, by omega⟩
    have h1 : PS (x_up (x_up m.1 83 17 1) 83 16 (nI p), m.2) d p 1 s := PS_16 (m := (x_up m.1 83 17 1, m.2)) (PS_17 hP)
    obtain ⟨w, m', e1, h2, f2⟩ := ih n (j + 1) 0 _ (by omega) (by omega) h1
    refine ⟨w, m', ?_, h2, ((frD.up (m := m) (j := 17) (v := 1) (by omega)).tr (frD.up (m := (x_up m.1 83 17 1, m.2)) (j := 16) (v := nI p) (by omega))).tr f2⟩
    have e17 : (x_up m.1 83 17 1) 83 17 = 1 := x_up_at
    have e16 : (x_up m.1 83 17 1) 83 16 = nI p := (x_up_nj (by decide)).trans hP.2.1
    rw [b_Mo_readDigits_4]
    simp only [n_le (show many < 2147483648 by omega) (show j < 2147483648 by omega)]
    rw [if_neg (by omega), if_neg (show ¬ m.1 83 17 = 0 from by rw [hP.2.2.1]; decide), b_Mo_readDigits_34, b_Mo_readDigits_39, gB_1, lt_e, if_neg (show ¬ (x_up m.1 83 17 1) 83 17 = 0 from by rw [e17]; decide), b_Mo_readDigits_65, if_neg (show ¬ (x_up m.1 83 17 1) 83 17 = 0 from by rw [e17]; decide), b_Mo_readDigits_83, lt_e]
    dsimp only
    rw [e16, show nI p + 0 = nI p from n_add p 0, show nI j + 1 = nI (j + 1) from n_add j 1]
    exact e1
theorem rd_good {d s many N : Nat} {e : Nat → Int32} (hd : d < 8) (hN : N ≤ 100) (hm : many ≤ 10) : ∀ (c n j v p : Nat) (m : MD), j + c = many → c < n → p + c ≤ 500 → PS m d p 0 s → TXm m d e N → ∃ w m', b_Mo_readDigits_4 (nI many) n (nI v) (nI j) m = some (w, m') ∧ frD m m' ∧ ((sc e N c p = p + c ∧ PS m' d (p + c) 0 s ∧ w = nI (decN e c p v)) ∨ (sc e N c p ≠ p + c ∧ PS m' d (sc e N c p) 1 s)) := by
  intro c
  induction c with
  | zero =>
    intro n j v p m hj hn hp hP hT
    obtain ⟨n, rfl⟩ : ∃ m, n = m + 1 := ⟨n - 1, by omega⟩
    exact ⟨nI v, m, by rw [b_Mo_readDigits_4, if_pos (nI_le (by omega) (by omega))], frD.rf, Or.inl ⟨rfl, hP, rfl⟩⟩
  | succ c ih =>
    intro n j v p m hj hn hp hP hT
    obtain ⟨n, rfl⟩ : ∃ m, n = m + 1 := ⟨n - 1, by omega⟩
    have hdg := rd_dig hd hP hT hN (show p ≤ 500 by omega)
    have hpre : b_Mo_readDigits_4 (nI many) (n + 1) (nI v) (nI j) m = if gdB e N p then b_Mo_readDigits_39 (b_Mo_readDigits_4 (nI many) n) (nI many) (nI v) (nI j) 0 m else b_Mo_readDigits_34 (b_Mo_readDigits_4 (nI many) n) (nI many) (nI v) (nI j) m := by
      rw [b_Mo_readDigits_4]
      simp only [n_le (show many < 2147483648 by omega) (show j < 2147483648 by omega)]
      rw [if_neg (by omega), if_pos (show m.1 83 17 = 0 from hP.2.2.1)]
      rw [mo_here_n hd hP hT hN (by omega), bd_s] at hdg
      rw [mo_here_n hd hP hT hN (by omega), bd_s, hdg, bd_s]
      by_cases g : gdB e N p
      · rw [if_pos g, if_pos g]
        dsimp only
        rw [if_neg one_ne0]
      · rw [if_neg g, if_neg g]
        dsimp only
        rw [if_pos rfl]
    rw [hpre]
    by_cases g : gdB e N p
    · have hv2 := dv_is g.2
      have P1 : PS (x_up m.1 83 17 0, m.2) d p 0 s := PS_17 hP
      have F1 : frD m (x_up m.1 83 17 0, m.2) := frD.up (by omega)
      have T1 := TXm_D hT F1
      have P2 : PS (x_up (x_up m.1 83 17 0) 83 16 (nI (p + 1)), m.2) d (p + 1) 0 s := PS_16 P1
      have F2 : frD m (x_up (x_up m.1 83 17 0) 83 16 (nI (p + 1)), m.2) := F1.tr (frD.up (m := (x_up m.1 83 17 0, m.2)) (by omega))
      obtain ⟨w, m', e1, f1, h1⟩ := ih n (j + 1) (10 * v + dvN e p) (p + 1) _ (by omega) (by omega) (by omega) P2 (TXm_D hT F2)
      refine ⟨w, m', ?_, F2.tr f1, ?_⟩
      · have hval : (10 : Int32) * nI v + nI (48 + dvN e p) - 48 = nI (10 * v + dvN e p) := by
          rw [show (10 : Int32) = nI 10 from rfl, n_mul, n_add, show (48 : Int32) = nI 48 from rfl, n_sub (by omega)]
          exact congrArg nI (by omega)
        have e17 : (x_up m.1 83 17 0) 83 17 = 0 := x_up_at
        have e16 : (x_up m.1 83 17 0) 83 16 = nI p := (x_up_nj (by decide)).trans hP.2.1
        rw [if_pos g, b_Mo_readDigits_39, gB_0, lt_e, if_pos (show (x_up m.1 83 17 0) 83 17 = 0 from e17), mo_here_n hd P1 T1 hN (by omega), bd_s, if_pos g.1]
        dsimp only
        rw [hv2.1, hval, b_Mo_readDigits_65, if_pos (show (x_up m.1 83 17 0) 83 17 = 0 from e17), b_Mo_readDigits_83, lt_e]
        dsimp only
        rw [e16, show nI p + 1 = nI (p + 1) from n_add p 1, show nI j + 1 = nI (j + 1) from n_add j 1]
        exact e1
      · rw [sc_g g, show p + (c + 1) = p + 1 + c by omega]
        exact h1
    · have P1 : PS (x_up (x_up m.1 83 17 1) 83 16 (nI p), m.2) d p 1 s := PS_16 (m := (x_up m.1 83 17 1, m.2)) (PS_17 hP)
      obtain ⟨w, m', e1, h1, f1⟩ := rd_bad (d := d) (p := p) (s := s) hm c n (j + 1) 0 _ (by omega) (by omega) P1
      refine ⟨w, m', ?_, ((frD.up (m := m) (j := 17) (v := 1) (by omega)).tr (frD.up (m := (x_up m.1 83 17 1, m.2)) (j := 16) (v := nI p) (by omega))).tr f1, Or.inr ⟨?_, ?_⟩⟩
      · have e17 : (x_up m.1 83 17 1) 83 17 = 1 := x_up_at
        have e16 : (x_up m.1 83 17 1) 83 16 = nI p := (x_up_nj (by decide)).trans hP.2.1
        rw [if_neg g, b_Mo_readDigits_34, b_Mo_readDigits_39, gB_1, lt_e, if_neg (show ¬ (x_up m.1 83 17 1) 83 17 = 0 from by rw [e17]; decide), b_Mo_readDigits_65, if_neg (show ¬ (x_up m.1 83 17 1) 83 17 = 0 from by rw [e17]; decide), b_Mo_readDigits_83, lt_e]
        dsimp only
        rw [e16, show nI p + 0 = nI p from n_add p 0, show nI j + 1 = nI (j + 1) from n_add j 1]
        exact e1
      · rw [sc_n g]
        omega
      · rw [sc_n g]
        exact h1
/-- some digits are read -/
theorem rd_n {d s c p N : Nat} {e : Nat → Int32} {m : MD} (hd : d < 8) (hN : N ≤ 100) (hc : c ≤ 10) (hp : p + c ≤ 500) (hP : PS m d p 0 s) (hT : TXm m d e N) : ∃ w m', f_Mo_readDigits (nI c) m = some (w, m') ∧ frD m m' ∧ ((sc e N c p = p + c ∧ PS m' d (p + c) 0 s ∧ w = nI (decN e c p 0)) ∨ (sc e N c p ≠ p + c ∧ PS m' d (sc e N c p) 1 s)) :=
  rd_good hd hN hc c fu 0 0 p m (by omega) (by show c < 1000; omega) hp hP hT
theorem rd_b {d s c p : Nat} {m : MD} (hc : c ≤ 10) (hP : PS m d p 1 s) : ∃ w m', f_Mo_readDigits (nI c) m = some (w, m') ∧ PS m' d p 1 s ∧ frD m m' :=
  rd_bad hc c fu 0 0 m (by omega) (by show c < 1000; omega) hP

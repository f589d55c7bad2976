/-! The text of a land: statements, both sides. -/
section TX
variable {d N : Nat} {e : Nat → Int32}
/-- a digits are read from q on -/
def RS (e : Nat → Int32) (N : Nat) (m : MD) (d q a s : Nat) : Prop := (sc e N a q = q + a ∧ PS m d (q + a) 0 s) ∨ (sc e N a q ≠ q + a ∧ PS m d (sc e N a q) 1 s)
theorem sc_pre {a b q : Nat} (h : sc e N (a + b) q = q + (a + b)) : sc e N a q = q + a := by
  have h1 := sc_b (e := e) (N := N) a q
  by_cases c : sc e N a q = q + a
  · exact c
  · rw [sc_add, if_neg c] at h
    omega
theorem rd_more {q a b s : Nat} {m : MD} (hd : d < 8) (hN : N ≤ 100) (hb : 0 < b ∧ b ≤ 10) (hq : q + (a + b) ≤ 500) (hR : RS e N m d q a s) (hT : TXm m d e N) : ∃ w m', f_Mo_readDigits (nI b) m = some (w, m') ∧ frD m m' ∧ RS e N m' d q (a + b) s ∧ (sc e N (a + b) q = q + (a + b) → w = nI (decN e b (q + a) 0)) := by
  have h1 := sc_b (e := e) (N := N) a q
  rcases hR with ⟨h, hP⟩ | ⟨h, hP⟩
  · obtain ⟨w, m', e1, f1, h2⟩ := rd_n hd hN hb.2 (show q + a + b ≤ 500 by omega) hP hT
    have hs : sc e N (a + b) q = sc e N b (q + a) := by rw [sc_add, if_pos h]
    refine ⟨w, m', e1, f1, ?_, fun z => ?_⟩
    · unfold RS
      rw [hs, show q + (a + b) = q + a + b by omega]
      rcases h2 with ⟨z1, z2, z3⟩ | ⟨z1, z2⟩
      · exact Or.inl ⟨z1, z2⟩
      · exact Or.inr ⟨z1, z2⟩
    · rcases h2 with ⟨z1, z2, z3⟩ | ⟨z1, z2⟩
      · exact z3
      · rw [hs, show q + (a + b) = q + a + b by omega] at z
        exact absurd z z1
  · obtain ⟨w, m', e1, h2, f1⟩ := rd_b hb.2 hP
    have hs : sc e N (a + b) q = sc e N a q := by rw [sc_add, if_neg h]
    refine ⟨w, m', e1, f1, Or.inr ⟨by rw [hs]; omega, by rw [hs]; exact h2⟩, fun z => ?_⟩
    rw [hs] at z
    omega
theorem RS_ne {m : MD} {q a s k j : Nat} {v : Int32} (h : RS e N m d q a s) (hk : k ≠ 83) : RS e N (x_up m.1 k j v, m.2) d q a s := by
  rcases h with ⟨h1, h2⟩ | ⟨h1, h2⟩
  · exact Or.inl ⟨h1, PS_ne h2 hk⟩
  · exact Or.inr ⟨h1, PS_ne h2 hk⟩
/-- only what is read from the statement s on has changed -/
def frQ (s : Nat) (m m' : MD) : Prop := m'.2 = m.2 ∧ (∀ k, k ≠ 83 → k ≠ 97 → m'.1 k = m.1 k) ∧ (∀ j, j ≠ 16 → j ≠ 17 → j ≠ 18 → m'.1 83 j = m.1 83 j) ∧ ∀ i, i < 4 * s → m'.1 97 i = m.1 97 i
theorem frQ.tr {s : Nat} {m m1 m2 : MD} (h : frQ s m m1) (h' : frQ s m1 m2) : frQ s m m2 := ⟨h'.1.trans h.1, fun k a b => (h'.2.1 k a b).trans (h.2.1 k a b), fun j a b c => (h'.2.2.1 j a b c).trans (h.2.2.1 j a b c), fun i hi => (h'.2.2.2 i hi).trans (h.2.2.2 i hi)⟩
theorem frD.Q {s : Nat} {m m' : MD} (h : frD m m') : frQ s m m' := ⟨h.1, fun k a _ => h.2.1 k a, h.2.2, fun i _ => by rw [h.2.1 97 (by decide)]⟩
theorem frQ.up {s j : Nat} {m : MD} {v : Int32} (hj : 4 * s ≤ j) : frQ s m (x_up m.1 97 j v, m.2) := ⟨rfl, fun k _ b => x_up_ne b, fun i _ _ _ => by
  show x_up m.1 97 j v 83 i = _
  rw [x_up_ne (by decide)], fun i hi => show x_up m.1 97 j v 97 i = m.1 97 i from x_up_nj (by omega)⟩
theorem TXm_Q {m m' : MD} {s : Nat} (h : TXm m d e N) (f : frQ s m m') : TXm m' d e N := by
  unfold TXm
  rw [f.2.1 93 (by decide) (by decide), f.1]
  exact h
/-- what is told of a statement -/
def TD (e : Nat → Int32) (m : MD) (k p : Nat) (c : Int32) : Prop :=
  (c = 104 → m.1 97 (4 * k) = nI (decN e 1 (p + 1) 0) ∧ m.1 97 (4 * k + 1) = nI (decN e 1 (p + 2) 0) ∧ m.1 97 (4 * k + 2) = nI (decN e 2 (p + 3) 0) ∧ m.1 97 (4 * k + 3) = nI (decN e 2 (p + 5) 0)) ∧
  (c = 114 ∨ c = 108 → m.1 97 (4 * k) = nI (decN e 1 (p + 1) 0) ∧ m.1 97 (4 * k + 1) = nI (decN e 2 (p + 2) 0)) ∧
  (c = 111 ∨ c = 100 → m.1 97 (4 * k) = nI (decN e 2 (p + 1) 0))
theorem num_n {p s : Nat} {c : Int32} {m : MD} (hd : d < 8) (hN : N ≤ 100) (hp : p ≤ 200) (hs : s ≤ 50) (hc : dBn c ≠ 0) (hP : PS m d (p + 1) 0 s) (hT : TXm m d e N) : ∃ m', f_Mo_readNumbers c (nI (4 * s)) m = some ((), m') ∧ frQ s m m' ∧ RS e N m' d (p + 1) (dBn c) s ∧ (sc e N (dBn c) (p + 1) = p + 1 + dBn c → TD e m' s p c) := by
  have R0 : RS e N m d (p + 1) 0 s := Or.inl ⟨rfl, hP⟩
  have w1 : nI (4 * s) + 1 = nI (4 * s + 1) := n_add _ 1
  have w2 : nI (4 * s) + 2 = nI (4 * s + 2) := n_add _ 2
  have w3 : nI (4 * s) + 3 = nI (4 * s + 3) := n_add _ 3
  have n0 : (nI (4 * s)).toNatClampNeg = 4 * s := n_nat (by omega)
  have n1 : (nI (4 * s + 1)).toNatClampNeg = 4 * s + 1 := n_nat (by omega)
  have n2 : (nI (4 * s + 2)).toNatClampNeg = 4 * s + 2 := n_nat (by omega)
  have n3 : (nI (4 * s + 3)).toNatClampNeg = 4 * s + 3 := n_nat (by omega)
  have od : c = 111 ∨ c = 100 → ∃ m', b_Mo_readNumbers_23 c (nI (4 * s)) (nI (4 * s)) 2 m = some ((), m') ∧ frQ s m m' ∧ RS e N m' d (p + 1) 2 s ∧ (sc e N 2 (p + 1) = p + 1 + 2 → TD e m' s p c) := fun hcc => by
    obtain ⟨a1, m1, e1, f1, r1, v1⟩ := rd_more (b := 2) hd hN (by omega) (by omega) R0 hT
    refine ⟨(x_up m1.1 97 (4 * s) a1, m1.2), ?_, f1.Q.tr (frQ.up (Nat.le_refl _)), ?_, fun z => ⟨fun h => ?_, fun h => ?_, fun _ => ?_⟩⟩
    · rw [b_Mo_readNumbers_23, show (2 : Int32) = nI 2 from rfl, e1, bd_s, gI_n (by omega) (by omega), n0, lt_e]
      rcases hcc with h | h <;> subst h <;> rfl
    · exact RS_ne r1 (by decide)
    · rcases hcc with h' | h' <;> rw [h'] at h <;> exact absurd h (by decide)
    · rcases hcc with h' | h' <;> rw [h'] at h <;> exact absurd h (by decide)
    · show x_up m1.1 97 (4 * s) a1 97 (4 * s) = _
      rw [x_up_at]
      exact v1 z
  have rl : c = 114 ∨ c = 108 → ∃ m', b_Mo_readNumbers_23 c (nI (4 * s)) (nI (4 * s)) 1 m = some ((), m') ∧ frQ s m m' ∧ RS e N m' d (p + 1) 3 s ∧ (sc e N 3 (p + 1) = p + 1 + 3 → TD e m' s p c) := fun hcc => by
    obtain ⟨a1, m1, e1, f1, r1, v1⟩ := rd_more (b := 1) hd hN (by omega) (by omega) R0 hT
    have F1 : frQ s m (x_up m1.1 97 (4 * s) a1, m1.2) := f1.Q.tr (frQ.up (Nat.le_refl _))
    obtain ⟨a2, m2, e2, f2, r2, v2⟩ := rd_more (a := 0 + 1) (b := 2) (m := (x_up m1.1 97 (4 * s) a1, m1.2)) hd hN (by omega) (by omega) (RS_ne r1 (by decide)) (TXm_Q hT F1)
    refine ⟨(x_up m2.1 97 (4 * s + 1) a2, m2.2), ?_, (F1.tr f2.Q).tr (frQ.up (by omega)), RS_ne r2 (by decide), fun z => ⟨fun h => ?_, fun _ => ⟨?_, ?_⟩, fun h => ?_⟩⟩
    · have e87 : b_Mo_readNumbers_87 (nI (4 * s)) (x_up m1.1 97 (4 * s) a1, m1.2) = some ((), (x_up m2.1 97 (4 * s + 1) a2, m2.2)) := by
        rw [b_Mo_readNumbers_87, show (2 : Int32) = nI 2 from rfl, e2, bd_s, w1, gI_n (by omega) (by omega), n1, lt_e]
      rw [b_Mo_readNumbers_23, show (1 : Int32) = nI 1 from rfl, e1, bd_s, gI_n (by omega) (by omega), n0, lt_e, e87]
      rcases hcc with h | h <;> subst h <;> rfl
    · rcases hcc with h' | h' <;> rw [h'] at h <;> exact absurd h (by decide)
    · show x_up m2.1 97 (4 * s + 1) a2 97 (4 * s) = _
      rw [x_up_nj (by omega), f2.2.1 97 (by decide)]
      show x_up m1.1 97 (4 * s) a1 97 (4 * s) = _
      rw [x_up_at]
      exact v1 (sc_pre (b := 2) z)
    · show x_up m2.1 97 (4 * s + 1) a2 97 (4 * s + 1) = _
      rw [x_up_at]
      exact v2 z
    · rcases hcc with h' | h' <;> rw [h'] at h <;> exact absurd h (by decide)
  have hh' : c = 104 → ∃ m', b_Mo_readNumbers_23 c (nI (4 * s)) (nI (4 * s)) 1 m = some ((), m') ∧ frQ s m m' ∧ RS e N m' d (p + 1) 6 s ∧ (sc e N 6 (p + 1) = p + 1 + 6 → TD e m' s p c) := fun hcc => by
    obtain ⟨a1, m1, e1, f1, r1, v1⟩ := rd_more (b := 1) hd hN (by omega) (by omega) R0 hT
    have F1 : frQ s m (x_up m1.1 97 (4 * s) a1, m1.2) := f1.Q.tr (frQ.up (Nat.le_refl _))
    obtain ⟨a2, m2, e2, f2, r2, v2⟩ := rd_more (a := 0 + 1) (b := 1) (m := (x_up m1.1 97 (4 * s) a1, m1.2)) hd hN (by omega) (by omega) (RS_ne r1 (by decide)) (TXm_Q hT F1)
    have F2 : frQ s m (x_up m2.1 97 (4 * s + 1) a2, m2.2) := (F1.tr f2.Q).tr (frQ.up (by omega))
    obtain ⟨a3, m3, e3, f3, r3, v3⟩ := rd_more (a := 0 + 1 + 1) (b := 2) (m := (x_up m2.1 97 (4 * s + 1) a2, m2.2)) hd hN (by omega) (by omega) (RS_ne r2 (by decide)) (TXm_Q hT F2)
    have F3 : frQ s m (x_up m3.1 97 (4 * s + 2) a3, m3.2) := (F2.tr f3.Q).tr (frQ.up (by omega))
    obtain ⟨a4, m4, e4, f4, r4, v4⟩ := rd_more (a := 0 + 1 + 1 + 2) (b := 2) (m := (x_up m3.1 97 (4 * s + 2) a3, m3.2)) hd hN (by omega) (by omega) (RS_ne r3 (by decide)) (TXm_Q hT F3)
    have F4 : frQ s m (x_up m4.1 97 (4 * s + 3) a4, m4.2) := (F3.tr f4.Q).tr (frQ.up (by omega))
    refine ⟨(x_up m4.1 97 (4 * s + 3) a4, m4.2), ?_, F4, RS_ne r4 (by decide), fun z => ⟨fun _ => ⟨?_, ?_, ?_, ?_⟩, fun h => ?_, fun h => ?_⟩⟩
    · subst hcc
      rw [b_Mo_readNumbers_23, show (1 : Int32) = nI 1 from rfl, e1, bd_s, gI_n (by omega) (by omega), n0, lt_e, if_pos rfl, e2, bd_s, show nI (4 * s) + nI 1 = nI (4 * s + 1) from n_add _ _, gI_n (by omega) (by omega), n1, lt_e, show (2 : Int32) = nI 2 from rfl, e3, bd_s, show nI (4 * s) + nI 2 = nI (4 * s + 2) from n_add _ _, gI_n (by omega) (by omega), n2, lt_e, e4, bd_s, w3, gI_n (by omega) (by omega), n3, lt_e]
    · show x_up m4.1 97 (4 * s + 3) a4 97 (4 * s) = _
      rw [x_up_nj (by omega), f4.2.1 97 (by decide)]
      show x_up m3.1 97 (4 * s + 2) a3 97 (4 * s) = _
      rw [x_up_nj (by omega), f3.2.1 97 (by decide)]
      show x_up m2.1 97 (4 * s + 1) a2 97 (4 * s) = _
      rw [x_up_nj (by omega), f2.2.1 97 (by decide)]
      show x_up m1.1 97 (4 * s) a1 97 (4 * s) = _
      rw [x_up_at]
      exact v1 (sc_pre (a := 1) (b := 5) z)
    · show x_up m4.1 97 (4 * s + 3) a4 97 (4 * s + 1) = _
      rw [x_up_nj (by omega), f4.2.1 97 (by decide)]
      show x_up m3.1 97 (4 * s + 2) a3 97 (4 * s + 1) = _
      rw [x_up_nj (by omega), f3.2.1 97 (by decide)]
      show x_up m2.1 97 (4 * s + 1) a2 97 (4 * s + 1) = _
      rw [x_up_at]
      exact v2 (sc_pre (a := 2) (b := 4) z)
    · show x_up m4.1 97 (4 * s + 3) a4 97 (4 * s + 2) = _
      rw [x_up_nj (by omega), f4.2.1 97 (by decide)]
      show x_up m3.1 97 (4 * s + 2) a3 97 (4 * s + 2) = _
      rw [x_up_at]
      exact v3 (sc_pre (a := 4) (b := 2) z)
    · show x_up m4.1 97 (4 * s + 3) a4 97 (4 * s + 3) = _
      rw [x_up_at]
      exact v4 z
    · rcases h with h | h <;> rw [hcc] at h <;> exact absurd h (by decide)
    · rcases h with h | h <;> rw [hcc] at h <;> exact absurd h (by decide)
  rcases dB_cases c with h | h | h | h | h | h
  · exact absurd h.1 hc
  · obtain ⟨m', e1, h1, h2, h3⟩ := od (Or.inr h)
    have hb : dBn c = 2 := by rw [h]; rfl
    refine ⟨m', ?_, h1, by rw [hb]; exact h2, by rw [hb]; exact h3⟩
    unfold f_Mo_readNumbers
    rw [if_neg (by rw [h]; decide), if_pos h, b_Mo_readNumbers_18]
    exact e1
  · obtain ⟨m', e1, h1, h2, h3⟩ := hh' h
    have hb : dBn c = 6 := by rw [h]; rfl
    refine ⟨m', ?_, h1, by rw [hb]; exact h2, by rw [hb]; exact h3⟩
    unfold f_Mo_readNumbers
    rw [if_neg (by rw [h]; decide), if_neg (by rw [h]; decide)]
    exact e1
  · obtain ⟨m', e1, h1, h2, h3⟩ := rl (Or.inr h)
    have hb : dBn c = 3 := by rw [h]; rfl
    refine ⟨m', ?_, h1, by rw [hb]; exact h2, by rw [hb]; exact h3⟩
    unfold f_Mo_readNumbers
    rw [if_neg (by rw [h]; decide), if_neg (by rw [h]; decide)]
    exact e1
  · obtain ⟨m', e1, h1, h2, h3⟩ := od (Or.inl h)
    have hb : dBn c = 2 := by rw [h]; rfl
    refine ⟨m', ?_, h1, by rw [hb]; exact h2, by rw [hb]; exact h3⟩
    unfold f_Mo_readNumbers
    rw [if_pos h, b_Mo_readNumbers_18]
    exact e1
  · obtain ⟨m', e1, h1, h2, h3⟩ := rl (Or.inl h)
    have hb : dBn c = 3 := by rw [h]; rfl
    refine ⟨m', ?_, h1, by rw [hb]; exact h2, by rw [hb]; exact h3⟩
    unfold f_Mo_readNumbers
    rw [if_neg (by rw [h]; decide), if_neg (by rw [h]; decide)]
    exact e1
theorem isl {c : Int32} {m : MD} : f_Mo_isLetter c m = some (if dBn c = 0 then 0 else 1, m) := by
  rcases dB_cases c with h | h | h | h | h | h
  · unfold f_Mo_isLetter
    rw [if_neg h.2.2.1, if_neg h.2.2.2.2.2, if_neg h.2.2.2.2.1, if_neg h.2.1, if_neg h.2.2.2.1, if_pos h.1]
  · subst h; rfl
  · subst h; rfl
  · subst h; rfl
  · subst h; rfl
  · subst h; rfl
/-- only what is read from the statement s on has changed, its place and letter too -/
def frP (s : Nat) (m m' : MD) : Prop := m'.2 = m.2 ∧ (∀ k, k ≠ 83 → k ≠ 95 → k ≠ 96 → k ≠ 97 → m'.1 k = m.1 k) ∧ (∀ j, j ≠ 16 → j ≠ 17 → j ≠ 18 → m'.1 83 j = m.1 83 j) ∧ (∀ i, i < s → m'.1 95 i = m.1 95 i ∧ m'.1 96 i = m.1 96 i) ∧ ∀ i, i < 4 * s → m'.1 97 i = m.1 97 i
theorem frP.rf {s : Nat} {m : MD} : frP s m m := ⟨rfl, fun _ _ _ _ _ => rfl, fun _ _ _ _ => rfl, fun _ _ => ⟨rfl, rfl⟩, fun _ _ => rfl⟩
theorem frP.tr {s : Nat} {m m1 m2 : MD} (h : frP s m m1) (h' : frP s m1 m2) : frP s m m2 := ⟨h'.1.trans h.1, fun k a b c g => (h'.2.1 k a b c g).trans (h.2.1 k a b c g), fun j a b c => (h'.2.2.1 j a b c).trans (h.2.2.1 j a b c), fun i hi => ⟨(h'.2.2.2.1 i hi).1.trans (h.2.2.2.1 i hi).1, (h'.2.2.2.1 i hi).2.trans (h.2.2.2.1 i hi).2⟩, fun i hi => (h'.2.2.2.2 i hi).trans (h.2.2.2.2 i hi)⟩
theorem frP.le {s t : Nat} {m m' : MD} (h : frP s m m') (ht : t ≤ s) : frP t m m' := ⟨h.1, h.2.1, h.2.2.1, fun i hi => h.2.2.2.1 i (by omega), fun i hi => h.2.2.2.2 i (by omega)⟩
theorem frQ.P {s : Nat} {m m' : MD} (h : frQ s m m') : frP s m m' := ⟨h.1, fun k a _ _ g => h.2.1 k a g, h.2.2.1, fun i _ => by rw [h.2.1 95 (by decide) (by decide), h.2.1 96 (by decide) (by decide)]; exact ⟨rfl, rfl⟩, h.2.2.2⟩
theorem TXm_P {m m' : MD} {s : Nat} (h : TXm m d e N) (f : frP s m m') : TXm m' d e N := by
  unfold TXm
  rw [f.2.1 93 (by decide) (by decide) (by decide) (by decide), f.1]
  exact h
/-- the end of a statement that isn't one -/
theorem end_bad {m : MD} {q s : Nat} (hP : PS m d q 1 s) : ∃ m', b_Mo_readStatement_86 m = some ((), m') ∧ PS m' d q 1 (s + 1) ∧ frD m m' := by
  have P1 : PS (x_up (x_up (x_up m.1 83 17 1) 83 16 (nI q)) 83 18 (nI (s + 1)), m.2) d q 1 (s + 1) := PS_18 (m := (x_up (x_up m.1 83 17 1) 83 16 (nI q), m.2)) (PS_16 (m := (x_up m.1 83 17 1, m.2)) (PS_17 hP))
  refine ⟨_, ?_, P1, ((frD.up (m := m) (j := 17) (v := 1) (by omega)).tr (frD.up (m := (x_up m.1 83 17 1, m.2)) (j := 16) (v := nI q) (by omega))).tr (frD.up (m := (x_up (x_up m.1 83 17 1) 83 16 (nI q), m.2)) (j := 18) (v := nI (s + 1)) (by omega))⟩
  have e17 : (x_up m.1 83 17 1) 83 17 = 1 := x_up_at
  have e16 : (x_up m.1 83 17 1) 83 16 = nI q := (x_up_nj (by decide)).trans hP.2.1
  have e18 : (x_up (x_up m.1 83 17 1) 83 16 (nI q)) 83 18 = nI s := ((x_up_nj (by decide)).trans (x_up_nj (by decide))).trans hP.2.2.2
  rw [b_Mo_readStatement_86, if_neg (show ¬ m.1 83 17 = 0 from by rw [hP.2.2.1]; decide), b_Mo_readStatement_103, b_Mo_readStatement_108, gB_1, lt_e, if_neg (show ¬ (x_up m.1 83 17 1) 83 17 = 0 from by rw [e17]; decide), b_Mo_readStatement_128]
  dsimp only
  rw [lt_e, lt_e, e16, show nI q + 0 = nI q from n_add q 0]
  dsimp only
  rw [e18, show nI s + 1 = nI (s + 1) from n_add s 1]
/-- the end of a statement whose digits are all there -/
theorem end_dig {m : MD} {q s : Nat} (hd : d < 8) (hN : N ≤ 100) (hq : q ≤ 500) (hP : PS m d q 0 s) (hT : TXm m d e N) : ∃ m', b_Mo_readStatement_86 m = some ((), m') ∧ frD m m' ∧ ((q < N ∧ e q = 59 ∧ PS m' d (q + 1) 0 (s + 1)) ∨ (¬ (q < N ∧ e q = 59) ∧ PS m' d q 1 (s + 1))) := by
  have hh := mo_here_n hd hP hT hN hq
  rw [b_Mo_readStatement_86, if_pos (show m.1 83 17 = 0 from hP.2.2.1), hh, bd_s]
  dsimp only
  have put : ∀ (v : Int32) (w : Nat), PS (x_up (x_up (x_up m.1 83 17 v) 83 16 (nI w)) 83 18 (nI (s + 1)), m.2) d w v (s + 1) ∧ frD m (x_up (x_up (x_up m.1 83 17 v) 83 16 (nI w)) 83 18 (nI (s + 1)), m.2) := fun v w =>
    ⟨PS_18 (m := (x_up (x_up m.1 83 17 v) 83 16 (nI w), m.2)) (PS_16 (m := (x_up m.1 83 17 v, m.2)) (PS_17 hP)), ((frD.up (m := m) (j := 17) (v := v) (by omega)).tr (frD.up (m := (x_up m.1 83 17 v, m.2)) (j := 16) (v := nI w) (by omega))).tr (frD.up (m := (x_up (x_up m.1 83 17 v) 83 16 (nI w), m.2)) (j := 18) (v := nI (s + 1)) (by omega))⟩
  have e16 : ∀ v, (x_up m.1 83 17 v) 83 16 = nI q := fun v => (x_up_nj (by decide)).trans hP.2.1
  have e18 : ∀ v w, (x_up (x_up m.1 83 17 v) 83 16 (nI w)) 83 18 = nI s := fun v w => ((x_up_nj (by decide)).trans (x_up_nj (by decide))).trans hP.2.2.2
  by_cases c : q < N ∧ e q = 59
  · rw [if_pos c.1, if_pos c.2]
    refine ⟨_, ?_, (put 0 (q + 1)).2, Or.inl ⟨c.1, c.2, (put 0 (q + 1)).1⟩⟩
    rw [b_Mo_readStatement_108, gB_0, lt_e, if_pos (show (x_up m.1 83 17 0) 83 17 = 0 from x_up_at), b_Mo_readStatement_128]
    dsimp only
    rw [lt_e, lt_e, e16, show nI q + 1 = nI (q + 1) from n_add q 1]
    dsimp only
    rw [e18, show nI s + 1 = nI (s + 1) from n_add s 1]
  · have c2 : ¬ (if q < N then e q else -999) = 59 := by
      by_cases z : q < N
      · rw [if_pos z]; exact fun y => c ⟨z, y⟩
      · rw [if_neg z]; decide
    rw [if_neg c2]
    refine ⟨_, ?_, (put 1 q).2, Or.inr ⟨c, (put 1 q).1⟩⟩
    rw [b_Mo_readStatement_103, b_Mo_readStatement_108, gB_1, lt_e, if_neg (show ¬ (x_up m.1 83 17 1) 83 17 = 0 from by rw [x_up_at]; decide), b_Mo_readStatement_128]
    dsimp only
    rw [lt_e, lt_e, e16, show nI q + 0 = nI q from n_add q 0]
    dsimp only
    rw [e18, show nI s + 1 = nI (s + 1) from n_add s 1]
/-- one statement is read -/
theorem stm_n {m : MD} {p s : Nat} (hd : d < 8) (hN : N ≤ 100) (hp : p ≤ 100) (hs : s ≤ 50) (hP : PS m d p 0 s) (hT : TXm m d e N) : ∃ m', f_Mo_readStatement m = some ((), m') ∧ frP s m m' ∧ ((¬ (p < N ∧ dBn (e p) ≠ 0) ∧ PS m' d p 1 (s + 1)) ∨ ((p < N ∧ dBn (e p) ≠ 0) ∧ sc e N (dBn (e p)) (p + 1) ≠ p + 1 + dBn (e p) ∧ PS m' d (sc e N (dBn (e p)) (p + 1)) 1 (s + 1)) ∨ ((p < N ∧ dBn (e p) ≠ 0) ∧ sc e N (dBn (e p)) (p + 1) = p + 1 + dBn (e p) ∧ ((¬ (p + 1 + dBn (e p) < N ∧ e (p + 1 + dBn (e p)) = 59) ∧ PS m' d (p + 1 + dBn (e p)) 1 (s + 1)) ∨ (p + 1 + dBn (e p) < N ∧ e (p + 1 + dBn (e p)) = 59 ∧ PS m' d (p + 1 + dBn (e p) + 1) 0 (s + 1) ∧ m'.1 95 s = nI p ∧ m'.1 96 s = e p ∧ TD e m' s p (e p))))) := by
  have hb := dB_le (e p)
  have hh := mo_here_n hd hP hT hN (show p ≤ 500 by omega)
  have ns : (nI s).toNatClampNeg = s := n_nat (by omega)
  -- place and letter
  have P4 : ∀ c, PS (x_up (x_up m.1 95 s (nI p)) 96 s c, m.2) d p 0 s := fun c => PS_ne (m := (x_up m.1 95 s (nI p), m.2)) (PS_ne hP (by decide)) (by decide)
  have F4 : ∀ c, frP s m (x_up (x_up m.1 95 s (nI p)) 96 s c, m.2) := fun c => ⟨rfl, fun k _ a b _ => by
    dsimp only
    rw [x_up_ne b, x_up_ne a], fun j _ _ _ => by
    dsimp only
    rw [x_up_ne (by decide), x_up_ne (by decide)], fun i hi => by
    dsimp only
    exact ⟨by rw [x_up_ne (by decide), x_up_nj (by omega)], by rw [x_up_nj (by omega), x_up_ne (by decide)]⟩, fun i _ => by
    dsimp only
    rw [x_up_ne (by decide), x_up_ne (by decide)]⟩
  have start : f_Mo_readStatement m = (if dBn (if p < N then e p else -999) = 0 then b_Mo_readStatement_42 (nI s) (if p < N then e p else -999) (x_up (x_up m.1 95 s (nI p)) 96 s (if p < N then e p else -999), m.2) else b_Mo_readStatement_47 (nI s) (if p < N then e p else -999) 0 (x_up (x_up m.1 95 s (nI p)) 96 s (if p < N then e p else -999), m.2)) := by
    unfold f_Mo_readStatement
    rw [hh, bd_s, hP.2.2.2, gI_n (by omega) (by omega), ns, lt_e]
    dsimp only
    rw [gI_n (by omega) (by omega), hP.2.1, lt_e]
    generalize (if p < N then e p else -999) = c
    rw [if_pos (show (x_up (x_up m.1 95 s (nI p)) 96 s c) 83 17 = 0 from (P4 c).2.2.1), isl, bd_s]
    by_cases z : dBn c = 0
    · rw [if_pos z, if_pos z]
      dsimp only
      rw [if_pos rfl]
    · rw [if_neg z, if_neg z]
      dsimp only
      rw [if_neg one_ne0]
  by_cases g : p < N ∧ dBn (e p) ≠ 0
  · rw [if_pos g.1] at start
    rw [if_neg g.2] at start
    -- the letter is one
    have P6 : PS (x_up (x_up (x_up (x_up m.1 95 s (nI p)) 96 s (e p)) 83 17 0) 83 16 (nI (p + 1)), m.2) d (p + 1) 0 s := PS_16 (m := (x_up (x_up (x_up m.1 95 s (nI p)) 96 s (e p)) 83 17 0, m.2)) (PS_17 (P4 (e p)))
    have F6 : frP s m (x_up (x_up (x_up (x_up m.1 95 s (nI p)) 96 s (e p)) 83 17 0) 83 16 (nI (p + 1)), m.2) := (F4 (e p)).tr (frD.Q ((frD.up (m := (x_up (x_up m.1 95 s (nI p)) 96 s (e p), m.2)) (j := 17) (v := 0) (by omega)).tr (frD.up (m := (x_up (x_up (x_up m.1 95 s (nI p)) 96 s (e p)) 83 17 0, m.2)) (j := 16) (v := nI (p + 1)) (by omega)))).P
    obtain ⟨m7, e7, f7, r7, t7⟩ := num_n (c := e p) hd hN (show p ≤ 200 by omega) hs g.2 P6 (TXm_P hT F6)
    have F7 := F6.tr f7.P
    have go : f_Mo_readStatement m = b_Mo_readStatement_86 m7 := by
      rw [start, b_Mo_readStatement_47, gB_0, lt_e, if_pos (show (x_up (x_up (x_up m.1 95 s (nI p)) 96 s (e p)) 83 17 0) 83 17 = 0 from x_up_at), b_Mo_readStatement_67]
      dsimp only
      rw [show (x_up (x_up (x_up m.1 95 s (nI p)) 96 s (e p)) 83 17 0) 83 16 = nI p from (x_up_nj (by decide)).trans (P4 (e p)).2.1, show nI p + 1 = nI (p + 1) from n_add p 1, lt_e, if_pos (show (x_up (x_up (x_up (x_up m.1 95 s (nI p)) 96 s (e p)) 83 17 0) 83 16 (nI (p + 1))) 83 17 = 0 from P6.2.2.1), show (4 : Int32) * nI s = nI (4 * s) from n_mul 4 s, e7, bd_s]
    have k95 : m7.1 95 s = nI p := by
      rw [f7.2.1 95 (by decide) (by decide)]
      dsimp only
      rw [x_up_ne (by decide), x_up_ne (by decide), x_up_ne (by decide), x_up_at]
    have k96 : m7.1 96 s = e p := by
      rw [f7.2.1 96 (by decide) (by decide)]
      dsimp only
      rw [x_up_ne (by decide), x_up_ne (by decide), x_up_at]
    rcases r7 with ⟨z1, z2⟩ | ⟨z1, z2⟩
    · obtain ⟨m8, e8, f8, h8⟩ := end_dig hd hN (by omega) z2 (TXm_P hT F7)
      refine ⟨m8, by rw [go]; exact e8, F7.tr f8.Q.P, Or.inr (Or.inr ⟨g, z1, ?_⟩)⟩
      rcases h8 with ⟨y1, y2, y3⟩ | ⟨y1, y2⟩
      · refine Or.inr ⟨y1, y2, y3, by rw [f8.2.1 95 (by decide)]; exact k95, by rw [f8.2.1 96 (by decide)]; exact k96, ?_⟩
        have t8 := t7 z1
        unfold TD at t8 ⊢
        rw [f8.2.1 97 (by decide)]
        exact t8
      · exact Or.inl ⟨y1, y2⟩
    · obtain ⟨m8, e8, h8, f8⟩ := end_bad z2
      exact ⟨m8, by rw [go]; exact e8, F7.tr f8.Q.P, Or.inr (Or.inl ⟨g, z1, h8⟩)⟩
  · have hz : dBn (if p < N then e p else -999) = 0 := by
      by_cases z : p < N
      · rw [if_pos z]
        exact Decidable.byContradiction fun y => g ⟨z, y⟩
      · rw [if_neg z]; rfl
    rw [if_pos hz] at start
    generalize (if p < N then e p else -999) = c at start
    have P6 : PS (x_up (x_up (x_up (x_up m.1 95 s (nI p)) 96 s c) 83 17 1) 83 16 (nI p), m.2) d p 1 s := PS_16 (m := (x_up (x_up (x_up m.1 95 s (nI p)) 96 s c) 83 17 1, m.2)) (PS_17 (P4 c))
    have F6 : frP s m (x_up (x_up (x_up (x_up m.1 95 s (nI p)) 96 s c) 83 17 1) 83 16 (nI p), m.2) := (F4 c).tr (frD.Q ((frD.up (m := (x_up (x_up m.1 95 s (nI p)) 96 s c, m.2)) (j := 17) (v := 1) (by omega)).tr (frD.up (m := (x_up (x_up (x_up m.1 95 s (nI p)) 96 s c) 83 17 1, m.2)) (j := 16) (v := nI p) (by omega)))).P
    obtain ⟨m8, e8, h8, f8⟩ := end_bad P6
    refine ⟨m8, ?_, F6.tr f8.Q.P, Or.inl ⟨g, h8⟩⟩
    rw [start, b_Mo_readStatement_42, b_Mo_readStatement_47, gB_1, lt_e, if_neg (show ¬ (x_up (x_up (x_up m.1 95 s (nI p)) 96 s c) 83 17 1) 83 17 = 0 from by rw [x_up_at]; decide), b_Mo_readStatement_67]
    dsimp only
    rw [show (x_up (x_up (x_up m.1 95 s (nI p)) 96 s c) 83 17 1) 83 16 = nI p from (x_up_nj (by decide)).trans (P4 c).2.1, show nI p + 0 = nI p from n_add p 0, lt_e, if_neg (show ¬ (x_up (x_up (x_up (x_up m.1 95 s (nI p)) 96 s c) 83 17 1) 83 16 (nI p)) 83 17 = 0 from by rw [show (x_up (x_up (x_up (x_up m.1 95 s (nI p)) 96 s c) 83 17 1) 83 16 (nI p)) 83 17 = 1 from P6.2.2.1]; decide)]
    exact e8
/-- where the statements begin -/
def posN (e : Nat → Int32) : Nat → Nat
  | 0 => 0
  | j + 1 => posN e j + dBn (e (posN e j)) + 2
/-- the statements that are read -/
def PF (e : Nat → Int32) (N : Nat) (m : MD) (s : Nat) : Prop := ∀ j, j < s → posN e j < N ∧ dBn (e (posN e j)) ≠ 0 ∧ sc e N (dBn (e (posN e j))) (posN e j + 1) = posN e j + 1 + dBn (e (posN e j)) ∧ m.1 95 j = nI (posN e j) ∧ m.1 96 j = e (posN e j) ∧ TD e m j (posN e j) (e (posN e j))
theorem PF_fr {m m' : MD} {s : Nat} (h : PF e N m s) (e5 : ∀ i, i < s → m'.1 95 i = m.1 95 i ∧ m'.1 96 i = m.1 96 i) (e7 : ∀ i, i < 4 * s → m'.1 97 i = m.1 97 i) : PF e N m' s := fun j hj => by
  obtain ⟨h1, h2, h3, h4, h5, t1, t2, t3⟩ := h j hj
  refine ⟨h1, h2, h3, (e5 j hj).1.trans h4, (e5 j hj).2.trans h5, fun z => ?_, fun z => ?_, fun z => ?_⟩
  · rw [e7 _ (by omega), e7 _ (by omega), e7 _ (by omega), e7 _ (by omega)]
    exact t1 z
  · rw [e7 _ (by omega), e7 _ (by omega)]
    exact t2 z
  · rw [e7 _ (by omega)]
    exact t3 z
/-- the text is read by both sides -/
theorem parse_l {x : XD} (hd : d < 8) (hN : N ≤ 100) (hX : TXx x d e N) : ∀ (k n n' s : Nat) (m : MD), N ≤ posN e s + k → k < n → k + 1 < n' → posN e s ≤ 100 → 4 * s ≤ posN e s → (s = 0 ∨ posN e s < N) → PS m d (posN e s) 0 s → TXm m d e N → PF e N m s → ∃ m', b_Mo_land_57 (nI d) n' m = b_Mo_land_91 m' ∧ frP 0 m m' ∧ ((∃ q S, q ≤ 500 ∧ b_Hb_placeOfLack_2 (67 + d) n (nI (posN e s)) x = some (nI q, x) ∧ PS m' d q 1 S) ∨ (∃ S, b_Hb_placeOfLack_2 (67 + d) n (nI (posN e s)) x = some (-1, x) ∧ PS m' d (posN e S) 0 S ∧ S ≤ 50 ∧ N ≤ posN e S ∧ PF e N m' S)) := by
  intro k
  induction k with
  | zero =>
    intro n n' s m hk hn hn' hp hs4 hs0 hP hT hF
    obtain ⟨n, rfl⟩ : ∃ m, n = m + 1 := ⟨n - 1, by omega⟩
    obtain ⟨n', rfl⟩ : ∃ m, n' = m + 1 := ⟨n' - 1, by omega⟩
    obtain ⟨n', rfl⟩ : ∃ m, n' = m + 1 := ⟨n' - 1, by omega⟩
    obtain ⟨m1, e1, f1, h1⟩ := stm_n hd hN hp (by omega) hP hT
    have hno : ¬ (posN e s < N ∧ dBn (e (posN e s)) ≠ 0) := fun z => absurd z.1 (by omega)
    rcases h1 with ⟨_, h1⟩ | ⟨h1, _⟩ | ⟨h1, _⟩
    · refine ⟨m1, ?_, f1.le (Nat.zero_le s), Or.inl ⟨posN e s, s + 1, by omega, ?_, h1⟩⟩
      · have s0 : s = 0 := by
          rcases hs0 with z | z
          · exact z
          · omega
        rw [b_Mo_land_57, if_pos (show m.1 83 17 = 0 from hP.2.2.1), if_pos (show m.1 83 18 = 0 from by rw [hP.2.2.2, s0]; rfl), b_Mo_land_84, e1, bd_s]
        dsimp only
        rw [b_Mo_land_57, if_neg (show ¬ m1.1 83 17 = 0 from by rw [h1.2.2.1]; decide)]
      · rw [x_lack hX hN (by omega), if_neg hno]
    · exact absurd h1 hno
    · exact absurd h1 hno
  | succ k ih =>
    intro n n' s m hk hn hn' hp hs4 hs0 hP hT hF
    obtain ⟨n, rfl⟩ : ∃ m, n = m + 1 := ⟨n - 1, by omega⟩
    obtain ⟨n', rfl⟩ : ∃ m, n' = m + 1 := ⟨n' - 1, by omega⟩
    have hb := dB_le (e (posN e s))
    obtain ⟨m1, e1, f1, h1⟩ := stm_n hd hN hp (by omega) hP hT
    have head : b_Mo_land_57 (nI d) (n' + 1) m = b_Mo_land_57 (nI d) n' m1 := by
      rw [b_Mo_land_57, if_pos (show m.1 83 17 = 0 from hP.2.2.1)]
      by_cases z : s = 0
      · rw [if_pos (show m.1 83 18 = 0 from by rw [hP.2.2.2, z]; rfl), b_Mo_land_84, e1, bd_s]
      · have z2 : posN e s < N := by
          rcases hs0 with y | y
          · exact absurd y z
          · exact y
        rw [if_neg (show ¬ m.1 83 18 = 0 from by rw [hP.2.2.2, show (0 : Int32) = nI 0 from rfl, n_eq (by omega) (by omega)]; exact z), gI_n hd (by omega), n_nat (by omega), hT.1, hP.2.1, if_neg (show ¬ nI N ≤ nI (posN e s) from by rw [n_le (by omega) (by omega)]; omega), b_Mo_land_84, e1, bd_s]
    have bad : ∀ q, q ≤ 500 → PS m1 d q 1 (s + 1) → b_Hb_placeOfLack_2 (67 + d) (n + 1) (nI (posN e s)) x = some (nI q, x) → ∃ m', b_Mo_land_57 (nI d) (n' + 1) m = b_Mo_land_91 m' ∧ frP 0 m m' ∧ ((∃ q S, q ≤ 500 ∧ b_Hb_placeOfLack_2 (67 + d) (n + 1) (nI (posN e s)) x = some (nI q, x) ∧ PS m' d q 1 S) ∨ (∃ S, b_Hb_placeOfLack_2 (67 + d) (n + 1) (nI (posN e s)) x = some (-1, x) ∧ PS m' d (posN e S) 0 S ∧ S ≤ 50 ∧ N ≤ posN e S ∧ PF e N m' S)) := fun q hq hP1 hx => by
      obtain ⟨n', rfl⟩ : ∃ m, n' = m + 1 := ⟨n' - 1, by omega⟩
      refine ⟨m1, ?_, f1.le (Nat.zero_le s), Or.inl ⟨q, s + 1, hq, hx, hP1⟩⟩
      rw [head, b_Mo_land_57, if_neg (show ¬ m1.1 83 17 = 0 from by rw [hP1.2.2.1]; decide)]
    have hxl := x_lack (n := n) hX hN (show posN e s ≤ 400 by omega)
    rcases h1 with ⟨g, h1⟩ | ⟨g, z, h1⟩ | ⟨g, z, ⟨y, h1⟩ | ⟨y1, y2, h1, k5, k6, k7⟩⟩
    · exact bad _ (by omega) h1 (by rw [hxl, if_neg g])
    · have hsb := sc_b (e := e) (N := N) (dBn (e (posN e s))) (posN e s + 1)
      exact bad _ (by omega) h1 (by rw [hxl, if_pos g, if_neg z])
    · exact bad _ (by omega) h1 (by rw [hxl, if_pos g, if_pos z]; exact if_neg y)
    · have hpos : posN e (s + 1) = posN e s + 1 + dBn (e (posN e s)) + 1 := by
        show posN e s + dBn (e (posN e s)) + 2 = _
        omega
      have hd2 : 2 ≤ dBn (e (posN e s)) := by
        rcases dB_cases (e (posN e s)) with q | q | q | q | q | q
        · exact absurd q.1 g.2
        · rw [q]; decide
        · rw [q]; decide
        · rw [q]; decide
        · rw [q]; decide
        · rw [q]; decide
      rw [← hpos] at h1
      have hF1 : PF e N m1 (s + 1) := fun j hj => by
        by_cases q : j = s
        · rw [q]
          exact ⟨g.1, g.2, z, k5, k6, k7⟩
        · exact PF_fr hF f1.2.2.2.1 f1.2.2.2.2 j (by omega)
      have hT1 := TXm_P hT f1
      have hxe : b_Hb_placeOfLack_2 (67 + d) (n + 1) (nI (posN e s)) x = if posN e (s + 1) < N then b_Hb_placeOfLack_2 (67 + d) n (nI (posN e (s + 1))) x else some (-1, x) := by
        rw [hxl, if_pos g, if_pos z, hpos]
        exact if_pos ⟨y1, y2⟩
      by_cases w : posN e (s + 1) < N
      · obtain ⟨m', e2, f2, h2⟩ := ih n n' (s + 1) m1 (by omega) (by omega) (by omega) (by omega) (by omega) (Or.inr w) h1 hT1 hF1
        refine ⟨m', head.trans e2, (f1.le (Nat.zero_le s)).tr f2, ?_⟩
        rw [hxe, if_pos w]
        exact h2
      · obtain ⟨n', rfl⟩ : ∃ m, n' = m + 1 := ⟨n' - 1, by omega⟩
        refine ⟨m1, ?_, f1.le (Nat.zero_le s), Or.inr ⟨s + 1, by rw [hxe, if_neg w], h1, by omega, by omega, hF1⟩⟩
        rw [head, b_Mo_land_57, if_pos (show m1.1 83 17 = 0 from h1.2.2.1), if_neg (show ¬ m1.1 83 18 = 0 from by rw [h1.2.2.2, show (0 : Int32) = nI 0 from rfl, n_eq (by omega) (by omega)]; omega), gI_n hd (by omega), n_nat (by omega), hT1.1, h1.2.1, if_pos (nI_le (by omega) (by omega))]
end TX

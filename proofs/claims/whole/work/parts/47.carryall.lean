/-! The reference's land: all of it carried away and back. -/
theorem x_up_same {w : XD} {k j : Nat} {v : Int32} (h : w k j = v) : x_up w k j v = w := by
  funext a b
  unfold x_up
  split
  · rename_i h1
    split
    · rename_i h2
      rw [h1, h2]
      exact h.symm
    · rfl
  · rfl
theorem x_up_at {α : Type} {w : Nat → Nat → α} {k j : Nat} {v : α} : x_up w k j v k j = v := by simp [x_up]
theorem x_up_nj {α : Type} {w : Nat → Nat → α} {k j a b : Nat} {v : α} (h : ¬ b = j) : x_up w k j v a b = w a b := by simp [x_up, h]
theorem x_up_el {α : Type} {w : Nat → Nat → α} {k j a b : Nat} {v : α} (h : ¬ (a = k ∧ b = j)) : x_up w k j v a b = w a b := by
  unfold x_up
  split
  · split
    · rename_i h1 h2
      exact absurd ⟨h1, h2⟩ h
    · rfl
  · rfl
/-- where the number of a place stands in the reference -/
def locK (q : Nat) : Nat × Nat := if q = 0 then (83, 0) else if q = 1 then (83, 6) else if q = 2 then (83, 7) else (84 + (q - 3) % 5, (q - 3) / 5)
def kv (m : MD) (q : Nat) : Int32 := m.1 (locK q).1 (locK q).2
theorem locK_h {h i : Nat} (hi : i < 5) : locK (3 + 5 * h + i) = (84 + i, h) := by
  unfold locK
  rw [if_neg (by omega), if_neg (by omega), if_neg (by omega), show (3 + 5 * h + i - 3) % 5 = i by omega, show (3 + 5 * h + i - 3) / 5 = h by omega]
theorem kv_h {m : MD} {h i : Nat} (hi : i < 5) : kv m (3 + 5 * h + i) = m.1 (84 + i) h := by
  unfold kv
  rw [locK_h hi]
theorem locK_inj : ∀ p, p < 38 → ∀ q, q < p → ¬ ((locK q).1 = (locK p).1 ∧ (locK q).2 = (locK p).2) := by decide +kernel
theorem locK_27 : ∀ q, q < 38 → ¬ ((locK q).1 = 83 ∧ (locK q).2 = 27) := by decide +kernel
theorem locK_28 : ∀ q, q < 38 → ¬ (83 = (locK q).1 ∧ 28 = (locK q).2) := by decide +kernel
theorem locK_72 : ∀ q, q < 38 → ¬ (83 = (locK q).1 ∧ 27 = (locK q).2) := by decide +kernel
theorem locK_b : ∀ q, q < 38 → 83 ≤ (locK q).1 ∧ (locK q).1 ≤ 88 := by decide +kernel
theorem locK_83 : ∀ q, q < 38 → (locK q).1 = 83 → ((locK q).2 = 0 ∨ (locK q).2 = 6 ∨ (locK q).2 = 7) := by decide +kernel
/-- the land of the reference and a kept array are others, and how it carries -/
def frK (a : Nat) (m m' : MD) : Prop := m'.2.1 = m.2.1 ∧ (∀ k, k < 83 ∨ 88 < k → k ≠ a → m'.1 k = m.1 k) ∧ ∀ j, j ≠ 0 → j ≠ 6 → j ≠ 7 → j ≠ 27 → j ≠ 28 → m'.1 83 j = m.1 83 j
theorem frK.rf {a : Nat} {m : MD} : frK a m m := ⟨rfl, fun _ _ _ => rfl, fun _ _ _ _ _ _ => rfl⟩
theorem frK.tr {a : Nat} {m m1 m2 : MD} (h : frK a m m1) (h' : frK a m1 m2) : frK a m m2 := ⟨h'.1.trans h.1, fun k hk hn => (h'.2.1 k hk hn).trans (h.2.1 k hk hn), fun j a b c d e => (h'.2.2 j a b c d e).trans (h.2.2 j a b c d e)⟩
/-- the land of the reference is another, and how it carries -/
def frB (m m' : MD) : Prop := m'.2.1 = m.2.1 ∧ (∀ k, k < 83 ∨ 88 < k → m'.1 k = m.1 k) ∧ ∀ j, j ≠ 0 → j ≠ 6 → j ≠ 7 → j ≠ 27 → j ≠ 28 → m'.1 83 j = m.1 83 j
theorem frB.rf {m : MD} : frB m m := ⟨rfl, fun _ _ => rfl, fun _ _ _ _ _ _ => rfl⟩
theorem frB.tr {m m1 m2 : MD} (h : frB m m1) (h' : frB m1 m2) : frB m m2 := ⟨h'.1.trans h.1, fun k hk => (h'.2.1 k hk).trans (h.2.1 k hk), fun j a b c d e => (h'.2.2 j a b c d e).trans (h.2.2 j a b c d e)⟩
theorem frB.K {a : Nat} {m m' : MD} (h : frB m m') : frK a m m' := ⟨h.1, fun k hk _ => h.2.1 k hk, h.2.2⟩
theorem frM.B {m m' : MD} (h : frM m m') : frB m m' := ⟨by rw [h.1], h.2.1, fun j a b c _ _ => h.2.2 j a b c⟩
theorem LkM_B {m m' : MD} {a : Nat} {A : Ld} (ha : 88 < a) (h : LkM m a A) (f : frB m m') : LkM m' a A := by
  unfold LkM
  rw [f.2.1 a (Or.inr ha)]
  exact h
theorem LkM_K {m m' : MD} {a b : Nat} {A : Ld} (ha : 88 < a) (hne : a ≠ b) (h : LkM m a A) (f : frK b m m') : LkM m' a A := by
  unfold LkM
  rw [f.2.1 a (Or.inr ha) hne]
  exact h
/-- under way, taking -/
def kT (a : Nat) (m0 m : MD) (p : Nat) : Prop := m.2 = (m0.2.1, a) ∧ m.1 83 28 = 1 ∧ m.1 83 27 = nI p ∧ (∀ k, k ≠ a → k ≠ 83 → m.1 k = m0.1 k) ∧ (∀ j, j ≠ 27 → j ≠ 28 → m.1 83 j = m0.1 83 j) ∧ ∀ q, q < p → m.1 a q = kv m0 q
theorem kT_step {a p : Nat} {m0 m : MD} {v : Int32} (ha : 98 ≤ a ∧ a < 102) (h : kT a m0 m p) (hp : p < 38) (hv : v = kv m0 p) : ∃ m1, f_Mo_carry v m = some (v, m1) ∧ kT a m0 m1 (p + 1) := by
  obtain ⟨h1, h2, h3, h4, h5, h6⟩ := h
  have na : ¬ 83 = a := by omega
  have an : ¬ a = 83 := by omega
  refine ⟨_, mo_carry_1 ha (by rw [h1]) h3 h2 hp, h1, ?_, ?_, fun k hk h83 => ?_, fun j j1 j2 => ?_, fun q hq => ?_⟩
  · show x_up (x_up m.1 a p v) 83 27 (nI (p + 1)) 83 28 = 1
    rw [x_up_nj (by decide), x_up_ne na]
    exact h2
  · show x_up (x_up m.1 a p v) 83 27 (nI (p + 1)) 83 27 = nI (p + 1)
    exact x_up_at
  · show x_up (x_up m.1 a p v) 83 27 (nI (p + 1)) k = m0.1 k
    rw [x_up_ne h83, x_up_ne hk]
    exact h4 k hk h83
  · show x_up (x_up m.1 a p v) 83 27 (nI (p + 1)) 83 j = m0.1 83 j
    rw [x_up_nj j1, x_up_ne na]
    exact h5 j j1 j2
  · show x_up (x_up m.1 a p v) 83 27 (nI (p + 1)) a q = kv m0 q
    rw [x_up_ne an]
    by_cases c : q = p
    · rw [c, x_up_at]
      exact hv
    · rw [x_up_nj c]
      exact h6 q (by omega)
theorem pr_eta {m : MD} : (m.1, m.2) = m := rfl
theorem kT_iter {a h n : Nat} {m0 m : MD} (ha : 98 ≤ a ∧ a < 102) (hh : h < 7) (H : kT a m0 m (3 + 5 * h)) : ∃ m1, b_Mo_carryAll_53 (n + 1) (nI h) m = b_Mo_carryAll_53 n (nI (h + 1)) m1 ∧ kT a m0 m1 (3 + 5 * (h + 1)) := by
  have hn : (nI h).toNatClampNeg = h := n_nat (by omega)
  have hc : ¬ (7 : Int32) ≤ nI h := by
    rw [show (7 : Int32) = nI 7 from rfl, n_le (by omega) (by omega)]
    omega
  have f : ∀ (m' : MD) (p i : Nat), i < 5 → kT a m0 m' p → m'.1 (84 + i) h = kv m0 (3 + 5 * h + i) := fun m' p i hi H' => by
    rw [kv_h hi]
    exact congrFun (H'.2.2.2.1 (84 + i) (by omega) (by omega)) h
  have s : ∀ (m' m'' : MD) (p q i : Nat), i < 5 → kT a m0 m' p → kT a m0 m'' q → x_up m''.1 (84 + i) h (m'.1 (84 + i) h) = m''.1 := fun m' m'' p q i hi H' H'' =>
    x_up_same (by rw [f m'' q i hi H'', f m' p i hi H'])
  obtain ⟨m1, e1, H1⟩ := kT_step (v := m.1 84 h) ha H (by omega) (f m _ 0 (by omega) H)
  obtain ⟨m2, e2, H2⟩ := kT_step (v := m1.1 85 h) ha H1 (by omega) (f m1 _ 1 (by omega) H1)
  obtain ⟨m3, e3, H3⟩ := kT_step (v := m2.1 86 h) ha H2 (by omega) (f m2 _ 2 (by omega) H2)
  obtain ⟨m4, e4, H4⟩ := kT_step (v := m3.1 87 h) ha H3 (by omega) (f m3 _ 3 (by omega) H3)
  obtain ⟨m5, e5, H5⟩ := kT_step (v := m4.1 88 h) ha H4 (by omega) (f m4 _ 4 (by omega) H4)
  have s1 : x_up m1.1 84 h (m.1 84 h) = m1.1 := s m m1 _ _ 0 (by omega) H H1
  have s2 : x_up m2.1 85 h (m1.1 85 h) = m2.1 := s m1 m2 _ _ 1 (by omega) H1 H2
  have s3 : x_up m3.1 86 h (m2.1 86 h) = m3.1 := s m2 m3 _ _ 2 (by omega) H2 H3
  have s4 : x_up m4.1 87 h (m3.1 87 h) = m4.1 := s m3 m4 _ _ 3 (by omega) H3 H4
  have s5 : x_up m5.1 88 h (m4.1 88 h) = m5.1 := s m4 m5 _ _ 4 (by omega) H4 H5
  refine ⟨m5, ?_, H5⟩
  rw [b_Mo_carryAll_53, if_neg hc]
  simp only [gI_n hh (show 7 < 2147483648 by omega), hn, lt, e1, bd_s, s1, pr_eta, e2, s2, e3, s3, e4, s4, e5, s5]
  rw [show (1 : Int32) = nI 1 from rfl, n_add]
theorem kT_loop {a : Nat} {m0 : MD} (ha : 98 ≤ a ∧ a < 102) : ∀ (k n h : Nat) (m : MD), h + k = 7 → k < n → kT a m0 m (3 + 5 * h) → ∃ m1, b_Mo_carryAll_53 n (nI h) m = some ((), m1) ∧ kT a m0 m1 38 := by
  intro k
  induction k with
  | zero =>
    intro n h m hh hn H
    obtain ⟨n, rfl⟩ : ∃ m, n = m + 1 := ⟨n - 1, by omega⟩
    obtain rfl : h = 7 := by omega
    exact ⟨m, by rw [b_Mo_carryAll_53, if_pos (show (7 : Int32) ≤ nI 7 from by decide)], H⟩
  | succ k ih =>
    intro n h m hh hn H
    obtain ⟨n, rfl⟩ : ∃ m, n = m + 1 := ⟨n - 1, by omega⟩
    obtain ⟨m1, e1, H1⟩ := kT_iter (n := n) ha (by omega) H
    obtain ⟨m2, e2, H2⟩ := ih n (h + 1) m1 (by omega) (by omega) H1
    exact ⟨m2, e1.trans e2, H2⟩
/-- behind the start: what carrying does -/
def carK (n : Nat) (m4 : MD) : Option (Unit × MD) := (f_Mo_carry (m4.1 83 0) m4).bind fun p5 => (lt ((x_up p5.2.1 83 0 p5.1, p5.2.2)) fun (m6 : MD) => (f_Mo_carry (m6.1 83 6) m6).bind fun p7 => (lt ((x_up p7.2.1 83 6 p7.1, p7.2.2)) fun (m8 : MD) => (f_Mo_carry (m8.1 83 7) m8).bind fun p9 => (lt ((x_up p9.2.1 83 7 p9.1, p9.2.2)) fun (m10 : MD) => b_Mo_carryAll_53 n 0 m10)))
theorem lt_e {α β : Type} (a : α) (k : α → β) : lt a k = k a := of_eq_true (eq_self (k a))
theorem carK_1 {a : Nat} {m : MD} : f_Mo_carryAll a 1 m = carK fu (x_up (x_up m.1 83 28 1) 83 27 0, m.2.1, a) := by
  unfold f_Mo_carryAll carK
  rw [lt_e, gB_1, lt_e, lt_e]
theorem carK_0 {a : Nat} {m : MD} : f_Mo_carryAll a 0 m = carK fu (x_up (x_up m.1 83 28 0) 83 27 0, m.2.1, a) := by
  unfold f_Mo_carryAll carK
  rw [lt_e, gB_0, lt_e, lt_e]
theorem kT_carK {a n : Nat} {m S : MD} (ha : 98 ≤ a ∧ a < 102) (hfu : 7 < n) (H0 : kT a m S 0) : ∃ m', carK n S = some ((), m') ∧ kT a m m' 38 := by
  obtain ⟨m1, e1, H1⟩ := kT_step (v := S.1 83 0) ha H0 (by omega) (H0.2.2.2.2.1 0 (by omega) (by omega))
  obtain ⟨m2, e2, H2⟩ := kT_step (v := m1.1 83 6) ha H1 (by omega) (H1.2.2.2.2.1 6 (by omega) (by omega))
  obtain ⟨m3, e3, H3⟩ := kT_step (v := m2.1 83 7) ha H2 (by omega) (H2.2.2.2.2.1 7 (by omega) (by omega))
  obtain ⟨m', e4, H4⟩ := kT_loop ha 7 n 0 m3 (by omega) hfu H3
  have s1 : x_up m1.1 83 0 (S.1 83 0) = m1.1 := x_up_same ((H1.2.2.2.2.1 0 (by omega) (by omega)).trans (H0.2.2.2.2.1 0 (by omega) (by omega)).symm)
  have s2 : x_up m2.1 83 6 (m1.1 83 6) = m2.1 := x_up_same ((H2.2.2.2.2.1 6 (by omega) (by omega)).trans (H1.2.2.2.2.1 6 (by omega) (by omega)).symm)
  have s3 : x_up m3.1 83 7 (m2.1 83 7) = m3.1 := x_up_same ((H3.2.2.2.2.1 7 (by omega) (by omega)).trans (H2.2.2.2.2.1 7 (by omega) (by omega)).symm)
  refine ⟨m', ?_, H4⟩
  unfold carK
  simp only [lt_e, e1, bd_s, s1, pr_eta, e2, s2, e3, s3]
  exact e4
theorem mo_take {a : Nat} {m : MD} (ha : 98 ≤ a ∧ a < 102) : ∃ m', f_Mo_carryAll a 1 m = some ((), m') ∧ kT a m m' 38 := by
  rw [carK_1]
  refine kT_carK ha (by decide) ⟨rfl, ?_, ?_, fun k _ h => ?_, fun j h1 h2 => ?_, fun q hq => absurd hq (Nat.not_lt_zero _)⟩
  · show x_up (x_up m.1 83 28 1) 83 27 0 83 28 = 1
    rw [x_up_nj (by decide), x_up_at]
  · show x_up (x_up m.1 83 28 1) 83 27 0 83 27 = nI 0
    exact x_up_at
  · show x_up (x_up m.1 83 28 1) 83 27 0 k = _
    rw [x_up_ne h, x_up_ne h]
  · show x_up (x_up m.1 83 28 1) 83 27 0 83 j = _
    rw [x_up_nj h1, x_up_nj h2]
/-- all is carried to an array -/
theorem mo_save_n {a : Nat} {m : MD} {A : Ld} (ha : 98 ≤ a ∧ a < 102) (hL : LnM m A) (h7 : ln A ≤ 7) : ∃ m', f_Mo_carryAll a 1 m = some ((), m') ∧ LnM m' A ∧ LkM m' a A ∧ frK a m m' := by
  obtain ⟨m', e, H1, H2, H3, H4, H5, H6⟩ := mo_take (m := m) ha
  obtain ⟨l1, l2, l3, l4⟩ := hL
  have c : ∀ i h, i < 5 → m'.1 (84 + i) h = m.1 (84 + i) h := fun i h hi => congrFun (H4 (84 + i) (by omega) (by omega)) h
  have d : ∀ i h, i < 5 → h < 7 → m'.1 a (3 + 5 * h + i) = m.1 (84 + i) h := fun i h hi hh => by
    rw [H6 _ (by omega), kv_h hi]
  refine ⟨m', e, ⟨(H5 0 (by omega) (by omega)).trans l1, (H5 6 (by omega) (by omega)).trans l2, (H5 7 (by omega) (by omega)).trans l3, fun h hh => ?_⟩, ⟨(H6 0 (by omega)).trans l1, (H6 1 (by omega)).trans l2, (H6 2 (by omega)).trans l3, fun h hh => ?_⟩, by rw [H1], fun k hk hne => H4 k hne (by omega), fun j _ _ _ j1 j2 => H5 j j1 j2⟩
  · obtain ⟨s0, s1, s2, s3, s4⟩ := l4 h hh
    exact ⟨(c 0 h (by omega)).trans s0, (c 1 h (by omega)).trans s1, (c 2 h (by omega)).trans s2, (c 3 h (by omega)).trans s3, (c 4 h (by omega)).trans s4⟩
  · obtain ⟨s0, s1, s2, s3, s4⟩ := l4 h hh
    rw [show 4 + 5 * h = 3 + 5 * h + 1 by omega, show 5 + 5 * h = 3 + 5 * h + 2 by omega, show 6 + 5 * h = 3 + 5 * h + 3 by omega, show 7 + 5 * h = 3 + 5 * h + 4 by omega]
    exact ⟨(d 0 h (by omega) (by omega)).trans s0, (d 1 h (by omega) (by omega)).trans s1, (d 2 h (by omega) (by omega)).trans s2, (d 3 h (by omega) (by omega)).trans s3, (d 4 h (by omega) (by omega)).trans s4⟩
/-- under way, giving back -/
def kG (a : Nat) (m0 m : MD) (p : Nat) : Prop := m.2 = (m0.2.1, a) ∧ m.1 83 28 = 0 ∧ m.1 83 27 = nI p ∧ (∀ k, k < 83 ∨ 88 < k → m.1 k = m0.1 k) ∧ (∀ j, j ≠ 0 → j ≠ 6 → j ≠ 7 → j ≠ 27 → j ≠ 28 → m.1 83 j = m0.1 83 j) ∧ ∀ q, q < p → kv m q = m0.1 a q
theorem kG_step {a p k j : Nat} {m0 m : MD} (ha : 98 ≤ a ∧ a < 102) (h : kG a m0 m p) (hp : p < 38) (hl : locK p = (k, j)) : ∃ m1, (∀ v, f_Mo_carry v m = some (m0.1 a p, m1)) ∧ kG a m0 (x_up m1.1 k j (m0.1 a p), m1.2) (p + 1) := by
  obtain ⟨h1, h2, h3, h4, h5, h6⟩ := h
  have ea : m.1 a = m0.1 a := h4 a (by omega)
  have b1 := locK_b p hp
  have b2 := locK_83 p hp
  have b3 := locK_28 p hp
  have b4 := locK_72 p hp
  rw [hl] at b1 b2 b3 b4
  dsimp only at b1 b2 b3 b4
  refine ⟨(x_up m.1 83 27 (nI (p + 1)), m.2), fun v => by rw [mo_carry_0 ha (by rw [h1]) h3 h2 hp, ea], h1, ?_, ?_, fun i hi => ?_, fun i i1 i2 i3 i4 i5 => ?_, fun q hq => ?_⟩
  · show x_up (x_up m.1 83 27 (nI (p + 1))) k j (m0.1 a p) 83 28 = 0
    rw [x_up_el b3, x_up_nj (by decide)]
    exact h2
  · show x_up (x_up m.1 83 27 (nI (p + 1))) k j (m0.1 a p) 83 27 = nI (p + 1)
    rw [x_up_el b4, x_up_at]
  · show x_up (x_up m.1 83 27 (nI (p + 1))) k j (m0.1 a p) i = m0.1 i
    rw [x_up_ne (by omega), x_up_ne (by omega)]
    exact h4 i hi
  · show x_up (x_up m.1 83 27 (nI (p + 1))) k j (m0.1 a p) 83 i = m0.1 83 i
    rw [x_up_el (by omega), x_up_nj i4]
    exact h5 i i1 i2 i3 i4 i5
  · show x_up (x_up m.1 83 27 (nI (p + 1))) k j (m0.1 a p) (locK q).1 (locK q).2 = m0.1 a q
    by_cases c : q = p
    · rw [c, hl]
      exact x_up_at
    · have n1 := locK_inj p hp q (by omega)
      rw [hl] at n1
      have n2 := locK_27 q (by omega)
      rw [x_up_el n1, x_up_el n2]
      exact h6 q (by omega)
theorem kG_iter {a h n : Nat} {m0 m : MD} (ha : 98 ≤ a ∧ a < 102) (hh : h < 7) (H : kG a m0 m (3 + 5 * h)) : ∃ m1, b_Mo_carryAll_53 (n + 1) (nI h) m = b_Mo_carryAll_53 n (nI (h + 1)) m1 ∧ kG a m0 m1 (3 + 5 * (h + 1)) := by
  have hn : (nI h).toNatClampNeg = h := n_nat (by omega)
  have hc : ¬ (7 : Int32) ≤ nI h := by
    rw [show (7 : Int32) = nI 7 from rfl, n_le (by omega) (by omega)]
    omega
  obtain ⟨m1, e1, H1⟩ := kG_step (k := 84) (j := h) ha H (by omega) (locK_h (i := 0) (by omega))
  obtain ⟨m2, e2, H2⟩ := kG_step (k := 85) (j := h) ha H1 (by omega) (locK_h (i := 1) (by omega))
  obtain ⟨m3, e3, H3⟩ := kG_step (k := 86) (j := h) ha H2 (by omega) (locK_h (i := 2) (by omega))
  obtain ⟨m4, e4, H4⟩ := kG_step (k := 87) (j := h) ha H3 (by omega) (locK_h (i := 3) (by omega))
  obtain ⟨m5, e5, H5⟩ := kG_step (k := 88) (j := h) ha H4 (by omega) (locK_h (i := 4) (by omega))
  refine ⟨_, ?_, H5⟩
  rw [b_Mo_carryAll_53, if_neg hc]
  simp only [gI_n hh (show 7 < 2147483648 by omega), hn, lt, e1, bd_s, e2, e3, e4, e5]
  rw [show (1 : Int32) = nI 1 from rfl, n_add]
theorem kG_loop {a : Nat} {m0 : MD} (ha : 98 ≤ a ∧ a < 102) : ∀ (k n h : Nat) (m : MD), h + k = 7 → k < n → kG a m0 m (3 + 5 * h) → ∃ m1, b_Mo_carryAll_53 n (nI h) m = some ((), m1) ∧ kG a m0 m1 38 := by
  intro k
  induction k with
  | zero =>
    intro n h m hh hn H
    obtain ⟨n, rfl⟩ : ∃ m, n = m + 1 := ⟨n - 1, by omega⟩
    obtain rfl : h = 7 := by omega
    exact ⟨m, by rw [b_Mo_carryAll_53, if_pos (show (7 : Int32) ≤ nI 7 from by decide)], H⟩
  | succ k ih =>
    intro n h m hh hn H
    obtain ⟨n, rfl⟩ : ∃ m, n = m + 1 := ⟨n - 1, by omega⟩
    obtain ⟨m1, e1, H1⟩ := kG_iter (n := n) ha (by omega) H
    obtain ⟨m2, e2, H2⟩ := ih n (h + 1) m1 (by omega) (by omega) H1
    exact ⟨m2, e1.trans e2, H2⟩
theorem kG_carK {a n : Nat} {m S : MD} (ha : 98 ≤ a ∧ a < 102) (hfu : 7 < n) (H0 : kG a m S 0) : ∃ m', carK n S = some ((), m') ∧ kG a m m' 38 := by
  obtain ⟨m1, e1, H1⟩ := kG_step (k := 83) (j := 0) ha H0 (by omega) rfl
  obtain ⟨m2, e2, H2⟩ := kG_step (k := 83) (j := 6) ha H1 (by omega) rfl
  obtain ⟨m3, e3, H3⟩ := kG_step (k := 83) (j := 7) ha H2 (by omega) rfl
  obtain ⟨m', e4, H4⟩ := kG_loop ha 7 n 0 _ (by omega) hfu H3
  refine ⟨m', ?_, H4⟩
  unfold carK
  rw [e1, bd_s]
  rw [lt_e, e2, bd_s, lt_e, e3, bd_s, lt_e]
  exact e4
theorem mo_give {a : Nat} {m : MD} (ha : 98 ≤ a ∧ a < 102) : ∃ m', f_Mo_carryAll a 0 m = some ((), m') ∧ kG a m m' 38 := by
  rw [carK_0]
  refine kG_carK ha (by decide) ⟨rfl, ?_, ?_, fun k h => ?_, fun j _ _ _ h1 h2 => ?_, fun q hq => absurd hq (Nat.not_lt_zero _)⟩
  · show x_up (x_up m.1 83 28 0) 83 27 0 83 28 = 0
    rw [x_up_nj (by decide), x_up_at]
  · show x_up (x_up m.1 83 28 0) 83 27 0 83 27 = nI 0
    exact x_up_at
  · show x_up (x_up m.1 83 28 0) 83 27 0 k = _
    rw [x_up_ne (by omega), x_up_ne (by omega)]
  · show x_up (x_up m.1 83 28 0) 83 27 0 83 j = _
    rw [x_up_nj h1, x_up_nj h2]
/-- all is carried back from an array -/
theorem mo_back_n {a : Nat} {m : MD} {B : Ld} (ha : 98 ≤ a ∧ a < 102) (hK : LkM m a B) (h7 : ln B ≤ 7) : ∃ m', f_Mo_carryAll a 0 m = some ((), m') ∧ LnM m' B ∧ frB m m' := by
  obtain ⟨m', e, H1, H2, H3, H4, H5, H6⟩ := mo_give (m := m) ha
  obtain ⟨l1, l2, l3, l4⟩ := hK
  have d : ∀ i h, i < 5 → h < 7 → m'.1 (84 + i) h = m.1 a (3 + 5 * h + i) := fun i h hi hh => by
    rw [← H6 _ (by omega), kv_h hi]
  refine ⟨m', e, ⟨(H6 0 (by omega)).trans l1, (H6 1 (by omega)).trans l2, (H6 2 (by omega)).trans l3, fun h hh => ?_⟩, by rw [H1], H4, H5⟩
  have q := l4 h hh
  rw [show 4 + 5 * h = 3 + 5 * h + 1 by omega, show 5 + 5 * h = 3 + 5 * h + 2 by omega, show 6 + 5 * h = 3 + 5 * h + 3 by omega, show 7 + 5 * h = 3 + 5 * h + 4 by omega] at q
  obtain ⟨s0, s1, s2, s3, s4⟩ := q
  exact ⟨(d 0 h (by omega) (by omega)).trans s0, (d 1 h (by omega) (by omega)).trans s1, (d 2 h (by omega) (by omega)).trans s2, (d 3 h (by omega) (by omega)).trans s3, (d 4 h (by omega) (by omega)).trans s4⟩
/-- the land is kept aside -/
theorem mo_open_n {m : MD} {A : Ld} (hL : LnM m A) (h7 : ln A ≤ 7) : ∃ m', f_Mo_open m = some ((), m') ∧ LnM m' A ∧ LkM m' 98 A ∧ frK 98 m m' := by
  obtain ⟨m', e, h1, h2, h3⟩ := mo_save_n (a := 98) (by omega) hL h7
  exact ⟨m', by unfold f_Mo_open; rw [e, bd_s], h1, h2, h3⟩
/-- and is there again -/
theorem mo_close_n {m : MD} {A : Ld} (hK : LkM m 98 A) (h7 : ln A ≤ 7) : ∃ m', f_Mo_close m = some ((), m') ∧ LnM m' A ∧ LkM m' 98 A ∧ frB m m' := by
  obtain ⟨m', e, h1, h2⟩ := mo_back_n (a := 98) (by omega) hK h7
  exact ⟨m', by unfold f_Mo_close; rw [e, bd_s], h1, LkM_B (by omega) hK h2, h2⟩

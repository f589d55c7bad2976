/-! How many bits there are. -/
theorem n_and (a b : Nat) : nI a &&& nI b = nI (a &&& b) := Int32.toBitVec_inj.mp (show BitVec.ofNat 32 a &&& BitVec.ofNat 32 b = BitVec.ofNat 32 (a &&& b) from BitVec.ofNat_and.symm)
theorem n_or (a b : Nat) : nI a ||| nI b = nI (a ||| b) := Int32.toBitVec_inj.mp (show BitVec.ofNat 32 a ||| BitVec.ofNat 32 b = BitVec.ofNat 32 (a ||| b) from BitVec.ofNat_or.symm)
theorem n_shr {b s : Nat} {u : UInt32} (hb : b < 2147483648) (hu : (u.toBitVec % 32#32).toNat = s) : ((Int32.toUInt32 (nI b)) >>> u).toInt32 = nI (b / 2 ^ s) := by
  apply Int32.toBitVec_inj.mp
  apply BitVec.eq_of_toNat_eq
  show (BitVec.ofNat 32 b >>> (u.toBitVec % 32#32)).toNat = (BitVec.ofNat 32 (b / 2 ^ s)).toNat
  rw [BitVec.ushiftRight_eq', BitVec.toNat_ushiftRight, hu, BitVec.toNat_ofNat, BitVec.toNat_ofNat, Nat.shiftRight_eq_div_pow, Nat.mod_eq_of_lt (show b < 2 ^ 32 by omega), Nat.mod_eq_of_lt]
  have := Nat.div_le_self b (2 ^ s)
  omega
theorem and_split {x y m n : Nat} (hx : x < 256) (hm : m < 256) : (256 * y + x) &&& (256 * n + m) = 256 * (y &&& n) + (x &&& m) := by
  have h1 : x < 2 ^ 8 := hx
  have h2 : m < 2 ^ 8 := hm
  have h3 : x &&& m < 2 ^ 8 := Nat.lt_of_le_of_lt Nat.and_le_left h1
  apply Nat.eq_of_testBit_eq
  intro i
  rw [show (256 : Nat) = 2 ^ 8 from rfl, Nat.testBit_and, Nat.testBit_two_pow_mul_add _ h1, Nat.testBit_two_pow_mul_add _ h2, Nat.testBit_two_pow_mul_add _ h3]
  split
  · rw [Nat.testBit_and]
  · rw [Nat.testBit_and]
def q1 (b m : Nat) : Nat := b - (b / 2 &&& m)
def q2 (b m : Nat) : Nat := (b &&& m) + (b / 4 &&& m)
def q3 (b m : Nat) : Nat := (b + b / 16) &&& m
def pcA (x : Nat) : Nat := q3 (q2 (q1 x 85) 51) 15
theorem pd_1 : ∀ t, t < 2 → ∀ x, x < 256 → (128 * t + x / 2) &&& 85 = x / 2 &&& 85 := by decide +kernel
theorem pd_2 : ∀ t, t < 4 → ∀ x, x < 256 → (64 * t + x / 4) &&& 51 = x / 4 &&& 51 := by decide +kernel
theorem pd_3 : ∀ t, t < 5 → ∀ x, x < 69 → (x + x / 16 + 16 * t) &&& 15 = (x + x / 16) &&& 15 := by decide +kernel
theorem pd_4 : ∀ x, x < 256 → q1 x 85 < 256 ∧ q2 (q1 x 85) 51 < 69 ∧ q2 (q1 x 85) 51 % 16 < 5 ∧ pcA x < 9 := by decide +kernel
theorem pd_5 : ∀ x, x < 256 → q1 x 21845 = q1 x 85 ∧ q2 (q1 x 85) 13107 = q2 (q1 x 85) 51 ∧ q3 (q2 (q1 x 85) 51) 3855 = pcA x := by decide +kernel
theorem pd_6 : ∀ j, j < 8 → ∀ b, b < 2 ^ j → pcA (b + 2 ^ j) = pcA b + 1 ∧ b + 2 ^ j < 256 := by decide +kernel
theorem pq_1 {y x n : Nat} (hx : x < 256) : q1 (256 * y + x) (256 * n + 85) = 256 * q1 y n + q1 x 85 := by
  unfold q1
  rw [show (256 * y + x) / 2 = 256 * (y / 2) + (128 * (y % 2) + x / 2) by omega, and_split (by omega) (by omega), pd_1 (y % 2) (by omega) x hx]
  have h1 : y / 2 &&& n ≤ y / 2 := Nat.and_le_left
  have h2 : x / 2 &&& 85 ≤ x / 2 := Nat.and_le_left
  omega
theorem pq_2 {y x n : Nat} (hx : x < 256) : q2 (256 * y + x) (256 * n + 51) = 256 * q2 y n + q2 x 51 := by
  unfold q2
  rw [show (256 * y + x) / 4 = 256 * (y / 4) + (64 * (y % 4) + x / 4) by omega, and_split hx (by omega), and_split (by omega) (by omega), pd_2 (y % 4) (by omega) x hx]
  omega
theorem pq_3 {y x n : Nat} (hx : x < 69) (hy : y % 16 < 5) : q3 (256 * y + x) (256 * n + 15) = 256 * q3 y n + q3 x 15 := by
  unfold q3
  rw [show 256 * y + x + (256 * y + x) / 16 = 256 * (y + y / 16) + (x + x / 16 + 16 * (y % 16)) by omega, and_split (by omega) (by omega), pd_3 (y % 16) hy x hx]
/-- three bytes -/
theorem pc_3 {x0 x1 x2 : Nat} (h0 : x0 < 256) (h1 : x1 < 256) (h2 : x2 < 256) : q3 (q2 (q1 (256 * (256 * x2 + x1) + x0) 1431655765) 858993459) 252645135 = 256 * (256 * pcA x2 + pcA x1) + pcA x0 := by
  have d0 := pd_4 x0 h0
  have d1 := pd_4 x1 h1
  have d2 := pd_4 x2 h2
  have e2 := pd_5 x2 h2
  rw [show 1431655765 = 256 * (256 * 21845 + 85) + 85 from rfl, pq_1 h0, pq_1 h1, e2.1, show 858993459 = 256 * (256 * 13107 + 51) + 51 from rfl, pq_2 d0.1, pq_2 d1.1, e2.2.1, show 252645135 = 256 * (256 * 3855 + 15) + 15 from rfl, pq_3 d0.2.1 (by omega), pq_3 d1.2.1 d2.2.2.1, e2.2.2]
  rfl
def pcB (b : Nat) : Nat := pcA (b % 256) + pcA (b / 256 % 256) + pcA (b / 65536)
theorem bits_n {b : Nat} {x : XD} (hb : b < 2097152) : f_In_bitCount (nI b) x = some (nI (pcB b), x) := by
  have d0 := (pd_4 (b % 256) (by omega)).2.2.2
  have d1 := (pd_4 (b / 256 % 256) (by omega)).2.2.2
  have d2 := (pd_4 (b / 65536) (by omega)).2.2.2
  have e3 := pc_3 (x0 := b % 256) (x1 := b / 256 % 256) (x2 := b / 65536) (by omega) (by omega) (by omega)
  rw [show 256 * (256 * (b / 65536) + b / 256 % 256) + b % 256 = b by omega] at e3
  have a1 : b / 2 &&& 1431655765 ≤ b / 2 := Nat.and_le_left
  have a1' : b / 2 ^ 1 &&& 1431655765 ≤ b := Nat.le_trans Nat.and_le_left (Nat.div_le_self _ _)
  have l1 : q1 b 1431655765 ≤ b := Nat.sub_le _ _
  have l2 : q2 (q1 b 1431655765) 858993459 ≤ 2 * b := by
    have h1 : q1 b 1431655765 &&& 858993459 ≤ q1 b 1431655765 := Nat.and_le_left
    have h2 : q1 b 1431655765 / 4 &&& 858993459 ≤ q1 b 1431655765 / 4 := Nat.and_le_left
    show _ + _ ≤ _
    omega
  unfold f_In_bitCount
  rw [lt_e, n_shr (s := 1) (by omega) (by decide), show (1431655765 : Int32) = nI 1431655765 from rfl, n_and, n_sub a1']
  rw [show b - (b / 2 ^ 1 &&& 1431655765) = q1 b 1431655765 from rfl]
  rw [lt_e, n_shr (s := 2) (by omega) (by decide), show (858993459 : Int32) = nI 858993459 from rfl, n_and, n_and, n_add]
  rw [show (q1 b 1431655765 &&& 858993459) + (q1 b 1431655765 / 2 ^ 2 &&& 858993459) = q2 (q1 b 1431655765) 858993459 from rfl]
  rw [lt_e, n_shr (s := 4) (by omega) (by decide), n_add, show (252645135 : Int32) = nI 252645135 from rfl, n_and]
  rw [show (q2 (q1 b 1431655765) 858993459 + q2 (q1 b 1431655765) 858993459 / 2 ^ 4) &&& 252645135 = q3 (q2 (q1 b 1431655765) 858993459) 252645135 from rfl, e3]
  rw [lt_e, n_shr (s := 8) (by omega) (by decide), n_add, lt_e, n_shr (s := 16) (by omega) (by decide), n_add, show (63 : Int32) = nI 63 from rfl, n_and]
  rw [show (63 : Nat) = 2 ^ 6 - 1 from rfl, Nat.and_two_pow_sub_one_eq_mod]
  unfold pcB
  refine congrArg (fun z => some (nI z, x)) ?_
  generalize pcA (b % 256) = p0 at *
  generalize pcA (b / 256 % 256) = p1 at *
  generalize pcA (b / 65536) = p2 at *
  clear e3 a1 a1' l1 l2
  rw [show (256 * (256 * p2 + p1) + p0) / 2 ^ 8 = 256 * p2 + p1 by omega]
  rw [show (256 * (256 * p2 + p1) + p0 + (256 * p2 + p1)) / 2 ^ 16 = p2 by omega]
  omega
theorem pd_0 : pcA 0 = 0 := by decide +kernel
theorem two_8 : ∀ j, j < 8 → 0 < 2 ^ j ∧ 2 ^ j ≤ 128 := by decide +kernel
theorem bits_step {b j : Nat} (hj : j < 21) (hb : b < 2 ^ j) : pcB (b + 2 ^ j) = pcB b + 1 ∧ b + 2 ^ j < 2097152 := by
  unfold pcB
  rcases Nat.lt_or_ge j 8 with c | c
  · have h1 := pd_6 j c b hb
    have h2 := two_8 j c
    rw [show (b + 2 ^ j) % 256 = b + 2 ^ j by omega, show (b + 2 ^ j) / 256 % 256 = 0 by omega, show (b + 2 ^ j) / 65536 = 0 by omega, show b % 256 = b by omega, show b / 256 % 256 = 0 by omega, show b / 65536 = 0 by omega, h1.1, pd_0]
    omega
  · rcases Nat.lt_or_ge j 16 with c2 | c2
    · obtain ⟨r, rfl⟩ : ∃ r, j = 8 + r := ⟨j - 8, by omega⟩
      have h2 := two_8 r (by omega)
      rw [Nat.pow_add, show (2 : Nat) ^ 8 = 256 from rfl] at hb ⊢
      have h1 := pd_6 r (by omega) (b / 256) (by omega)
      generalize 2 ^ r = t at *
      rw [show (b + 256 * t) % 256 = b % 256 by omega, show (b + 256 * t) / 256 % 256 = b / 256 + t by omega, show (b + 256 * t) / 65536 = 0 by omega, show b / 256 % 256 = b / 256 by omega, show b / 65536 = 0 by omega, h1.1]
      omega
    · obtain ⟨r, rfl⟩ : ∃ r, j = 16 + r := ⟨j - 16, by omega⟩
      have h2 := two_8 r (by omega)
      have h5 : 2 ^ r ≤ 16 := Nat.pow_le_pow_right (n := 2) (by omega) (show r ≤ 4 by omega)
      rw [Nat.pow_add, show (2 : Nat) ^ 16 = 65536 from rfl] at hb ⊢
      have h1 := pd_6 r (by omega) (b / 65536) (by omega)
      generalize 2 ^ r = t at *
      rw [show (b + 65536 * t) % 256 = b % 256 by omega, show (b + 65536 * t) / 256 % 256 = b / 256 % 256 by omega, show (b + 65536 * t) / 65536 = b / 65536 + t by omega, h1.1]
      omega
theorem bit_n : ∀ j, j < 21 → (1 : Int32) <<< (nI j &&& 31) = nI (2 ^ j) := by decide +kernel
theorem or_n {b j : Nat} (hb : b < 2 ^ j) : nI b ||| nI (2 ^ j) = nI (b + 2 ^ j) := by
  rw [n_or]
  refine congrArg nI ?_
  have h := Nat.two_pow_add_eq_or_of_lt hb 1
  rw [Nat.mul_one] at h
  rw [Nat.or_comm, ← h, Nat.add_comm]

/-! Ranges on both sides. -/
def rng (a b v : Int32) : Int32 := if v < a then 0 else if b < v then 0 else 1
theorem rng_01 {a b v : Int32} : rng a b v = 0 ∨ rng a b v = 1 := by
  unfold rng
  split
  · exact Or.inl rfl
  · split
    · exact Or.inl rfl
    · exact Or.inr rfl
theorem gB_rng {α : Type} {a b v : Int32} {o : Option α} : gB (rng a b v) o = o := by
  rcases rng_01 (a := a) (b := b) (v := v) with h | h <;> rw [h]
  · exact gB_0
  · exact gB_1
theorem hb_within {a b v : Int32} {x : XD} : f_Hb_isWithin v a b x = some (rng a b v, x) := by
  unfold f_Hb_isWithin rng
  split
  · rfl
  · split <;> rfl
theorem hb_isYard {v : Int32} {x : XD} : f_Hb_isYard v x = some (rng 0 20 v, x) := by
  unfold f_Hb_isYard
  rw [hb_within, bd_s]
  exact gB_rng
theorem hb_isHorse {v : Int32} {x : XD} : f_Hb_isHorse v x = some (rng 0 (x 10 2 - 1) v, x) := by
  unfold f_Hb_isHorse
  rw [hb_within, bd_s]
  exact gB_rng
theorem rng_nat {v : Int32} {b : Nat} (hb : b < 1000000) (h : rng 0 (nI b) v = 1) : ∃ n, n ≤ b ∧ v = nI n := by
  unfold rng at h
  split at h
  · exact absurd h (by decide)
  · split at h
    · exact absurd h (by decide)
    · rename_i h1 h2
      have h3 : (0 : Int) ≤ v.toInt := Int.not_lt.mp (fun e => h1 (Int32.lt_iff_toInt_lt.mpr e))
      have h4 : v.toInt ≤ b := Int.not_lt.mp (fun e => h2 (Int32.lt_iff_toInt_lt.mpr (by rw [n_int (by omega)]; exact e)))
      refine ⟨v.toInt.toNat, by omega, Int32.toInt_inj.mp ?_⟩
      rw [n_int (by omega)]
      omega
theorem lgc_lt {v a : Int32} : (lg_cmp v.toInt64 a.toInt64 < 0) = (v < a) := by
  apply propext
  unfold lg_cmp
  simp only [gt_iff_lt, Int64.lt_iff_toInt_lt, Int32.lt_iff_toInt_lt, ← Int64.toInt_inj, Int32.toInt_toInt64]
  repeat' split
  all_goals (constructor <;> intro hh <;> first | omega | decide | exact absurd hh (by decide))
theorem lgc_gt {v a : Int32} : (0 < lg_cmp v.toInt64 a.toInt64) = (a < v) := by
  apply propext
  unfold lg_cmp
  simp only [gt_iff_lt, Int64.lt_iff_toInt_lt, Int32.lt_iff_toInt_lt, ← Int64.toInt_inj, Int32.toInt_toInt64]
  repeat' split
  all_goals (constructor <;> intro hh <;> first | omega | decide | exact absurd hh (by decide))
theorem mo_in_r {a b v : Int32} {m : MD} : f_Mo_in v.toInt64 a.toInt64 b.toInt64 m = some (rng a b v, m) := by
  unfold f_Mo_in rng
  simp only [lgc_lt, lgc_gt]
  split
  · rfl
  · split <;> rfl
theorem mo_isYard_r {v : Int32} {m : MD} : f_Mo_isYard v m = some (rng 0 20 v, m) := by
  unfold f_Mo_isYard
  rw [show (0 : Int64) = (0 : Int32).toInt64 from by decide, show (20 : Int64) = (20 : Int32).toInt64 from by decide, mo_in_r, bd_s]
  exact gB_rng
theorem mo_isHorse_r {v : Int32} {m : MD} : f_Mo_isHorse v m = some (rng 0 (m.1 83 0 - 1) v, m) := by
  unfold f_Mo_isHorse
  rw [show (0 : Int64) = (0 : Int32).toInt64 from by decide, mo_in_r, bd_s]
  exact gB_rng

/-! Rides in mind: both sides. -/
theorem rideN_le {y o : Nat} {s : Hs} (hV : VH s) (hy : y ≤ 20) : (rideN y o s).1 ≤ 20 := by
  have h1 := dst_le hV.2.2.2.1 hy
  have h2 := (rideF_end (yard := y) (oats := o) 21 (s := s) (by omega)).2
  exact Nat.le_trans h2 h1
theorem rideA_N {y h : Nat} {A : Ld} : (rideA y h A).1 = (rideN y (lo A) (ls A h)).1 := (rideL_F 21 A).1
theorem rideA_V {y h : Nat} {A : Ld} (hy : y ≤ 20) (hV : VA A) (hl : h < ln A) : VA (rideA y h A).2 := (rideL_V hy 21 hV hl).1
theorem rideL_day {y h : Nat} : ∀ (k : Nat) (A : Ld), ldy (rideL y h k A).2 = ldy A + nI (rideL y h k A).1
  | 0, A => (Int32.add_zero _).symm
  | k + 1, A => by
    unfold rideL
    split
    · exact (Int32.add_zero _).symm
    · dsimp only
      rw [rideL_day k]
      show ldy A + nI 1 + _ = _
      rw [Int32.add_assoc, n_add, Nat.add_comm 1]
abbrev ownN (y : Nat) (A : Ld) (h : Nat) : Nat := (rideN y (lo A) (ls A h)).1
abbrev latN (y w : Nat) (A : Ld) (h : Nat) : Nat := w + (rideN y (lo A) (stayN (lo A) w (ls A h))).1
section OW
variable {A : Ld} {h y w : Nat}
theorem hb_dor {x : XD} (hX : LnX x 10 A) (hV : VA A) (hl : h < ln A) (hy : y ≤ 20) : ∃ x', f_Hb_daysOfRide (22 + h) (nI y) x = some (nI (ownN y A h), x') ∧ frX x x' := by
  have h7 : h < 7 := Nat.lt_of_lt_of_le hl hV.1
  obtain ⟨x1, e1, s1, f1⟩ := st_become_n (o := 64) (o1 := 22 + h) (x := x) (by omega) (LnX_s hX hl)
  have o1 : x1 10 3 = nI (lo A) := by rw [f1 10 (by decide)]; exact hX.2.1
  obtain ⟨x2, e2, s2, f2⟩ := st_ride_n s1 (hV.2.2 h hl) hV.2.1 hy
  refine ⟨x2, ?_, (f1.tr f2).X (by omega)⟩
  unfold f_Hb_daysOfRide
  rw [e1, bd_s]
  dsimp only
  rw [o1, e2, bd_s]
theorem hb_dlr {x : XD} (hX : LnX x 10 A) (hV : VA A) (hl : h < ln A) (hy : y ≤ 20) (hw : w < 900) : ∃ x', f_Hb_daysOfLaterRide (22 + h) (nI w) (nI y) x = some (nI (latN y w A h), x') ∧ frX x x' := by
  have h7 : h < 7 := Nat.lt_of_lt_of_le hl hV.1
  obtain ⟨x1, e1, s1, f1⟩ := st_become_n (o := 64) (o1 := 22 + h) (x := x) (by omega) (LnX_s hX hl)
  have o1 : x1 10 3 = nI (lo A) := by rw [f1 10 (by decide)]; exact hX.2.1
  obtain ⟨x2, e2, s2, f2⟩ := st_stay_n (m := w) s1 (hV.2.2 h hl) hV.2.1 hw
  have o2 : x2 10 3 = nI (lo A) := by rw [f2 10 (by decide)]; exact o1
  obtain ⟨x3, e3, s3, f3⟩ := st_ride_n s2 (stay_V w (hV.2.2 h hl)) hV.2.1 hy
  refine ⟨x3, ?_, ((f1.tr f2).tr f3).X (by omega)⟩
  unfold f_Hb_daysOfLaterRide
  rw [e1, bd_s]
  dsimp only
  rw [o1, e2, bd_s]
  dsimp only
  rw [o2, e3, bd_s, n_add]
theorem mo_own {m : MD} (hM : LnM m A) (hV : VA A) (hl : h < ln A) (hy : y ≤ 20) : ∃ m', f_Mo_ownRide (nI h) (nI y) m = some (nI (ownN y A h), m') ∧ LnM m' A ∧ frK 98 m m' := by
  obtain ⟨m1, e1, a1, k1, f1⟩ := mo_open_n hM hV.1
  obtain ⟨m2, e2, a2, f2⟩ := mo_ride_n a1 hV hl hy
  obtain ⟨m3, e3, a3, k3, f3⟩ := mo_close_n (LkM_B (by omega) k1 f2.B) hV.1
  refine ⟨m3, ?_, a3, (f1.tr f2.B.K).tr f3.K⟩
  unfold f_Mo_ownRide
  rw [e1, bd_s]
  dsimp only
  rw [e2, bd_s]
  dsimp only
  rw [e3, bd_s, rideA_N]
theorem mo_later {m : MD} (hM : LnM m A) (hK : LkM m 98 A) (hV : VA A) (hl : h < ln A) (hy : y ≤ 20) (hw : w < 900) : ∃ m1 m2 m3, f_Mo_goDays (nI w) m = some ((), m1) ∧ f_Mo_ride (nI h) (nI y) m1 = some (nI (rideN y (lo A) (stayN (lo A) w (ls A h))).1, m2) ∧ f_Mo_close m2 = some ((), m3) ∧ LnM m3 A ∧ LkM m3 98 A ∧ frB m m3 := by
  obtain ⟨m1, e1, a1, f1⟩ := mo_goDays_n (c := w) hw hM hV
  obtain ⟨m2, e2, a2, f2⟩ := mo_ride_n a1 (pass_V (m := w) hV) hl hy
  obtain ⟨m3, e3, a3, k3, f3⟩ := mo_close_n (LkM_B (by omega) hK (f1.B.tr f2.B)) hV.1
  exact ⟨m1, m2, m3, e1, by rw [e2, rideA_N]; rfl, e3, a3, k3, (f1.B.tr f2.B).tr f3⟩
theorem mo_waited {m : MD} (hM : LnM m A) (hV : VA A) (hl : h < ln A) (hy : y ≤ 20) (hw : w < 100) : ∃ m', f_Mo_waitedRide (nI h) (nI y) (nI w) m = some (nI (latN y (5 * w) A h), m') ∧ LnM m' A ∧ frK 98 m m' := by
  obtain ⟨m1, e1, a1, k1, f1⟩ := mo_open_n hM hV.1
  obtain ⟨m2, m3, m4, e2, e3, e4, a4, k4, f4⟩ := mo_later (w := 5 * w) a1 k1 hV hl hy (by omega)
  refine ⟨m4, ?_, a4, f1.tr f4.K⟩
  unfold f_Mo_waitedRide
  rw [e1, bd_s]
  dsimp only
  rw [show (5 : Int32) * nI w = nI (5 * w) from n_mul 5 w, e2, bd_s]
  dsimp only
  rw [e3, bd_s]
  dsimp only
  rw [e4, bd_s, n_add]
end OW
theorem op_howLong (a1 a2 : Int32) : St2 IV (f_Hb_howLong a1 a2) (f_Mo_howLong a1 a2) := by
  intro x m ⟨A, hV, hX, hM, hr⟩
  show R2 _ _
  unfold f_Hb_howLong f_Mo_howLong
  refine R2_14 hM hr fun m hM hr => ?_
  have hI : IV x m := ⟨A, hV, hX, hM, hr⟩
  refine g_horse hV hX hM (fail2 hI) fun h hl e => pass2 ?_
  refine g_yard (fail2 hI) fun y hy e2 => pass2 ?_
  subst e e2
  have h7 : h < 7 := Nat.lt_of_lt_of_le hl hV.1
  obtain ⟨x', e1, f1⟩ := hb_dor hX hV hl hy
  obtain ⟨m', e2, a2, f2⟩ := mo_own hM hV hl hy
  dsimp only
  exact R2_in hV hr hX (by rw [gI_n h7 (by omega), sid10 h7, e1, bd_s]) f1 (by rw [e2, bd_s]) a2 (f2.S (by omega) (by omega))
theorem op_rides (a1 a2 : Int32) : St2 IV (f_Hb_rides a1 a2) (f_Mo_rides a1 a2) := by
  intro x m ⟨A, hV, hX, hM, hr⟩
  show R2 _ _
  unfold f_Hb_rides f_Mo_rides
  refine R2_14 hM hr fun m hM hr => ?_
  have hI : IV x m := ⟨A, hV, hX, hM, hr⟩
  refine g_horse hV hX hM (fail2 hI) fun h hl e => pass2 ?_
  refine g_yard (fail2 hI) fun y hy e2 => pass2 ?_
  subst e e2
  have h7 : h < 7 := Nat.lt_of_lt_of_le hl hV.1
  obtain ⟨x1, e1, f1⟩ := hb_dor hX hV hl hy
  have hX1 := LnX_X hX hV f1
  obtain ⟨m1, e2, a2, k2, f2⟩ := mo_open_n hM hV.1
  obtain ⟨m2, e3, a3, f3⟩ := mo_ride_n a2 hV hl hy
  have hd : m2.1 83 7 = ldy A + nI (ownN y A h) := by
    rw [a3.2.2.1]
    refine (rideL_day 21 A).trans ?_
    rw [← show (rideA y h A).1 = ownN y A h from rideA_N]
    rfl
  dsimp only
  rw [gI_n h7 (by omega), sid10 h7, e1, bd_s]
  dsimp only
  rw [hasDays_n hX1, bd_s, e2, bd_s]
  dsimp only
  rw [e3, bd_s]
  dsimp only
  rw [hd]
  by_cases c : 999 < ldy A + nI (ownN y A h)
  · rw [if_pos c, if_neg (Int32.not_le.mpr c)]
    obtain ⟨m3, e4, a4, k4, f4⟩ := mo_close_n (LkM_B (by omega) k2 f3.B) hV.1
    exact R2_in hV hr hX (if_pos rfl) f1 (by rw [e4, bd_s]) a4 ((f2.tr f3.B.K).tr f4.K |>.S (by omega) (by omega))
  · obtain ⟨x2, e5, a5, f5⟩ := la_ride_n (by decide) hX1 hV hl hy
    rw [if_neg c, if_pos (Int32.not_lt.mp c), if_neg one_ne0, e5, bd_s, rideA_N]
    exact R2_fin (rideA_V hy hV hl) hr a5 a3 (f1.R.tr f5.R) ((f2.tr f3.B.K).S (by omega) (by omega))
theorem op_behind (a1 a2 a3 : Int32) : St2 IV (f_Hb_behind a1 a2 a3) (f_Mo_behind a1 a2 a3) := by
  intro x m ⟨A, hV, hX, hM, hr⟩
  show R2 _ _
  unfold f_Hb_behind f_Mo_behind
  refine R2_14 hM hr fun m hM hr => ?_
  have hI : IV x m := ⟨A, hV, hX, hM, hr⟩
  refine g_horse hV hX hM (fail2 hI) fun h hl e => pass2 ?_
  refine g_in 0 60 rfl rfl (by decide) (by decide) (by omega) (fail2 hI) fun n n1 hn e2 => pass2 ?_
  refine g_either (fail2 hI) fun _ => pass2 ?_
  subst e e2
  have h7 : h < 7 := Nat.lt_of_lt_of_le hl hV.1
  obtain ⟨x1, e1, s1, f1⟩ := st_become_n (o := 64) (o1 := 22 + h) (x := x) (by omega) (LnX_s hX hl)
  have o1 : x1 10 3 = nI (lo A) := by rw [f1 10 (by decide)]; exact hX.2.1
  obtain ⟨x2, e2, s2, f2⟩ := st_stay_n (m := n) s1 (hV.2.2 h hl) hV.2.1 (by omega)
  obtain ⟨m1, e3, a3, k3, f3⟩ := mo_open_n hM hV.1
  obtain ⟨m2, e4, a4, f4⟩ := mo_goDays_n (c := n) (by omega) a3 hV
  obtain ⟨m3, e5, a5, k5, f5⟩ := mo_close_n (LkM_B (by omega) k3 f4.B) hV.1
  have sm := a4.2.2.2 h hl
  have sV := (pass_V (m := n) hV).2.2 h hl
  have fX : frX x x2 := (f1.tr f2).X (by omega)
  have fM : frS m m3 := ((f3.tr f4.B.K).tr f5.K).S (by omega) (by omega)
  dsimp only
  rw [gI_n h7 (by omega), sid10 h7, e1, bd_s]
  dsimp only
  rw [o1, e2, bd_s, e3, bd_s]
  dsimp only
  rw [e4, bd_s]
  dsimp only
  refine R2_ite (fun _ => ?_) (fun _ => ?_)
  · exact R2_in hV hr hX (by rw [s2.2.2.2.2]) fX (by rw [gI_n h7 (by omega), b_Mo_behind_64, e5, bd_s, n_nat (by omega), sm.2.2.2.2]; rfl) a5 fM
  · exact R2_in hV hr hX (by rw [st_pace_n s2 (stay_V n (hV.2.2 h hl)), bd_s]) fX (by rw [mo_pace_n sm sV h7, bd_s, b_Mo_behind_64, e5, bd_s]; rfl) a5 fM
theorem op_race (a1 a2 a3 : Int32) : St2 IV (f_Hb_race a1 a2 a3) (f_Mo_race a1 a2 a3) := by
  intro x m ⟨A, hV, hX, hM, hr⟩
  show R2 _ _
  unfold f_Hb_race f_Mo_race
  refine R2_14 hM hr fun m hM hr => ?_
  have hI : IV x m := ⟨A, hV, hX, hM, hr⟩
  refine g_horse hV hX hM (fail2 hI) fun h hl e => pass2 ?_
  refine g_horse hV hX hM (fail2 hI) fun i il e2 => pass2 ?_
  refine R2_ite (fun _ => R2_eq hI (-1) rfl rfl) fun _ => ?_
  refine g_yard (fail2 hI) fun y hy e3 => pass2 ?_
  subst e e2 e3
  have h7 : h < 7 := Nat.lt_of_lt_of_le hl hV.1
  have i7 : i < 7 := Nat.lt_of_lt_of_le il hV.1
  obtain ⟨x1, e1, f1⟩ := hb_dor hX hV hl hy
  have hX1 := LnX_X hX hV f1
  obtain ⟨x2, e2, f2⟩ := hb_dor hX1 hV il hy
  obtain ⟨m1, e3, a3, f3⟩ := mo_own hM hV hl hy
  obtain ⟨m2, e4, a4, f4⟩ := mo_own a3 hV il hy
  have fX := f1.tr f2
  have fM := (f3.tr f4).S (by omega) (by omega)
  dsimp only
  rw [gI_n h7 (by omega), sid10 h7, e1, bd_s]
  dsimp only
  rw [gI_n i7 (by omega), sid10 i7, e2, bd_s, e3, bd_s]
  dsimp only
  rw [e4, bd_s]
  dsimp only
  refine R2_ite (fun _ => R2_in hV hr hX rfl fX rfl a4 fM) fun _ => ?_
  exact R2_ite (fun _ => R2_in hV hr hX rfl fX rfl a4 fM) fun _ => R2_in hV hr hX rfl fX rfl a4 fM
/-- the first of least days among 0 .. n-1 -/
def amin (f : Nat → Nat) : Nat → Nat × Nat
  | 0 => (0, 1000)
  | k + 1 => if (amin f k).2 ≤ f k then amin f k else (k, f k)
theorem amin_keep {f : Nat → Nat} {j : Nat} (c : (amin f j).2 ≤ f j) : amin f (j + 1) = amin f j := if_pos c
theorem amin_take {f : Nat → Nat} {j : Nat} (c : ¬ (amin f j).2 ≤ f j) : amin f (j + 1) = (j, f j) := if_neg c
theorem amin_le (f : Nat → Nat) : ∀ k, (amin f k).2 ≤ 1000 ∧ (amin f k).1 ≤ k
  | 0 => ⟨Nat.le_refl _, Nat.le_refl _⟩
  | k + 1 => by
    have h := amin_le f k
    unfold amin
    split
    · exact ⟨h.1, by omega⟩
    · exact ⟨by dsimp only; omega, by dsimp only; omega⟩
theorem amin_f (f : Nat → Nat) : ∀ k, (∀ i, i < k → f i < 1000) → 0 < k → f (amin f k).1 = (amin f k).2
  | 0, _, h => absurd h (Nat.lt_irrefl 0)
  | k + 1, hf, _ => by
    unfold amin
    split
    · rename_i c
      refine amin_f f k (fun i hi => hf i (by omega)) ?_
      rcases Nat.eq_zero_or_pos k with e | e
      · exfalso
        subst e
        have := hf 0 (by omega)
        have h1 : (1000 : Nat) ≤ f 0 := c
        omega
      · exact e
    · rfl
theorem amin_0 {f : Nat → Nat} (h : f 0 < 1000) : ¬ (amin f 0).2 ≤ f 0 := by
  show ¬ 1000 ≤ f 0
  omega
theorem nneg {a : Nat} (h : a < 2147483648) : ¬ nI a < 0 := by
  rw [show (0 : Int32) = nI 0 from rfl, n_lt h (by omega)]
  omega
theorem pos_le {a : Nat} (h : a < 2147483648) : (0 : Int32) ≤ nI a := by
  rw [show (0 : Int32) = nI 0 from rfl, n_le (by omega) h]
  omega

/-! The class's lands: days, rides. -/
/-- a land: how many horses, the oats, the day, the horses -/
abbrev Ld : Type := Nat × Nat × Int32 × (Nat → Hs)
abbrev ln (A : Ld) : Nat := A.1
abbrev lo (A : Ld) : Nat := A.2.1
abbrev ldy (A : Ld) : Int32 := A.2.2.1
abbrev ls (A : Ld) : Nat → Hs := A.2.2.2
def VA (A : Ld) : Prop := ln A ≤ 7 ∧ lo A ≤ 20 ∧ ∀ h, h < ln A → VH (ls A h)
def setS (A : Ld) (h : Nat) (v : Hs) : Ld := (ln A, lo A, ldy A, fun j => if j = h then v else ls A j)
def passA (m : Nat) (A : Ld) : Ld := (ln A, lo A, ldy A + nI m, fun h => stayN (lo A) m (ls A h))
/-- a ride of the horse h of a land -/
def rideL (yard h : Nat) : Nat → Ld → Nat × Ld
  | 0, A => (0, A)
  | k + 1, A => if ha (ls A h) = yard then (0, A) else ((rideL yard h k (passA 1 (setS A h (goN yard (lo A) (ls A h))))).1 + 1, (rideL yard h k (passA 1 (setS A h (goN yard (lo A) (ls A h))))).2)
def rideA (yard h : Nat) (A : Ld) : Nat × Ld := rideL yard h 21 A
theorem pass_V {A : Ld} {m : Nat} (h : VA A) : VA (passA m A) := ⟨h.1, h.2.1, fun j hj => stay_V m (h.2.2 j hj)⟩
theorem setS_V {A : Ld} {j : Nat} {v : Hs} (h : VA A) (hv : VH v) : VA (setS A j v) := ⟨h.1, h.2.1, fun i hi => by
  show VH (if i = j then v else ls A i)
  split
  · exact hv
  · exact h.2.2 i hi⟩
theorem rideL_V {yard h : Nat} (hy : yard ≤ 20) : ∀ (k : Nat) {A : Ld}, VA A → h < ln A → VA (rideL yard h k A).2 ∧ ln (rideL yard h k A).2 = ln A ∧ lo (rideL yard h k A).2 = lo A
  | 0, _, hA, _ => ⟨hA, rfl, rfl⟩
  | k + 1, A, hA, hh => by
    unfold rideL
    split
    · exact ⟨hA, rfl, rfl⟩
    · exact rideL_V hy k (pass_V (setS_V hA (go_V (hA.2.2 h hh) hy))) hh
/-- the rider alone -/
theorem rideL_F {yard h : Nat} : ∀ (k : Nat) (A : Ld), (rideL yard h k A).1 = (rideF yard (lo A) k (ls A h)).1 ∧ ls (rideL yard h k A).2 h = (rideF yard (lo A) k (ls A h)).2
  | 0, _ => ⟨rfl, rfl⟩
  | k + 1, A => by
    unfold rideL rideF
    split
    · exact ⟨rfl, rfl⟩
    · have h1 := rideL_F (yard := yard) (h := h) k (passA 1 (setS A h (goN yard (lo A) (ls A h))))
      have h2 : ls (passA 1 (setS A h (goN yard (lo A) (ls A h)))) h = dayN (lo A) (goN yard (lo A) (ls A h)) := by
        show dayN (lo A) (if h = h then _ else _) = _
        rw [if_pos rfl]
      rw [h2] at h1
      exact ⟨by rw [h1.1]; rfl, h1.2⟩
def LnX (x : XD) (o : Nat) (A : Ld) : Prop := x o 2 = nI (ln A) ∧ x o 3 = nI (lo A) ∧ x o 4 = ldy A ∧ ∀ h, h < ln A → xst x (22 + 7 * (o - 10) + h) (ls A h)
/-- only steeds of the land o are others -/
def frT (o : Nat) (x x' : XD) : Prop := ∀ k, ¬ (22 + 7 * (o - 10) ≤ k ∧ k < 29 + 7 * (o - 10)) → x' k = x k
/-- only the land o is another -/
def frL (o : Nat) (x x' : XD) : Prop := ∀ k, k ≠ o → ¬ (22 + 7 * (o - 10) ≤ k ∧ k < 29 + 7 * (o - 10)) → x' k = x k
theorem frT.rf {o : Nat} {x : XD} : frT o x x := fun _ _ => rfl
theorem frT.tr {o : Nat} {x y z : XD} (h1 : frT o x y) (h2 : frT o y z) : frT o x z := fun k hk => (h2 k hk).trans (h1 k hk)
theorem frL.rf {o : Nat} {x : XD} : frL o x x := fun _ _ _ => rfl
theorem frL.tr {o : Nat} {x y z : XD} (h1 : frL o x y) (h2 : frL o y z) : frL o x z := fun k h hk => (h2 k h hk).trans (h1 k h hk)
theorem frT.L {o : Nat} {x y : XD} (h : frT o x y) : frL o x y := fun k _ hk => h k hk
theorem frO.T {o i : Nat} {x y : XD} (h : frO i x y) (h1 : 22 + 7 * (o - 10) ≤ i) (h2 : i < 29 + 7 * (o - 10)) : frT o x y := fun k hk => h k (fun e => hk (by omega))
theorem frL.up {o j : Nat} {x : XD} {v : Int32} : frL o x (x_up x o j v) := fun _ hk _ => x_up_ne hk
theorem sid_n {o h : Nat} (hh : h < 7) : sid o (nI h) = 22 + 7 * (o - 10) + h := by
  unfold sid
  rw [n_nat (by omega)]
theorem xst_fr {x y : XD} {i : Nat} {s : Hs} (h : xst x i s) (e : y i = x i) : xst y i s := by
  unfold xst
  rw [e]
  exact h
section XL
variable {o : Nat}
theorem la_pass22 {K : Int32 → XD → Option (Unit × XD)} {oats h : Nat} (ho : 10 ≤ o ∧ o < 16) (hh : h < 7) (hoa : oats ≤ 20) : ∀ (k n c m : Nat) (x : XD) (s : Hs), k < n → x o 3 = nI oats → xst x (22 + 7 * (o - 10) + h) s → VH s → c + k = m → m < 1000000 → ∃ x', b_La_pass_22 K o (nI m) (nI h) n (nI c) x = K (nI (h + 1)) x' ∧ xst x' (22 + 7 * (o - 10) + h) (stayN oats k s) ∧ frO (22 + 7 * (o - 10) + h) x x' := by
  intro k
  induction k with
  | zero =>
    intro n c m x s hn h3 hs hV hc hm
    obtain ⟨n, rfl⟩ : ∃ m, n = m + 1 := ⟨n - 1, by omega⟩
    refine ⟨x, ?_, hs, frO.rf⟩
    rw [b_La_pass_22, if_pos (nI_le (by omega) (by omega)), show (1 : Int32) = nI 1 from rfl, n_add]
  | succ k ih =>
    intro n c m x s hn h3 hs hV hc hm
    obtain ⟨n, rfl⟩ : ∃ m, n = m + 1 := ⟨n - 1, by omega⟩
    rw [b_La_pass_22]
    simp only [n_le (show m < 2147483648 by omega) (show c < 2147483648 by omega)]
    rw [if_neg (by omega), gI_n hh (by omega), sid_n hh, h3, st_pine_n hs hV hoa, bd_s]
    simp only
    rw [show nI c + 1 = nI (c + 1) from n_add c 1]
    obtain ⟨x', q1, q2, q3⟩ := ih n (c + 1) m _ (dayN oats s) (by omega) (by rw [x_up_ne (by omega)]; exact h3) (st_day hs) (day_V hV) (by omega) hm
    exact ⟨x', q1, q2, frO.up.tr q3⟩
theorem la_pass12 {oats m nn : Nat} {s : Nat → Hs} (ho : 10 ≤ o ∧ o < 16) (hoa : oats ≤ 20) (hm : m < 900) (hnn : nn ≤ 7) (hV : ∀ h, h < nn → VH (s h)) : ∀ (k j n : Nat) (x : XD), k < n → j + k = nn → x o 2 = nI nn → x o 3 = nI oats → (∀ h, h < nn → xst x (22 + 7 * (o - 10) + h) (if h < j then stayN oats m (s h) else s h)) → ∃ x', b_La_pass_12 o (nI m) n (nI j) x = some ((), x') ∧ (∀ h, h < nn → xst x' (22 + 7 * (o - 10) + h) (stayN oats m (s h))) ∧ frT o x x' := by
  intro k
  induction k with
  | zero =>
    intro j n x hn hj h2 h3 hs
    obtain ⟨n, rfl⟩ : ∃ m, n = m + 1 := ⟨n - 1, by omega⟩
    refine ⟨x, ?_, ?_, frT.rf⟩
    · rw [b_La_pass_12, h2, if_pos (nI_le (by omega) (by omega))]
    · intro h hh
      have h9 := hs h hh
      rw [if_pos (by omega)] at h9
      exact h9
  | succ k ih =>
    intro j n x hn hj h2 h3 hs
    obtain ⟨n, rfl⟩ : ∃ m, n = m + 1 := ⟨n - 1, by omega⟩
    rw [b_La_pass_12]
    simp only [h2, n_le (show nn < 2147483648 by omega) (show j < 2147483648 by omega)]
    rw [if_neg (by omega)]
    have hsj := hs j (by omega)
    rw [if_neg (by omega)] at hsj
    obtain ⟨x1, q1, q2, q3⟩ := la_pass22 (K := b_La_pass_12 o (nI m) n) ho (show j < 7 by omega) hoa m fu 0 m x (s j) (by show m < 1000; omega) h3 hsj (hV j (by omega)) (by omega) (by omega)
    rw [show (0 : Int32) = nI 0 from rfl, q1]
    obtain ⟨x', r1, r2, r3⟩ := ih (j + 1) n x1 (by omega) (by omega) (by rw [q3 o (by omega)]; exact h2) (by rw [q3 o (by omega)]; exact h3) (fun h hh => by
      by_cases c : h = j
      · subst c
        rw [if_pos (by omega)]
        exact q2
      · have h9 := xst_fr (y := x1) (hs h hh) (q3 _ (by omega))
        by_cases c2 : h < j
        · rw [if_pos c2] at h9
          rw [if_pos (by omega)]
          exact h9
        · rw [if_neg c2] at h9
          rw [if_neg (by omega)]
          exact h9)
    exact ⟨x', r1, r2, (q3.T (o := o) (by omega) (by omega)).tr r3⟩
theorem la_pass_n {x : XD} {A : Ld} {m : Nat} (ho : 10 ≤ o ∧ o < 16) (h : LnX x o A) (hV : VA A) (hm : m < 900) : ∃ x', f_La_pass o (nI m) x = some ((), x') ∧ LnX x' o (passA m A) ∧ frL o x x' := by
  obtain ⟨h2, h3, h4, hs⟩ := h
  obtain ⟨x', q1, q2, q3⟩ := la_pass12 (s := ls A) ho hV.2.1 hm hV.1 hV.2.2 (ln A) 0 fu (x_up x o 4 (x o 4 + nI m)) (by have := hV.1; show ln A < 1000; omega) (by omega) (by simp [x_up, h2]) (by simp [x_up, h3]) (fun j hj => by
    rw [if_neg (by omega)]
    exact xst_ne (hs j hj) (by omega))
  have e : x' o = x_up x o 4 (x o 4 + nI m) o := q3 o (by omega)
  refine ⟨x', q1, ⟨?_, ?_, ?_, q2⟩, frL.up.tr q3.L⟩
  · rw [e]; simp [x_up, h2]; rfl
  · rw [e]; simp [x_up, h3]; rfl
  · rw [e]; simp [x_up, h4]; rfl
theorem LnX_set {x : XD} {A : Ld} {j : Nat} {v : Hs} {x' : XD} (ho : 10 ≤ o ∧ o < 16) (h : LnX x o A) (hj : j < 7) (hx : xst x' (22 + 7 * (o - 10) + j) v) (hf : frO (22 + 7 * (o - 10) + j) x x') : LnX x' o (setS A j v) := by
  obtain ⟨h2, h3, h4, hs⟩ := h
  have e : x' o = x o := hf o (by omega)
  refine ⟨by rw [e]; exact h2, by rw [e]; exact h3, by rw [e]; exact h4, fun i hi => ?_⟩
  show xst x' _ (if i = j then v else ls A i)
  by_cases c : i = j
  · rw [if_pos c, c]; exact hx
  · rw [if_neg c]
    exact xst_fr (hs i hi) (hf _ (by omega))
theorem la_ride_l {yard h : Nat} (ho : 10 ≤ o ∧ o < 16) (hy : yard ≤ 20) : ∀ (k n c : Nat) (x : XD) (A : Ld), k < n → LnX x o A → VA A → h < ln A → dst (ha (ls A h)) yard ≤ k → c + dst (ha (ls A h)) yard ≤ 20 → ∃ x', b_La_ride_2 o (nI h) (nI yard) n (nI c) x = some (nI (c + (rideL yard h k A).1), x') ∧ LnX x' o (rideL yard h k A).2 ∧ frL o x x' := by
  intro k
  induction k with
  | zero =>
    intro n c x A hn hL hV hh hd hc
    obtain ⟨n, rfl⟩ : ∃ m, n = m + 1 := ⟨n - 1, by omega⟩
    have hh7 : h < 7 := Nat.lt_of_lt_of_le hh hV.1
    have he : ha (ls A h) = yard := (dst_z.mp (Nat.le_zero.mp hd)).symm
    refine ⟨x, ?_, hL, frL.rf⟩
    rw [b_La_ride_2, gI_n hh7 (by omega), sid_n hh7, (hL.2.2.2 h hh).2.2.2.1, if_pos (by rw [he])]
    rfl
  | succ k ih =>
    intro n c x A hn hL hV hh hd hc
    obtain ⟨n, rfl⟩ : ∃ m, n = m + 1 := ⟨n - 1, by omega⟩
    have hh7 : h < 7 := Nat.lt_of_lt_of_le hh hV.1
    have hs := hL.2.2.2 h hh
    have hVh := hV.2.2 h hh
    have h4 := hVh.2.2.2.1
    rw [b_La_ride_2, gI_n hh7 (by omega), sid_n hh7]
    simp only [hs.2.2.2.1, n_eq (show ha (ls A h) < 2147483648 by omega) (show yard < 2147483648 by omega)]
    by_cases he : ha (ls A h) = yard
    · rw [if_pos he]
      refine ⟨x, ?_, ?_, frL.rf⟩
      · rw [show (rideL yard h (k + 1) A).1 = 0 from by unfold rideL; rw [if_pos he]]
        rfl
      · rw [show (rideL yard h (k + 1) A).2 = A from by unfold rideL; rw [if_pos he]]
        exact hL
    · have hnear := move_near (oats := lo A) he
      have hm := move_le (oats := lo A) hVh hy
      rw [if_neg he, show (21 : Int32) = nI 21 from rfl]
      simp only [n_le (show 21 < 2147483648 by omega) (show c < 2147483648 by omega)]
      rw [if_neg (by omega), gI_n hh7 (by omega), hL.2.1, st_move_n hs hVh hV.2.1 hy he, bd_s]
      simp only
      have hL1 := LnX_set (v := goN yard (lo A) (ls A h)) ho hL hh7 (xst_up3 hs) frO.up
      have hV1 := setS_V (j := h) hV (go_V (oats := lo A) hVh hy)
      obtain ⟨x1, p1, p2, p3⟩ := la_pass_n (m := 1) ho hL1 hV1 (by omega)
      rw [show (1 : Int32) = nI 1 from rfl, p1, bd_s]
      simp only
      rw [n_add]
      have e9 : ls (passA 1 (setS A h (goN yard (lo A) (ls A h)))) h = dayN (lo A) (goN yard (lo A) (ls A h)) := by
        show dayN (lo A) (if h = h then _ else _) = _
        rw [if_pos rfl]
      obtain ⟨x', q1, q2, q3⟩ := ih n (c + 1) x1 (passA 1 (setS A h (goN yard (lo A) (ls A h)))) (by omega) p2 (pass_V hV1) hh (by rw [e9]; show dst (moveN yard (lo A) (ls A h)) yard ≤ k; omega) (by rw [e9]; show c + 1 + dst (moveN yard (lo A) (ls A h)) yard ≤ 20; omega)
      refine ⟨x', ?_, ?_, ((frO.up.T (o := o) (by omega) (by omega)).L.tr p3).tr q3⟩
      · rw [q1, show (rideL yard h (k + 1) A).1 = (rideL yard h k (passA 1 (setS A h (goN yard (lo A) (ls A h))))).1 + 1 from by conv => lhs; unfold rideL; rw [if_neg he], Nat.add_assoc, Nat.add_comm 1]
      · rw [show (rideL yard h (k + 1) A).2 = (rideL yard h k (passA 1 (setS A h (goN yard (lo A) (ls A h))))).2 from by conv => lhs; unfold rideL; rw [if_neg he]]
        exact q2
theorem la_ride_n {x : XD} {A : Ld} {yard h : Nat} (ho : 10 ≤ o ∧ o < 16) (hL : LnX x o A) (hV : VA A) (hh : h < ln A) (hy : yard ≤ 20) : ∃ x', f_La_ride o (nI h) (nI yard) x = some (nI (rideA yard h A).1, x') ∧ LnX x' o (rideA yard h A).2 ∧ frL o x x' := by
  have h4 := dst20 (hV.2.2 h hh).2.2.2.1 hy
  obtain ⟨x', q1, q2, q3⟩ := la_ride_l (o := o) (yard := yard) (h := h) ho hy 21 fu 0 x A (by decide) hL hV hh (by omega) (by omega)
  exact ⟨x', by unfold f_La_ride rideA; rw [show (0 : Int32) = nI 0 from rfl, q1, Nat.zero_add], q2, q3⟩
end XL

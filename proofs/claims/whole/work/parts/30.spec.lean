/-! THE MATHEMATICS: a land and its horses by natural numbers; what the document says of them. -/
theorem n_add (a b : Nat) : nI a + nI b = nI (a + b) := nI_add a b
theorem n_sub {a b : Nat} (h : b ≤ a) : nI a - nI b = nI (a - b) := by
  obtain ⟨c, rfl⟩ : ∃ c, a = b + c := ⟨a - b, by omega⟩
  rw [show b + c - b = c from by omega, ← nI_add, Int32.add_comm, Int32.add_sub_cancel]
theorem n_mul (a b : Nat) : nI a * nI b = nI (a * b) := (Int32.ofNat_mul a b).symm
theorem n_le {a b : Nat} (ha : a < 2147483648) (hb : b < 2147483648) : (nI a ≤ nI b) = (a ≤ b) := propext (nI_leI ha hb)
theorem n_lt {a b : Nat} (ha : a < 2147483648) (hb : b < 2147483648) : (nI a < nI b) = (a < b) := propext (nI_ltI ha hb)
theorem n_eq {a b : Nat} (ha : a < 2147483648) (hb : b < 2147483648) : (nI a = nI b) = (a = b) := propext (nI_eq ha hb)
theorem n_nat {a : Nat} (h : a < 2147483648) : (nI a).toNatClampNeg = a := nI_clamp h
theorem n_int {a : Nat} (h : a < 2147483648) : (nI a).toInt = (a : Int) := nI_toInt h
theorem n_div {a b : Nat} (ha : a < 2147483648) (hb : b < 2147483648) : nI a / nI b = nI (a / b) := by
  refine Int32.toInt_inj.mp ?_
  have h3 : a / b ≤ a := Nat.div_le_self a b
  rw [Int32.toInt_div, n_int ha, n_int hb, n_int (by omega)]
  rw [show ((a : Int).tdiv (b : Int)) = ((a / b : Nat) : Int) from by rw [Int.ofNat_tdiv]]
  generalize a / b = c at h3
  exact Int.bmod_eq_of_le (by omega) (by omega)
theorem n_in {a n : Nat} (h : a < n) (hn : n < 2147483648) : vp_in (nI a) n := vp_in_nI h hn
theorem gI_in {α : Type} {i : Int32} {n : Nat} {v : Option α} (h : vp_in i n) : gI i n v = v := by
  unfold gI
  exact if_neg h
theorem gI_n {α : Type} {a n : Nat} {v : Option α} (h : a < n) (hn : n < 2147483648) : gI (nI a) n v = v := gI_in (n_in h hn)
theorem gB_0 {α : Type} {v : Option α} : gB 0 v = v := if_pos (Or.inl rfl)
theorem gB_1 {α : Type} {v : Option α} : gB 1 v = v := if_pos (Or.inr rfl)
theorem bd_s {α β : Type} (a : α) (k : α → Option β) : (some a).bind k = k a := rfl
/-- a horse: kind, figure, home, at, longing -/
abbrev Hs : Type := Nat × Nat × Nat × Nat × Nat
abbrev hk (s : Hs) : Nat := s.1
abbrev hf (s : Hs) : Nat := s.2.1
abbrev hh (s : Hs) : Nat := s.2.2.1
abbrev ha (s : Hs) : Nat := s.2.2.2.1
abbrev hlo (s : Hs) : Nat := s.2.2.2.2
/-- in their ranges -/
def VH (s : Hs) : Prop := hk s < 8 ∧ hf s < 10 ∧ hh s ≤ 20 ∧ ha s ≤ 20 ∧ hlo s ≤ 99
def dst (a b : Nat) : Nat := if a ≤ b then b - a else a - b
def goalN (oats : Nat) (s : Hs) : Nat :=
  if hk s = 1 then ha s else if hk s = 2 then 20 - hh s else if hk s = 3 then (if dst (ha s) (20 - hh s) < dst (ha s) (hh s) then 20 - hh s else hh s) else if hk s = 5 then oats else if hk s = 6 then (if dst (ha s) (hh s) < dst (ha s) (20 - hh s) then 20 - hh s else hh s) else if hk s = 7 then ha s else hh s
def pinesN (oats : Nat) (s : Hs) : Nat :=
  if hk s = 1 then 0 else if hk s = 2 then 2 * (1 + dst (ha s) (goalN oats s) / 5) else if hk s = 4 then 1 + dst (ha s) (goalN oats s) / 5 + hf s else if hk s = 5 then 1 + dst (ha s) (goalN oats s) / 5 + hf s / 2 else if hk s = 6 then 1 + dst (ha s) (goalN oats s) / 5 + 1 else if hk s = 7 then 0 else 1 + dst (ha s) (goalN oats s) / 5
def paceN (s : Hs) : Nat :=
  if hk s = 1 then 2 else if hk s = 2 then 1 + hlo s / 2 else if hk s = 5 then 1 + hlo s / 4 + 1 else if hk s = 6 then 1 + hlo s / 4 + hf s / 3 else if hk s = 7 then 3 else 1 + hlo s / 4
def walkN (s : Hs) : Nat := if hk s = 7 then 3 else if hk s = 1 then 2 else if hk s = 6 then 2 else 1
def priceN (k f : Nat) : Nat := if k = 1 then 1 else if k = 2 then 2 + f else if k = 3 then 4 else if k = 4 then 7 else if k = 5 then 1 else if k = 6 then 4 + f else if k = 7 then 4 else 2
/-- a day's change of longing -/
def pineN (oats : Nat) (s : Hs) : Nat := if goalN oats s = ha s then hlo s / 2 else if hlo s + pinesN oats s ≤ 99 then hlo s + pinesN oats s else 99
def dayN (oats : Nat) (s : Hs) : Hs := (hk s, hf s, hh s, ha s, pineN oats s)
/-- the miles of a day of a ride, and where it is then (it isn't at the yard yet) -/
def milesN (yard oats : Nat) (s : Hs) : Nat :=
  if ha s < yard then (if ha s < goalN oats s then min (min (paceN s) (goalN oats s - ha s)) (yard - ha s) else min (walkN s) (yard - ha s)) else (if goalN oats s < ha s then min (min (paceN s) (ha s - goalN oats s)) (ha s - yard) else min (walkN s) (ha s - yard))
def moveN (yard oats : Nat) (s : Hs) : Nat := if ha s < yard then ha s + milesN yard oats s else ha s - milesN yard oats s
def goN (yard oats : Nat) (s : Hs) : Hs := (hk s, hf s, hh s, moveN yard oats s, hlo s)
/-- a ride: its days and the horse behind it (k bounds the days) -/
def rideF (yard oats : Nat) : Nat → Hs → Nat × Hs
  | 0, s => (0, s)
  | k + 1, s => if ha s = yard then (0, s) else ((rideF yard oats k (dayN oats (goN yard oats s))).1 + 1, (rideF yard oats k (dayN oats (goN yard oats s))).2)
def rideN (yard oats : Nat) (s : Hs) : Nat × Hs := rideF yard oats 21 s
def stayN (oats : Nat) : Nat → Hs → Hs
  | 0, s => s
  | k + 1, s => stayN oats k (dayN oats s)
theorem goal_le {oats : Nat} {s : Hs} (h : VH s) (ho : oats ≤ 20) : goalN oats s ≤ 20 := by
  obtain ⟨h1, h2, h3, h4, h5⟩ := h
  unfold goalN
  repeat' split
  all_goals omega
theorem dst_le {a b : Nat} (h1 : a ≤ 20) (h2 : b ≤ 20) : dst a b ≤ 20 := by
  unfold dst
  split <;> omega
theorem pines_le {oats : Nat} {s : Hs} (h : VH s) (ho : oats ≤ 20) : pinesN oats s ≤ 20 := by
  have h1 := goal_le h ho
  have h2 := dst_le h.2.2.2.1 h1
  have h3 := h.2.1
  unfold pinesN
  repeat' split
  all_goals omega
theorem pace_le {s : Hs} (h : VH s) : paceN s ≤ 60 := by
  obtain ⟨h1, h2, h3, h4, h5⟩ := h
  unfold paceN
  repeat' split
  all_goals omega
theorem pace_pos {s : Hs} : 1 ≤ paceN s := by
  unfold paceN
  repeat' split
  all_goals omega
theorem walk_pos {s : Hs} : 1 ≤ walkN s ∧ walkN s ≤ 3 := by
  unfold walkN
  repeat' split
  all_goals omega
theorem pine_le {oats : Nat} {s : Hs} (h : VH s) : pineN oats s ≤ 99 := by
  have := h.2.2.2.2
  unfold pineN
  repeat' split
  all_goals omega
theorem day_V {oats : Nat} {s : Hs} (h : VH s) : VH (dayN oats s) := ⟨h.1, h.2.1, h.2.2.1, h.2.2.2.1, pine_le h⟩
theorem move_le {yard oats : Nat} {s : Hs} (h : VH s) (hy : yard ≤ 20) : moveN yard oats s ≤ 20 := by
  have := h.2.2.2.1
  unfold moveN milesN
  repeat' split
  all_goals omega
theorem go_V {yard oats : Nat} {s : Hs} (h : VH s) (hy : yard ≤ 20) : VH (goN yard oats s) := ⟨h.1, h.2.1, h.2.2.1, move_le h hy, h.2.2.2.2⟩
/-- each day of a ride comes nearer -/
theorem move_near {yard oats : Nat} {s : Hs} (hne : ha s ≠ yard) : dst (moveN yard oats s) yard < dst (ha s) yard := by
  have h1 := @pace_pos s
  have h2 := @walk_pos s
  unfold dst moveN milesN
  repeat' split
  all_goals omega
theorem stay_V {oats : Nat} : ∀ (k : Nat) {s : Hs}, VH s → VH (stayN oats k s)
  | 0, _, h => h
  | k + 1, _, h => stay_V k (day_V h)
theorem rideF_V {yard oats : Nat} (hy : yard ≤ 20) : ∀ (k : Nat) {s : Hs}, VH s → VH (rideF yard oats k s).2
  | 0, _, h => h
  | k + 1, s, h => by
    unfold rideF
    split
    · exact h
    · exact rideF_V hy k (day_V (go_V h hy))
/-- a ride ends, within as many days as it has miles -/
theorem rideF_end {yard oats : Nat} : ∀ (k : Nat) {s : Hs}, dst (ha s) yard < k + 1 → ha (rideF yard oats k s).2 = yard ∧ (rideF yard oats k s).1 ≤ dst (ha s) yard := by
  intro k
  induction k with
  | zero =>
    intro s h
    refine ⟨?_, Nat.zero_le _⟩
    show ha s = yard
    unfold dst at h
    split at h <;> omega
  | succ k ih =>
    intro s h
    unfold rideF
    split
    · rename_i h1
      exact ⟨h1, Nat.zero_le _⟩
    · rename_i h1
      have h2 := move_near (oats := oats) h1
      have h3 := ih (s := dayN oats (goN yard oats s)) (by show dst (moveN yard oats s) yard < k + 1; omega)
      refine ⟨h3.1, ?_⟩
      have h4 : (rideF yard oats k (dayN oats (goN yard oats s))).1 ≤ dst (moveN yard oats s) yard := h3.2
      show (rideF yard oats k (dayN oats (goN yard oats s))).1 + 1 ≤ dst (ha s) yard
      omega

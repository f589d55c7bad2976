/-! Chains: both sides. -/
/-- the least of some numbers, 1000 for none -/
def mn (f : Nat → Nat) : Nat → Nat
  | 0 => 1000
  | n + 1 => min (mn f n) (f n)
theorem mn_le (f : Nat → Nat) : ∀ n, mn f n ≤ 1000
  | 0 => Nat.le_refl _
  | n + 1 => Nat.le_trans (Nat.min_le_left _ _) (mn_le f n)
theorem mn_c {f g : Nat → Nat} : ∀ n, (∀ i, i < n → f i = g i) → mn f n = mn g n
  | 0, _ => rfl
  | n + 1, h => by
    show min (mn f n) (f n) = min (mn g n) (g n)
    rw [mn_c n (fun i hi => h i (by omega)), h n (by omega)]
theorem mn_1000 : ∀ n, mn (fun _ => 1000) n = 1000
  | 0 => rfl
  | n + 1 => by
    show min (mn _ n) 1000 = 1000
    rw [mn_1000 n]
    rfl
/-- numbers of 1000 and more are one -/
theorem mn_shift {f g : Nat → Nat} {a : Nat} : ∀ n, (∀ i, i < n → g i = min 1000 (a + f i)) → mn g n = min 1000 (a + mn f n)
  | 0, _ => by show 1000 = min 1000 (a + 1000); omega
  | n + 1, h => by
    show min (mn g n) (g n) = min 1000 (a + min (mn f n) (f n))
    rw [mn_shift n (fun i hi => h i (by omega)), h n (by omega)]
    omega
theorem mn_cl {f g : Nat → Nat} (n : Nat) (h : ∀ i, i < n → g i = min 1000 (f i)) : mn g n = mn f n := by
  have h1 := mn_shift (a := 0) n (f := f) (g := g) (fun i hi => by rw [h i hi, Nat.zero_add])
  have h2 := mn_le f n
  omega
theorem mn_add {f : Nat → Nat} {a : Nat} : ∀ b, mn f (a + b) = min (mn f a) (mn (fun i => f (a + i)) b)
  | 0 => by
    show mn f a = min (mn f a) 1000
    have := mn_le f a
    omega
  | b + 1 => by
    show min (mn f (a + b)) (f (a + b)) = min (mn f a) (min (mn _ b) (f (a + b)))
    rw [mn_add b]
    omega
theorem mn_z {f : Nat → Nat} : mn f 0 = 1000 := rfl
theorem mn_s {f : Nat → Nat} {n : Nat} : mn f (n + 1) = min (mn f n) (f n) := rfl
theorem mn_pair {F : Nat → Nat → Nat} (n : Nat) : mn (fun k => F (k / 21) (k % 21)) (21 * n) = mn (fun b => mn (F b) 21) n := by
  induction n with
  | zero => rw [Nat.mul_zero, mn_z, mn_z]
  | succ n ih =>
    have e : mn (fun i => F ((21 * n + i) / 21) ((21 * n + i) % 21)) 21 = mn (F n) 21 := by
      refine mn_c 21 (fun i hi => ?_)
      rw [show (21 * n + i) / 21 = n by omega, show (21 * n + i) % 21 = i by omega]
    rw [show 21 * (n + 1) = 21 * n + 21 by omega, mn_add, ih, e]
    exact (mn_s (f := fun b => mn (F b) 21) (n := n)).symm
theorem ride_le {y h : Nat} {A : Ld} (hV : VA A) (hl : h < ln A) (hy : y ≤ 20) : (rideA y h A).1 ≤ 20 := by
  rw [rideA_N]
  exact rideN_le (hV.2.2 h hl) hy
theorem ride_ln {y h : Nat} {A : Ld} (hV : VA A) (hl : h < ln A) (hy : y ≤ 20) : ln (rideA y h A).2 = ln A := (rideL_V hy 21 hV hl).2.1
/-- lands in mind from the g-th on are others -/
def frG (g : Nat) (x x' : XD) : Prop := ∀ k, k < 12 + g ∨ (15 < k ∧ k < 36 + 7 * g) ∨ 63 < k → x' k = x k
theorem frG.rf {g : Nat} {x : XD} : frG g x x := fun _ _ => rfl
theorem frG.tr {g : Nat} {x y z : XD} (h : frG g x y) (h' : frG g y z) : frG g x z := fun k hk => (h' k hk).trans (h k hk)
theorem frG.le {g g' : Nat} {x y : XD} (h : frG g x y) (hg : g' ≤ g) : frG g' x y := fun k hk => h k (by omega)
theorem frG.X {x y : XD} (h : frG 0 x y) : frX x y := fun k hk => h k (by omega)
theorem frL.G {x y : XD} {g : Nat} (h : frL (12 + g) x y) (hg : g < 4) : frG g x y := fun k hk => h k (by omega) (by omega)
theorem LnX_G {x y : XD} {g g' : Nat} {A : Ld} (h : LnX x (12 + g) A) (h7 : ln A ≤ 7) (f : frG g' x y) (hg : g < g') (hg4 : g < 4) : LnX y (12 + g) A := LnX_eq h h7 (fun k hk => f k (by omega))
abbrev frU (used : Int32) (c : Nat) : Prop := (used >>> (nI c &&& 31)) &&& 1 = 0
/-- the days of a chain that goes on with a horse -/
def gW (sub : Nat → Ld → Nat) (to A' : Nat) (A : Ld) (h : Nat) : Nat := mn (fun y => if y = ha (ls A h) then 1000 else (rideA y h A).1 + (if y = to then 0 else sub y (rideA y h A).2)) A'
def gO (w : Nat → Nat) (used : Int32) (frm : Nat) (A : Ld) : Nat := mn (fun c => if frU used c ∧ ha (ls A c) = frm then w c else 1000) (ln A)
theorem lid_n {g : Nat} (h : g < 4) : lid (nI g) = 12 + g := by
  unfold lid
  rw [n_nat (by omega)]
theorem xw_l {cw : Int32 → Int32 → Int32 → Int32 → XD → Option (Int32 × XD)} {sub : Nat → Ld → Nat} {used : Int32} {D h to : Nat} {A : Ld} (hD : D < 3) (hV : VA A) (hl : h < ln A) (hto : to ≤ 20) (hs1 : ∀ y A', sub y A' ≤ 1000) (hs : ∀ y x A', y ≤ 20 → LnX x (12 + (D + 1)) A' → VA A' → ∃ x', f_Hb_chainOn cw (nI (D + 1)) (nI y) (nI to) used x = some (nI (sub y A'), x') ∧ frG (D + 2) x x') : ∀ (k n j : Nat) (x : XD), j + k = 21 → k < n → LnX x (12 + D) A → ∃ x', b_Hb_chainWith_37 cw (nI D) (nI h) (nI to) used (12 + (D + 1)) (nI (ha (ls A h))) n (nI (gW sub to j A h)) (nI j) x = some (nI (gW sub to 21 A h), x') ∧ frG (D + 1) x x' := by
  have h7 := hV.1
  have h4 := (hV.2.2 h hl).2.2.2.1
  intro k
  induction k with
  | zero =>
    intro n j x hj hn hX
    obtain ⟨n, rfl⟩ : ∃ m, n = m + 1 := ⟨n - 1, by omega⟩
    obtain rfl : j = 21 := by omega
    exact ⟨x, by rw [b_Hb_chainWith_37, if_pos (show (21 : Int32) ≤ nI 21 from by decide)], frG.rf⟩
  | succ k ih =>
    intro n j x hj hn hX
    obtain ⟨n, rfl⟩ : ∃ m, n = m + 1 := ⟨n - 1, by omega⟩
    have hm : gW sub to j A h ≤ 1000 := mn_le _ _
    have hstep : gW sub to (j + 1) A h = min (gW sub to j A h) (if j = ha (ls A h) then 1000 else (rideA j h A).1 + (if j = to then 0 else sub j (rideA j h A).2)) := rfl
    rw [b_Hb_chainWith_37, show (21 : Int32) = nI 21 from rfl]
    simp only [n_le (show 21 < 2147483648 by omega) (show j < 2147483648 by omega), n_eq (show j < 2147483648 by omega) (show ha (ls A h) < 2147483648 by omega), n_eq (show j < 2147483648 by omega) (show to < 2147483648 by omega)]
    rw [if_neg (by omega)]
    by_cases c : j = ha (ls A h)
    · obtain ⟨x', e, f⟩ := ih n (j + 1) x (by omega) (by omega) hX
      refine ⟨x', ?_, f⟩
      rw [hstep, if_pos c, Nat.min_eq_left hm] at e
      rw [if_pos c, b_Hb_chainWith_108, show nI j + 1 = nI (j + 1) from n_add j 1]
      exact e
    · rw [if_neg c] at hstep
      rw [if_neg c]
      obtain ⟨x1, e1, a1, f1⟩ := la_become_n (o := 12 + (D + 1)) (o1 := 12 + D) (x := x) (by omega) (by omega) (by omega) hX h7
      obtain ⟨x2, e2, a2, f2⟩ := la_ride_n (o := 12 + (D + 1)) (by omega) a1 hV hl (show j ≤ 20 by omega)
      have fG : frG (D + 1) x x2 := (f1.G (by omega)).tr (f2.G (by omega))
      have hd := ride_le hV hl (show j ≤ 20 by omega)
      have hVr := rideA_V (y := j) (by omega) hV hl
      rw [gI_n (by omega) (by omega), lid_n (by omega), e1, bd_s]
      dsimp only
      rw [e2, bd_s]
      dsimp only
      by_cases c2 : j = to
      · rw [if_pos c2] at hstep
        obtain ⟨x', e, f⟩ := ih n (j + 1) x2 (by omega) (by omega) (LnX_G hX h7 fG (by omega) (by omega))
        refine ⟨x', ?_, fG.tr f⟩
        rw [hstep] at e
        rw [if_pos c2, b_Hb_chainWith_96, b_Hb_chainWith_108, show (0 : Int32) = nI 0 from rfl, n_add, min_n (by omega) (by omega), show nI j + 1 = nI (j + 1) from n_add j 1]
        exact e
      · rw [if_neg c2] at hstep
        obtain ⟨x3, e3, f3⟩ := hs j x2 _ (by omega) a2 hVr
        have fG3 : frG (D + 1) x x3 := fG.tr (f3.le (by omega))
        obtain ⟨x', e, f⟩ := ih n (j + 1) x3 (by omega) (by omega) (LnX_G hX h7 fG3 (by omega) (by omega))
        refine ⟨x', ?_, fG3.tr f⟩
        have hb := hs1 j (rideA j h A).2
        rw [hstep] at e
        rw [if_neg c2, show nI D + 1 = nI (D + 1) from n_add D 1, e3, bd_s, b_Hb_chainWith_96, b_Hb_chainWith_108, n_add, min_n (by omega) (by omega), show nI j + 1 = nI (j + 1) from n_add j 1]
        exact e
theorem xw_n {cw : Int32 → Int32 → Int32 → Int32 → XD → Option (Int32 × XD)} {sub : Nat → Ld → Nat} {used : Int32} {D h to : Nat} {A : Ld} {x : XD} (hD : D < 3) (hV : VA A) (hl : h < ln A) (hto : to ≤ 20) (hs1 : ∀ y A', sub y A' ≤ 1000) (hs : ∀ y x A', y ≤ 20 → LnX x (12 + (D + 1)) A' → VA A' → ∃ x', f_Hb_chainOn cw (nI (D + 1)) (nI y) (nI to) used x = some (nI (sub y A'), x') ∧ frG (D + 2) x x') (hX : LnX x (12 + D) A) : ∃ x', f_Hb_chainWith_b cw (nI D) (nI h) (nI to) used x = some (nI (gW sub to 21 A h), x') ∧ frG (D + 1) x x' := by
  have h7 := hV.1
  obtain ⟨x', e, f⟩ := xw_l hD hV hl hto hs1 hs 21 fu 0 x (by omega) (by decide) hX
  refine ⟨x', ?_, f⟩
  have es : x (sid (12 + D) (nI h)) 3 = nI (ha (ls A h)) := by
    rw [sid_n (by omega)]
    exact (hX.2.2.2 h hl).2.2.2.1
  unfold f_Hb_chainWith_b
  rw [show (3 : Int32) = nI 3 from rfl, if_pos (by rw [n_lt (by omega) (by omega)]; exact hD), show nI D + 1 = nI (D + 1) from n_add D 1, gI_n (by omega) (by omega), gI_n (by omega) (by omega), gI_n (by omega) (by omega), lid_n (by omega), lid_n (by omega), es]
  exact e
theorem xo_n {cw : Int32 → Int32 → Int32 → Int32 → XD → Option (Int32 × XD)} {w : Nat → Nat} {used : Int32} {D frm to : Nat} {A : Ld} (hD : D < 4) (hV : VA A) (hf : frm ≤ 20) (hw1 : ∀ c, w c ≤ 1000) (hw : ∀ c x, c < ln A → LnX x (12 + D) A → ∃ x', cw (nI D) (nI c) (nI to) (used ||| (1 <<< (nI c &&& 31))) x = some (nI (w c), x') ∧ frG (D + 1) x x') : ∀ (k n j : Nat) (x : XD), j + k = ln A → k < n → LnX x (12 + D) A → ∃ x', b_Hb_chainOn_13 cw (nI D) (nI frm) (nI to) used (12 + D) n (nI (mn (fun c => if frU used c ∧ ha (ls A c) = frm then w c else 1000) j)) (nI j) x = some (nI (gO w used frm A), x') ∧ frG (D + 1) x x' := by
  have h7 := hV.1
  intro k
  induction k with
  | zero =>
    intro n j x hj hn hX
    obtain ⟨n, rfl⟩ : ∃ m, n = m + 1 := ⟨n - 1, by omega⟩
    refine ⟨x, ?_, frG.rf⟩
    rw [b_Hb_chainOn_13, hX.1, if_pos (nI_le (by omega) (by omega)), show j = ln A by omega]
    rfl
  | succ k ih =>
    intro n j x hj hn hX
    obtain ⟨n, rfl⟩ : ∃ m, n = m + 1 := ⟨n - 1, by omega⟩
    have h4 := (hV.2.2 j (by omega)).2.2.2.1
    have hm := mn_le (fun c => if frU used c ∧ ha (ls A c) = frm then w c else 1000) j
    have hwj := hw1 j
    have hstep : mn (fun c => if frU used c ∧ ha (ls A c) = frm then w c else 1000) (j + 1) = min (mn (fun c => if frU used c ∧ ha (ls A c) = frm then w c else 1000) j) (if frU used j ∧ ha (ls A j) = frm then w j else 1000) := rfl
    have es : x (sid (12 + D) (nI j)) 3 = nI (ha (ls A j)) := by
      rw [sid_n (by omega)]
      exact (hX.2.2.2 j (by omega)).2.2.2.1
    have skip : (¬ (frU used j ∧ ha (ls A j) = frm)) → ∃ x', b_Hb_chainOn_70 cw (b_Hb_chainOn_13 cw (nI D) (nI frm) (nI to) used (12 + D) n) (nI D) (nI frm) (nI to) used (nI (mn (fun c => if frU used c ∧ ha (ls A c) = frm then w c else 1000) j)) (12 + D) (nI j) x = some (nI (gO w used frm A), x') ∧ frG (D + 1) x x' := fun hn' => by
      obtain ⟨x', e, f⟩ := ih n (j + 1) x (by omega) (by omega) hX
      refine ⟨x', ?_, f⟩
      rw [hstep, if_neg hn', Nat.min_eq_left hm] at e
      rw [b_Hb_chainOn_70, show nI j + 1 = nI (j + 1) from n_add j 1]
      exact e
    rw [b_Hb_chainOn_13, hX.1]
    simp only [n_le (show ln A < 2147483648 by omega) (show j < 2147483648 by omega)]
    rw [if_neg (by omega)]
    by_cases c : frU used j
    · rw [if_pos c, gI_n (by omega) (by omega)]
      by_cases c2 : ha (ls A j) = frm
      · rw [if_pos (show x (sid (12 + D) (nI j)) 3 = nI frm from by rw [es, c2])]
        obtain ⟨x1, e1, f1⟩ := hw j x (by omega) hX
        obtain ⟨x', e, f⟩ := ih n (j + 1) x1 (by omega) (by omega) (LnX_G hX h7 f1 (by omega) hD)
        refine ⟨x', ?_, f1.tr f⟩
        rw [hstep, if_pos ⟨c, c2⟩] at e
        rw [e1, bd_s, b_Hb_chainOn_70, min_n (by omega) (by omega), show nI j + 1 = nI (j + 1) from n_add j 1]
        exact e
      · rw [if_neg (show ¬ x (sid (12 + D) (nI j)) 3 = nI frm from by rw [es, n_eq (by omega) (by omega)]; exact c2)]
        exact skip (fun z => c2 z.2)
    · rw [if_neg c]
      exact skip (fun z => c z.1)
theorem xo_f {cw : Int32 → Int32 → Int32 → Int32 → XD → Option (Int32 × XD)} {w : Nat → Nat} {used : Int32} {D frm to : Nat} {A : Ld} {x : XD} (hD : D < 4) (hV : VA A) (hf : frm ≤ 20) (hw1 : ∀ c, w c ≤ 1000) (hw : ∀ c x, c < ln A → LnX x (12 + D) A → ∃ x', cw (nI D) (nI c) (nI to) (used ||| (1 <<< (nI c &&& 31))) x = some (nI (w c), x') ∧ frG (D + 1) x x') (hX : LnX x (12 + D) A) : ∃ x', f_Hb_chainOn cw (nI D) (nI frm) (nI to) used x = some (nI (gO w used frm A), x') ∧ frG (D + 1) x x' := by
  obtain ⟨x', e, f⟩ := xo_n hD hV hf hw1 hw (ln A) fu 0 x (by omega) (by have := hV.1; show ln A < 1000; omega) hX
  refine ⟨x', ?_, f⟩
  unfold f_Hb_chainOn
  rw [gI_n (by omega) (by omega), lid_n hD]
  exact e
abbrev ub (used : Int32) (c : Nat) : Int32 := used ||| (1 <<< (nI c &&& 31))
/-- the class's chains, deeper and deeper -/
def xO3 (used : Int32) (y : Nat) (A : Ld) : Nat := gO (fun _ => 1000) used y A
def xW2 (to : Nat) (used : Int32) (A : Ld) (c : Nat) : Nat := gW (xO3 used) to 21 A c
def xO2 (to : Nat) (used : Int32) (y : Nat) (A : Ld) : Nat := gO (fun c => xW2 to (ub used c) A c) used y A
def xW1 (to : Nat) (used : Int32) (A : Ld) (b : Nat) : Nat := gW (xO2 to used) to 21 A b
def xO1 (to : Nat) (used : Int32) (y : Nat) (A : Ld) : Nat := gO (fun b => xW1 to (ub used b) A b) used y A
def xW0 (to : Nat) (used : Int32) (A : Ld) (a : Nat) : Nat := gW (xO1 to used) to 21 A a
theorem x_O3 {used : Int32} {y to : Nat} {x : XD} {A : Ld} (hy : y ≤ 20) (hX : LnX x (12 + 3) A) (hV : VA A) : ∃ x', f_Hb_chainOn (f_Hb_chainWith 1) (nI 3) (nI y) (nI to) used x = some (nI (xO3 used y A), x') ∧ frG 4 x x' :=
  xo_f (D := 3) (w := fun _ => 1000) (by omega) hV hy (fun _ => Nat.le_refl _) (fun c x _ _ => ⟨x, rfl, frG.rf⟩) hX
theorem x_W2 {used : Int32} {c to : Nat} {x : XD} {A : Ld} (hto : to ≤ 20) (hX : LnX x (12 + 2) A) (hV : VA A) (hl : c < ln A) : ∃ x', f_Hb_chainWith 2 (nI 2) (nI c) (nI to) used x = some (nI (xW2 to used A c), x') ∧ frG 3 x x' :=
  xw_n (D := 2) (cw := f_Hb_chainWith 1) (sub := xO3 used) (by omega) hV hl hto (fun _ _ => mn_le _ _) (fun y x A' hy hX' hV' => x_O3 hy hX' hV') hX
theorem x_O2 {used : Int32} {y to : Nat} {x : XD} {A : Ld} (hy : y ≤ 20) (hto : to ≤ 20) (hX : LnX x (12 + 2) A) (hV : VA A) : ∃ x', f_Hb_chainOn (f_Hb_chainWith 2) (nI 2) (nI y) (nI to) used x = some (nI (xO2 to used y A), x') ∧ frG 3 x x' :=
  xo_f (D := 2) (w := fun c => xW2 to (ub used c) A c) (by omega) hV hy (fun _ => mn_le _ _) (fun c x hc hX' => x_W2 hto hX' hV hc) hX
theorem x_W1 {used : Int32} {c to : Nat} {x : XD} {A : Ld} (hto : to ≤ 20) (hX : LnX x (12 + 1) A) (hV : VA A) (hl : c < ln A) : ∃ x', f_Hb_chainWith 3 (nI 1) (nI c) (nI to) used x = some (nI (xW1 to used A c), x') ∧ frG 2 x x' :=
  xw_n (D := 1) (cw := f_Hb_chainWith 2) (sub := xO2 to used) (by omega) hV hl hto (fun _ _ => mn_le _ _) (fun y x A' hy hX' hV' => x_O2 hy hto hX' hV') hX
theorem x_O1 {used : Int32} {y to : Nat} {x : XD} {A : Ld} (hy : y ≤ 20) (hto : to ≤ 20) (hX : LnX x (12 + 1) A) (hV : VA A) : ∃ x', f_Hb_chainOn (f_Hb_chainWith 3) (nI 1) (nI y) (nI to) used x = some (nI (xO1 to used y A), x') ∧ frG 2 x x' :=
  xo_f (D := 1) (w := fun c => xW1 to (ub used c) A c) (by omega) hV hy (fun _ => mn_le _ _) (fun c x hc hX' => x_W1 hto hX' hV hc) hX
theorem x_W0 {used : Int32} {c to : Nat} {x : XD} {A : Ld} (hto : to ≤ 20) (hX : LnX x (12 + 0) A) (hV : VA A) (hl : c < ln A) : ∃ x', f_Hb_chainWith 4 (nI 0) (nI c) (nI to) used x = some (nI (xW0 to used A c), x') ∧ frG 1 x x' :=
  xw_n (D := 0) (cw := f_Hb_chainWith 3) (sub := xO1 to used) (by omega) hV hl hto (fun _ _ => mn_le _ _) (fun y x A' hy hX' hV' => x_O1 hy hto hX' hV') hX

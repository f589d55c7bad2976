def f_Hb_isWithin (v0 : Int32) (v1 : Int32) (v2 : Int32) (x : XD) : Option (Int32 × XD) := (if v0 < v1 then some (0, x) else (if v2 < v0 then some (0, x) else some (1, x)))
theorem m_Hb_isWithin {g : GC} (hg : gOk g) (l : Launch)  (v0 : Int32) (v1 : Int32) (v2 : Int32) (x : XD) (z : ZD) (r : Int32 × XD) (h : f_Hb_isWithin v0 v1 v2 x = some r) : Mi g l y_Hb_isWithin c_Hb_isWithin 3 (some .boolean) 0 [.int v0, .int v1, .int v2] (x, z) r.1 (r.2, z) := by
  refine m_i hg pn_Hb rfl fun X q C => ?_
  refine k_sub (lv' := [(0, .int v0), (1, .int v1), (2, .int v2)]) [0, 1, 2] rfl ?_
  unfold f_Hb_isWithin at h
  refine k_iload_n C d_Hb_isWithin_0 0 rfl ?_
  refine k_iload_n C d_Hb_isWithin_1 1 rfl ?_
  refine k_icmp_lt C 14 d_Hb_isWithin_2 (by decide) (fun c1 => ?_) (fun c1 => ?_)
  · have h := (if_pos c1).symm.trans h
    refine k_iconst C 0 d_Hb_isWithin_14 ic_0 ?_
    obtain rfl := Option.some.inj h
    exact k_zret C q (Or.inl rfl) d_Hb_isWithin_15
  · have h := (if_neg c1).symm.trans h
    refine k_iload_n C d_Hb_isWithin_5 0 rfl ?_
    refine k_iload_n C d_Hb_isWithin_6 2 rfl ?_
    refine k_icmp_gt C 14 d_Hb_isWithin_7 (by decide) (fun c2 => ?_) (fun c2 => ?_)
    · have h := (if_pos c2).symm.trans h
      refine k_iconst C 0 d_Hb_isWithin_14 ic_0 ?_
      obtain rfl := Option.some.inj h
      exact k_zret C q (Or.inl rfl) d_Hb_isWithin_15
    · have h := (if_neg c2).symm.trans h
      refine k_iconst C 1 d_Hb_isWithin_10 ic_1 ?_
      refine k_goto C 15 d_Hb_isWithin_11 (by decide) ?_
      obtain rfl := Option.some.inj h
      exact k_zret C q (Or.inr rfl) d_Hb_isWithin_15

def b_La_allLonging_4 (o0 : Nat) : Nat → Int32 → Int32 → XD → Option (Int32 × XD)
  | 0, _, _, _ => none
  | n + 1, v1, v2, x => (if x o0 2 ≤ v2 then some (v1, x) else gI v2 7 (b_La_allLonging_4 o0 n (v1 + (x (sid o0 v2) 4)) (v2 + 1) x))
theorem t_La_allLonging_4 {g : GC} {X : MX} (C : Cx g X c_La_allLonging 3 n_La 0) {r : Int32 × XD} {z : ZD} (q : RtI g X (some .int) r.1 (r.2, z)) (o0 : Nat) (h_o0 : 10 ≤ o0 ∧ o0 < 16) : ∀ (n : Nat) (v1 : Int32) (v2 : Int32) (x : XD) (h : b_La_allLonging_4 o0 n v1 v2 x = some r), Wk g X 3 4 [(0, .ref (g_a g o0)), (1, .int v1), (2, .int v2)] [] (x, z) := by
  intro n
  induction n with
  | zero =>
    intro v1 v2 x h
    rw [b_La_allLonging_4] at h
    cases h
  | succ n ih =>
    intro v1 v2 x h
    rw [b_La_allLonging_4] at h
    refine k_iload_n C d_La_allLonging_4 2 rfl ?_
    refine k_aload_n C d_La_allLonging_5 0 rfl ?_
    refine kg_La_24 C h_o0 d_La_allLonging_6 ?_
    refine k_icmp_ge C 30 d_La_allLonging_9 (by decide) (fun c1 => ?_) (fun c1 => ?_)
    · have h := (if_pos c1).symm.trans h
      refine k_iload_n C d_La_allLonging_30 1 rfl ?_
      obtain rfl := Option.some.inj h
      exact k_iret C q d_La_allLonging_31
    · have h := (if_neg c1).symm.trans h
      refine k_iload_n C d_La_allLonging_12 1 rfl ?_
      refine k_aload_n C d_La_allLonging_13 0 rfl ?_
      refine kg_La_17 C h_o0 d_La_allLonging_14 ?_
      refine k_iload_n C d_La_allLonging_17 2 rfl ?_
      obtain ⟨i2, h⟩ := gI_some h
      refine k_aald_St C h_o0 i2 d_La_allLonging_18 ?_
      refine kg_La_51 C (sid_ok h_o0 i2) d_La_allLonging_19 ?_
      refine k_iadd C d_La_allLonging_22 ?_
      refine k_istore_n C (lv' := [(1, .int (v1 + (x (sid o0 v2) 4))), (0, .ref (g_a g o0)), (2, .int v2)]) d_La_allLonging_23 rfl rfl ?_
      refine k_inc C (lv' := [(2, .int (v2 + 1)), (1, .int (v1 + (x (sid o0 v2) 4))), (0, .ref (g_a g o0))]) d_La_allLonging_24 2 rfl ic_1 rfl rfl ?_
      refine k_goto C 4 d_La_allLonging_27 (by decide) ?_
      exact k_sub [2, 1, 0] rfl (ih (v1 + (x (sid o0 v2) 4)) (v2 + 1) x h)

def f_La_allLonging (o0 : Nat) (x : XD) : Option (Int32 × XD) := b_La_allLonging_4 o0 fu 0 0 x
theorem m_La_allLonging {g : GC} (hg : gOk g) (l : Launch)  (o0 : Nat) (h_o0 : 10 ≤ o0 ∧ o0 < 16) (x : XD) (z : ZD) (r : Int32 × XD) (h : f_La_allLonging o0 x = some r) : Mi g l y_La_allLonging c_La_allLonging 3 (some .int) 0 [.ref (g_a g o0)] (x, z) r.1 (r.2, z) := by
  refine m_i hg pn_La rfl fun X q C => ?_
  refine k_sub (lv' := [(0, .ref (g_a g o0))]) [0] rfl ?_
  unfold f_La_allLonging at h
  refine k_iconst C 0 d_La_allLonging_0 ic_0 ?_
  refine k_istore_n C (lv' := [(1, .int 0), (0, .ref (g_a g o0))]) d_La_allLonging_1 rfl rfl ?_
  refine k_iconst C 0 d_La_allLonging_2 ic_0 ?_
  refine k_istore_n C (lv' := [(2, .int 0), (1, .int 0), (0, .ref (g_a g o0))]) d_La_allLonging_3 rfl rfl ?_
  exact k_sub [2, 1, 0] rfl (t_La_allLonging_4 C q o0 h_o0 fu 0 0 x h)

def f_La_followLonging (o0 : Nat) (v1 : Int32) (v2 : Int32) (x : XD) : Option (Int32 × XD) := (if v1 < x o0 2 then gI v1 7 (lt (x_up x (sid o0 v1) 4 v2) fun (x3 : XD) => some (1, x3)) else some (0, x))
theorem m_La_followLonging {g : GC} (hg : gOk g) (l : Launch)  (o0 : Nat) (h_o0 : 10 ≤ o0 ∧ o0 < 16) (v1 : Int32) (v2 : Int32) (x : XD) (z : ZD) (r : Int32 × XD) (h : f_La_followLonging o0 v1 v2 x = some r) : Mi g l y_La_followLonging c_La_followLonging 3 (some .boolean) 0 [.ref (g_a g o0), .int v1, .int v2] (x, z) r.1 (r.2, z) := by
  refine m_i hg pn_La rfl fun X q C => ?_
  refine k_sub (lv' := [(0, .ref (g_a g o0)), (1, .int v1), (2, .int v2)]) [0, 1, 2] rfl ?_
  unfold f_La_followLonging at h
  refine k_iload_n C d_La_followLonging_0 1 rfl ?_
  refine k_aload_n C d_La_followLonging_1 0 rfl ?_
  refine kg_La_24 C h_o0 d_La_followLonging_2 ?_
  refine k_icmp_lt C 10 d_La_followLonging_5 (by decide) (fun c1 => ?_) (fun c1 => ?_)
  · have h := (if_pos c1).symm.trans h
    refine k_aload_n C d_La_followLonging_10 0 rfl ?_
    refine kg_La_17 C h_o0 d_La_followLonging_11 ?_
    refine k_iload_n C d_La_followLonging_14 1 rfl ?_
    obtain ⟨i2, h⟩ := gI_some h
    refine k_aald_St C h_o0 i2 d_La_followLonging_15 ?_
    refine k_iload_n C d_La_followLonging_16 2 rfl ?_
    obtain ⟨x3, ex3, h⟩ := lt_some h
    refine kp_La_51 C (sid_ok h_o0 i2) ex3 d_La_followLonging_17 ?_
    refine k_iconst C 1 d_La_followLonging_20 ic_1 ?_
    obtain rfl := Option.some.inj h
    exact k_zret C q (Or.inr rfl) d_La_followLonging_21
  · have h := (if_neg c1).symm.trans h
    refine k_iconst C 0 d_La_followLonging_8 ic_0 ?_
    obtain rfl := Option.some.inj h
    exact k_zret C q (Or.inl rfl) d_La_followLonging_9

def f_La_gets (o0 : Nat) (v1 : Int32) (v2 : Int32) (v3 : Int32) (v4 : Int32) (x : XD) : Option (Int32 × XD) := (if x o0 2 < 7 then gI (x o0 2) 7 (lt (x_up x (sid o0 (x o0 2)) 0 v1) fun (x3 : XD) => lt (x_up x3 (sid o0 (x o0 2)) 1 v2) fun (x4 : XD) => lt (x_up x4 (sid o0 (x o0 2)) 2 v3) fun (x5 : XD) => lt (x_up x5 (sid o0 (x o0 2)) 3 v4) fun (x6 : XD) => lt (x_up x6 (sid o0 (x o0 2)) 4 0) fun (x7 : XD) => lt (x_up x7 o0 2 ((x7 o0 2) + 1)) fun (x8 : XD) => some (1, x8)) else some (0, x))
theorem m_La_gets {g : GC} (hg : gOk g) (l : Launch)  (o0 : Nat) (h_o0 : 10 ≤ o0 ∧ o0 < 16) (v1 : Int32) (v2 : Int32) (v3 : Int32) (v4 : Int32) (x : XD) (z : ZD) (r : Int32 × XD) (h : f_La_gets o0 v1 v2 v3 v4 x = some r) : Mi g l y_La_gets c_La_gets 6 (some .boolean) 0 [.ref (g_a g o0), .ref (g_a g (2 + v1.toNatClampNeg)), .int v2, .int v3, .int v4] (x, z) r.1 (r.2, z) := by
  refine m_i hg pn_La rfl fun X q C => ?_
  refine k_sub (lv' := [(0, .ref (g_a g o0)), (1, .ref (g_a g (2 + v1.toNatClampNeg))), (2, .int v2), (3, .int v3), (4, .int v4)]) [0, 1, 2, 3, 4] rfl ?_
  unfold f_La_gets at h
  refine k_aload_n C d_La_gets_0 0 rfl ?_
  refine kg_La_24 C h_o0 d_La_gets_1 ?_
  refine k_bipush C 7 d_La_gets_4 bp_7 ?_
  refine k_icmp_lt C 11 d_La_gets_6 (by decide) (fun c1 => ?_) (fun c1 => ?_)
  · have h := (if_pos c1).symm.trans h
    refine k_aload_n C d_La_gets_11 0 rfl ?_
    refine kg_La_17 C h_o0 d_La_gets_12 ?_
    refine k_aload_n C d_La_gets_15 0 rfl ?_
    refine kg_La_24 C h_o0 d_La_gets_16 ?_
    obtain ⟨i2, h⟩ := gI_some h
    refine k_aald_St C h_o0 i2 d_La_gets_19 ?_
    refine k_astore C (lv' := [(5, .ref (g_a g (sid o0 (x o0 2)))), (0, .ref (g_a g o0)), (1, .ref (g_a g (2 + v1.toNatClampNeg))), (2, .int v2), (3, .int v3), (4, .int v4)]) d_La_gets_20 rfl rfl ?_
    refine k_aload C d_La_gets_22 0 rfl ?_
    refine k_aload_n C d_La_gets_24 2 rfl ?_
    obtain ⟨x3, ex3, h⟩ := lt_some h
    refine kp_La_38 C (sid_ok h_o0 i2) ex3 d_La_gets_25 ?_
    refine k_aload C d_La_gets_28 0 rfl ?_
    refine k_iload_n C d_La_gets_30 3 rfl ?_
    obtain ⟨x4, ex4, h⟩ := lt_some h
    refine kp_La_42 C (sid_ok h_o0 i2) ex4 d_La_gets_31 ?_
    refine k_aload C d_La_gets_34 0 rfl ?_
    refine k_iload_n C d_La_gets_36 4 rfl ?_
    obtain ⟨x5, ex5, h⟩ := lt_some h
    refine kp_La_45 C (sid_ok h_o0 i2) ex5 d_La_gets_37 ?_
    refine k_aload C d_La_gets_40 0 rfl ?_
    refine k_iload C d_La_gets_42 5 rfl ?_
    obtain ⟨x6, ex6, h⟩ := lt_some h
    refine kp_La_48 C (sid_ok h_o0 i2) ex6 d_La_gets_44 ?_
    refine k_aload C d_La_gets_47 0 rfl ?_
    refine k_iconst C 0 d_La_gets_49 ic_0 ?_
    obtain ⟨x7, ex7, h⟩ := lt_some h
    refine kp_La_51 C (sid_ok h_o0 i2) ex7 d_La_gets_50 ?_
    refine k_aload_n C d_La_gets_53 1 rfl ?_
    refine k_dup C d_La_gets_54 rfl ?_
    refine kg_La_24 C h_o0 d_La_gets_55 ?_
    refine k_iconst C 1 d_La_gets_58 ic_1 ?_
    refine k_iadd C d_La_gets_59 ?_
    obtain ⟨x8, ex8, h⟩ := lt_some h
    refine kp_La_24 C h_o0 ex8 d_La_gets_60 ?_
    refine k_iconst C 1 d_La_gets_63 ic_1 ?_
    obtain rfl := Option.some.inj h
    exact k_zret C q (Or.inr rfl) d_La_gets_64
  · have h := (if_neg c1).symm.trans h
    refine k_iconst C 0 d_La_gets_9 ic_0 ?_
    obtain rfl := Option.some.inj h
    exact k_zret C q (Or.inl rfl) d_La_gets_10

def f_La_hasDays (o0 : Nat) (v1 : Int32) (x : XD) : Option (Int32 × XD) := (if 999 < (x o0 4) + v1 then some (0, x) else some (1, x))
theorem m_La_hasDays {g : GC} (hg : gOk g) (l : Launch)  (o0 : Nat) (h_o0 : 10 ≤ o0 ∧ o0 < 16) (v1 : Int32) (x : XD) (z : ZD) (r : Int32 × XD) (h : f_La_hasDays o0 v1 x = some r) : Mi g l y_La_hasDays c_La_hasDays 2 (some .boolean) 0 [.ref (g_a g o0), .int v1] (x, z) r.1 (r.2, z) := by
  refine m_i hg pn_La rfl fun X q C => ?_
  refine k_sub (lv' := [(0, .ref (g_a g o0)), (1, .int v1)]) [0, 1] rfl ?_
  unfold f_La_hasDays at h
  refine k_aload_n C d_La_hasDays_0 0 rfl ?_
  refine kg_La_31 C h_o0 d_La_hasDays_1 ?_
  refine k_iload_n C d_La_hasDays_4 1 rfl ?_
  refine k_iadd C d_La_hasDays_5 ?_
  refine k_sipush C 999 d_La_hasDays_6 sp_999 ?_
  refine k_icmp_gt C 16 d_La_hasDays_9 (by decide) (fun c1 => ?_) (fun c1 => ?_)
  · have h := (if_pos c1).symm.trans h
    refine k_iconst C 0 d_La_hasDays_16 ic_0 ?_
    obtain rfl := Option.some.inj h
    exact k_zret C q (Or.inl rfl) d_La_hasDays_17
  · have h := (if_neg c1).symm.trans h
    refine k_iconst C 1 d_La_hasDays_12 ic_1 ?_
    refine k_goto C 17 d_La_hasDays_13 (by decide) ?_
    obtain rfl := Option.some.inj h
    exact k_zret C q (Or.inr rfl) d_La_hasDays_17

def f_Sh_digit (o0 : Nat) (v1 : Int32) (x : XD) : Option (Int32 × XD) := gI v1 100 (some ((x (o0 + 8) v1.toNatClampNeg) - 48, x))
theorem m_Sh_digit {g : GC} (hg : gOk g) (l : Launch)  (o0 : Nat) (h_o0 : 67 ≤ o0 ∧ o0 < 75) (v1 : Int32) (x : XD) (z : ZD) (r : Int32 × XD) (h : f_Sh_digit o0 v1 x = some r) : Mi g l y_Sh_digit c_Sh_digit 2 (some .int) 0 [.ref (g_a g o0), .int v1] (x, z) r.1 (r.2, z) := by
  refine m_i hg pn_Sh rfl fun X q C => ?_
  refine k_sub (lv' := [(0, .ref (g_a g o0)), (1, .int v1)]) [0, 1] rfl ?_
  unfold f_Sh_digit at h
  refine k_aload_n C d_Sh_digit_0 0 rfl ?_
  refine kg_Sh_19 C h_o0 d_Sh_digit_1 ?_
  refine k_iload_n C d_Sh_digit_4 1 rfl ?_
  obtain ⟨i1, h⟩ := gI_some h
  refine k_ialdE C h_o0 i1 d_Sh_digit_5 ?_
  refine k_bipush C 48 d_Sh_digit_6 bp_48 ?_
  refine k_isub C d_Sh_digit_8 ?_
  obtain rfl := Option.some.inj h
  exact k_iret C q d_Sh_digit_9

def b_Sh_getRow_17 (o0 : Nat) : Nat → Int32 → XD → Option (Unit × XD)
  | 0, _, _ => none
  | n + 1, v3, x => (if 100 ≤ v3 then some ((), x) else gI v3 100 (lt (x_up x (o0 + 8) v3.toNatClampNeg 0) fun (x2 : XD) => b_Sh_getRow_17 o0 n (v3 + 1) x2))
theorem t_Sh_getRow_17 {g : GC} {X : MX} (C : Cx g X c_Sh_getRow 4 n_Sh 0) {r : Unit × XD} {z : ZD} (q : RtV g X none (r.2, z)) (o0 : Nat) (h_o0 : 67 ≤ o0 ∧ o0 < 75) : ∀ (n : Nat) (v3 : Int32) (x : XD) (h : b_Sh_getRow_17 o0 n v3 x = some r), Wk g X 4 17 [(0, .ref (g_a g o0)), (3, .int v3)] [] (x, z) := by
  intro n
  induction n with
  | zero =>
    intro v3 x h
    rw [b_Sh_getRow_17] at h
    cases h
  | succ n ih =>
    intro v3 x h
    rw [b_Sh_getRow_17] at h
    refine k_iload_n C d_Sh_getRow_17 1 rfl ?_
    refine k_bipush C 100 d_Sh_getRow_18 bp_100 ?_
    refine k_icmp_ge C 36 d_Sh_getRow_20 (by decide) (fun c1 => ?_) (fun c1 => ?_)
    · have h := (if_pos c1).symm.trans h
      obtain rfl := Option.some.inj h
      exact k_vret C q d_Sh_getRow_36
    · have h := (if_neg c1).symm.trans h
      refine k_aload_n C d_Sh_getRow_23 0 rfl ?_
      refine kg_Sh_19 C h_o0 d_Sh_getRow_24 ?_
      refine k_iload_n C d_Sh_getRow_27 1 rfl ?_
      refine k_iconst C 0 d_Sh_getRow_28 ic_0 ?_
      obtain ⟨i3, h⟩ := gI_some h
      obtain ⟨x2, ex2, h⟩ := lt_some h
      refine k_iastE C h_o0 i3 ex2 d_Sh_getRow_29 ?_
      refine k_inc C (lv' := [(3, .int (v3 + 1)), (0, .ref (g_a g o0))]) d_Sh_getRow_30 1 rfl ic_1 rfl rfl ?_
      refine k_goto C 17 d_Sh_getRow_33 (by decide) ?_
      exact k_sub [1, 0] rfl (ih (v3 + 1) x2 h)

def f_Sh_getRow (o0 : Nat) (v1 : Int32) (v2 : Int32) (x : XD) : Option (Unit × XD) := lt (x_up x o0 0 2) fun (x1 : XD) => lt (x_up x1 o0 3 v1) fun (x2 : XD) => lt (x_up x2 o0 4 v2) fun (x3 : XD) => b_Sh_getRow_17 o0 fu 0 x3
theorem m_Sh_getRow {g : GC} (hg : gOk g) (l : Launch)  (o0 : Nat) (h_o0 : 67 ≤ o0 ∧ o0 < 75) (v1 : Int32) (v2 : Int32) (x : XD) (z : ZD) (r : Unit × XD) (h : f_Sh_getRow o0 v1 v2 x = some r) : Mv g l y_Sh_getRow c_Sh_getRow 4 none 0 [.ref (g_a g o0), .int v1, .int v2] (x, z) (r.2, z) := by
  refine m_v hg pn_Sh rfl fun X q C => ?_
  refine k_sub (lv' := [(0, .ref (g_a g o0)), (1, .int v1), (2, .int v2)]) [0, 1, 2] rfl ?_
  unfold f_Sh_getRow at h
  refine k_aload_n C d_Sh_getRow_0 0 rfl ?_
  refine k_iconst C 2 d_Sh_getRow_1 ic_2 ?_
  obtain ⟨x1, ex1, h⟩ := lt_some h
  refine kp_Sh_9 C h_o0 ex1 d_Sh_getRow_2 ?_
  refine k_aload_n C d_Sh_getRow_5 0 rfl ?_
  refine k_iload_n C d_Sh_getRow_6 1 rfl ?_
  obtain ⟨x2, ex2, h⟩ := lt_some h
  refine kp_Sh_23 C h_o0 ex2 d_Sh_getRow_7 ?_
  refine k_aload_n C d_Sh_getRow_10 0 rfl ?_
  refine k_iload_n C d_Sh_getRow_11 2 rfl ?_
  obtain ⟨x3, ex3, h⟩ := lt_some h
  refine kp_Sh_26 C h_o0 ex3 d_Sh_getRow_12 ?_
  refine k_iconst C 0 d_Sh_getRow_15 ic_0 ?_
  refine k_istore_n C (lv' := [(3, .int 0), (0, .ref (g_a g o0)), (1, .int v1), (2, .int v2)]) d_Sh_getRow_16 rfl rfl ?_
  exact k_sub [1, 0] rfl (t_Sh_getRow_17 C q o0 h_o0 fu 0 x3 h)

def f_Sh_hasPlaces (o0 : Nat) (v1 : Int32) (v2 : Int32) (x : XD) : Option (Int32 × XD) := (if v2 < 0 then some (0, x) else (if v1 < 0 then some (0, x) else (if (x o0 4) - v2 < v1 then some (0, x) else some (1, x))))
theorem m_Sh_hasPlaces {g : GC} (hg : gOk g) (l : Launch)  (o0 : Nat) (h_o0 : 67 ≤ o0 ∧ o0 < 75) (v1 : Int32) (v2 : Int32) (x : XD) (z : ZD) (r : Int32 × XD) (h : f_Sh_hasPlaces o0 v1 v2 x = some r) : Mi g l y_Sh_hasPlaces c_Sh_hasPlaces 3 (some .boolean) 0 [.ref (g_a g o0), .int v1, .int v2] (x, z) r.1 (r.2, z) := by
  refine m_i hg pn_Sh rfl fun X q C => ?_
  refine k_sub (lv' := [(0, .ref (g_a g o0)), (1, .int v1), (2, .int v2)]) [0, 1, 2] rfl ?_
  unfold f_Sh_hasPlaces at h
  refine k_iload_n C d_Sh_hasPlaces_0 2 rfl ?_
  refine k_if_lt C 22 d_Sh_hasPlaces_1 (by decide) (fun c1 => ?_) (fun c1 => ?_)
  · have h := (if_pos c1).symm.trans h
    refine k_iconst C 0 d_Sh_hasPlaces_22 ic_0 ?_
    obtain rfl := Option.some.inj h
    exact k_zret C q (Or.inl rfl) d_Sh_hasPlaces_23
  · have h := (if_neg c1).symm.trans h
    refine k_iload_n C d_Sh_hasPlaces_4 1 rfl ?_
    refine k_if_lt C 22 d_Sh_hasPlaces_5 (by decide) (fun c2 => ?_) (fun c2 => ?_)
    · have h := (if_pos c2).symm.trans h
      refine k_iconst C 0 d_Sh_hasPlaces_22 ic_0 ?_
      obtain rfl := Option.some.inj h
      exact k_zret C q (Or.inl rfl) d_Sh_hasPlaces_23
    · have h := (if_neg c2).symm.trans h
      refine k_iload_n C d_Sh_hasPlaces_8 1 rfl ?_
      refine k_aload_n C d_Sh_hasPlaces_9 0 rfl ?_
      refine kg_Sh_26 C h_o0 d_Sh_hasPlaces_10 ?_
      refine k_iload_n C d_Sh_hasPlaces_13 2 rfl ?_
      refine k_isub C d_Sh_hasPlaces_14 ?_
      refine k_icmp_gt C 22 d_Sh_hasPlaces_15 (by decide) (fun c3 => ?_) (fun c3 => ?_)
      · have h := (if_pos c3).symm.trans h
        refine k_iconst C 0 d_Sh_hasPlaces_22 ic_0 ?_
        obtain rfl := Option.some.inj h
        exact k_zret C q (Or.inl rfl) d_Sh_hasPlaces_23
      · have h := (if_neg c3).symm.trans h
        refine k_iconst C 1 d_Sh_hasPlaces_18 ic_1 ?_
        refine k_goto C 23 d_Sh_hasPlaces_19 (by decide) ?_
        obtain rfl := Option.some.inj h
        exact k_zret C q (Or.inr rfl) d_Sh_hasPlaces_23

def f_Sh_leastOfSort (o0 : Nat) (x : XD) : Option (Int32 × XD) := (if x o0 3 = 0 then some ((-128), x) else (if x o0 3 = 1 then some ((-32768), x) else some ((-2147483648), x)))
theorem m_Sh_leastOfSort {g : GC} (hg : gOk g) (l : Launch)  (o0 : Nat) (h_o0 : 67 ≤ o0 ∧ o0 < 75) (x : XD) (z : ZD) (r : Int32 × XD) (h : f_Sh_leastOfSort o0 x = some r) : Mi g l y_Sh_leastOfSort c_Sh_leastOfSort 1 (some .int) 0 [.ref (g_a g o0)] (x, z) r.1 (r.2, z) := by
  refine m_i hg pn_Sh rfl fun X q C => ?_
  refine k_sub (lv' := [(0, .ref (g_a g o0))]) [0] rfl ?_
  unfold f_Sh_leastOfSort at h
  refine k_aload_n C d_Sh_leastOfSort_0 0 rfl ?_
  refine kg_Sh_23 C h_o0 d_Sh_leastOfSort_1 ?_
  refine k_if_ne C 10 d_Sh_leastOfSort_4 (by decide) (fun c1 => ?_) (fun c1 => ?_)
  · have h := (if_neg c1).symm.trans h
    refine k_aload_n C d_Sh_leastOfSort_10 0 rfl ?_
    refine kg_Sh_23 C h_o0 d_Sh_leastOfSort_11 ?_
    refine k_iconst C 1 d_Sh_leastOfSort_14 ic_1 ?_
    refine k_icmp_ne C 24 d_Sh_leastOfSort_15 (by decide) (fun c2 => ?_) (fun c2 => ?_)
    · have h := (if_neg c2).symm.trans h
      refine k_ldc C (-2147483648) l_684 d_Sh_leastOfSort_24 ?_
      obtain rfl := Option.some.inj h
      exact k_iret C q d_Sh_leastOfSort_26
    · have h := (if_pos c2).symm.trans h
      refine k_sipush C (-32768) d_Sh_leastOfSort_18 sp_m32768 ?_
      refine k_goto C 26 d_Sh_leastOfSort_21 (by decide) ?_
      obtain rfl := Option.some.inj h
      exact k_iret C q d_Sh_leastOfSort_26
  · have h := (if_pos c1).symm.trans h
    refine k_bipush C (-128) d_Sh_leastOfSort_7 bp_m128 ?_
    obtain rfl := Option.some.inj h
    exact k_iret C q d_Sh_leastOfSort_9

def f_Sh_set (o0 : Nat) (v1 : Int32) (v2 : Int32) (x : XD) : Option (Unit × XD) := (if x o0 3 = 0 then gI v1 100 (lt (x_up x (o0 + 8) v1.toNatClampNeg v2.toInt8.toInt32) fun (x7 : XD) => some ((), x7)) else (if x o0 3 = 1 then gI v1 100 (lt (x_up x (o0 + 8) v1.toNatClampNeg v2.toInt16.toInt32) fun (x5 : XD) => some ((), x5)) else gI v1 100 (lt (x_up x (o0 + 8) v1.toNatClampNeg v2) fun (x3 : XD) => some ((), x3))))
theorem m_Sh_set {g : GC} (hg : gOk g) (l : Launch)  (o0 : Nat) (h_o0 : 67 ≤ o0 ∧ o0 < 75) (v1 : Int32) (v2 : Int32) (x : XD) (z : ZD) (r : Unit × XD) (h : f_Sh_set o0 v1 v2 x = some r) : Mv g l y_Sh_set c_Sh_set 3 none 0 [.ref (g_a g o0), .int v1, .int v2] (x, z) (r.2, z) := by
  refine m_v hg pn_Sh rfl fun X q C => ?_
  refine k_sub (lv' := [(0, .ref (g_a g o0)), (1, .int v1), (2, .int v2)]) [0, 1, 2] rfl ?_
  unfold f_Sh_set at h
  refine k_aload_n C d_Sh_set_0 0 rfl ?_
  refine kg_Sh_23 C h_o0 d_Sh_set_1 ?_
  refine k_if_ne C 18 d_Sh_set_4 (by decide) (fun c1 => ?_) (fun c1 => ?_)
  · have h := (if_neg c1).symm.trans h
    refine k_aload_n C d_Sh_set_18 0 rfl ?_
    refine kg_Sh_23 C h_o0 d_Sh_set_19 ?_
    refine k_iconst C 1 d_Sh_set_22 ic_1 ?_
    refine k_icmp_ne C 37 d_Sh_set_23 (by decide) (fun c2 => ?_) (fun c2 => ?_)
    · have h := (if_neg c2).symm.trans h
      refine k_aload_n C d_Sh_set_37 0 rfl ?_
      refine kg_Sh_19 C h_o0 d_Sh_set_38 ?_
      refine k_iload_n C d_Sh_set_41 1 rfl ?_
      refine k_iload_n C d_Sh_set_42 2 rfl ?_
      obtain ⟨i4, h⟩ := gI_some h
      obtain ⟨x3, ex3, h⟩ := lt_some h
      refine k_iastE C h_o0 i4 ex3 d_Sh_set_43 ?_
      obtain rfl := Option.some.inj h
      exact k_vret C q d_Sh_set_44
    · have h := (if_pos c2).symm.trans h
      refine k_aload_n C d_Sh_set_26 0 rfl ?_
      refine kg_Sh_19 C h_o0 d_Sh_set_27 ?_
      refine k_iload_n C d_Sh_set_30 1 rfl ?_
      refine k_iload_n C d_Sh_set_31 2 rfl ?_
      refine k_i2s C d_Sh_set_32 ?_
      obtain ⟨i6, h⟩ := gI_some h
      obtain ⟨x5, ex5, h⟩ := lt_some h
      refine k_iastE C h_o0 i6 ex5 d_Sh_set_33 ?_
      refine k_goto C 44 d_Sh_set_34 (by decide) ?_
      obtain rfl := Option.some.inj h
      exact k_vret C q d_Sh_set_44
  · have h := (if_pos c1).symm.trans h
    refine k_aload_n C d_Sh_set_7 0 rfl ?_
    refine kg_Sh_19 C h_o0 d_Sh_set_8 ?_
    refine k_iload_n C d_Sh_set_11 1 rfl ?_
    refine k_iload_n C d_Sh_set_12 2 rfl ?_
    refine k_i2b C d_Sh_set_13 ?_
    obtain ⟨i8, h⟩ := gI_some h
    obtain ⟨x7, ex7, h⟩ := lt_some h
    refine k_iastE C h_o0 i8 ex7 d_Sh_set_14 ?_
    refine k_goto C 44 d_Sh_set_15 (by decide) ?_
    obtain rfl := Option.some.inj h
    exact k_vret C q d_Sh_set_44

def f_St_become (o0 : Nat) (o1 : Nat) (x : XD) : Option (Unit × XD) := lt (x_up x o0 0 (x o1 0)) fun (x1 : XD) => lt (x_up x1 o0 1 (x1 o1 1)) fun (x2 : XD) => lt (x_up x2 o0 2 (x2 o1 2)) fun (x3 : XD) => lt (x_up x3 o0 3 (x3 o1 3)) fun (x4 : XD) => lt (x_up x4 o0 4 (x4 o1 4)) fun (x5 : XD) => some ((), x5)
theorem m_St_become {g : GC} (hg : gOk g) (l : Launch)  (o0 : Nat) (h_o0 : 22 ≤ o0 ∧ o0 < 65) (o1 : Nat) (h_o1 : 22 ≤ o1 ∧ o1 < 65) (x : XD) (z : ZD) (r : Unit × XD) (h : f_St_become o0 o1 x = some r) : Mv g l y_St_become c_St_become 2 none 0 [.ref (g_a g o0), .ref (g_a g o1)] (x, z) (r.2, z) := by
  refine m_v hg pn_St rfl fun X q C => ?_
  refine k_sub (lv' := [(0, .ref (g_a g o0)), (1, .ref (g_a g o1))]) [0, 1] rfl ?_
  unfold f_St_become at h
  refine k_aload_n C d_St_become_0 0 rfl ?_
  refine k_aload_n C d_St_become_1 1 rfl ?_
  refine kg_St_9 C h_o1 d_St_become_2 ?_
  obtain ⟨x1, ex1, h⟩ := lt_some h
  refine kp_St_9 C h_o0 ex1 d_St_become_5 ?_
  refine k_aload_n C d_St_become_8 0 rfl ?_
  refine k_aload_n C d_St_become_9 1 rfl ?_
  refine kg_St_15 C h_o1 d_St_become_10 ?_
  obtain ⟨x2, ex2, h⟩ := lt_some h
  refine kp_St_15 C h_o0 ex2 d_St_become_13 ?_
  refine k_aload_n C d_St_become_16 0 rfl ?_
  refine k_aload_n C d_St_become_17 1 rfl ?_
  refine kg_St_19 C h_o1 d_St_become_18 ?_
  obtain ⟨x3, ex3, h⟩ := lt_some h
  refine kp_St_19 C h_o0 ex3 d_St_become_21 ?_
  refine k_aload_n C d_St_become_24 0 rfl ?_
  refine k_aload_n C d_St_become_25 1 rfl ?_
  refine kg_St_22 C h_o1 d_St_become_26 ?_
  obtain ⟨x4, ex4, h⟩ := lt_some h
  refine kp_St_22 C h_o0 ex4 d_St_become_29 ?_
  refine k_aload_n C d_St_become_32 0 rfl ?_
  refine k_aload_n C d_St_become_33 1 rfl ?_
  refine kg_St_25 C h_o1 d_St_become_34 ?_
  obtain ⟨x5, ex5, h⟩ := lt_some h
  refine kp_St_25 C h_o0 ex5 d_St_become_37 ?_
  obtain rfl := Option.some.inj h
  exact k_vret C q d_St_become_40

def f_Hb_isKind (v0 : Int32) (x : XD) : Option (Int32 × XD) := (f_Hb_isWithin v0 0 7 x).bind fun p1 => (gB p1.1 (some (p1.1, p1.2)))
theorem m_Hb_isKind {g : GC} (hg : gOk g) (l : Launch)  (v0 : Int32) (x : XD) (z : ZD) (r : Int32 × XD) (h : f_Hb_isKind v0 x = some r) : Mi g l y_Hb_isKind c_Hb_isKind 1 (some .boolean) 1 [.int v0] (x, z) r.1 (r.2, z) := by
  refine m_i hg pn_Hb rfl fun X q C => ?_
  refine k_sub (lv' := [(0, .int v0)]) [0] rfl ?_
  unfold f_Hb_isKind at h
  refine k_iload_n C d_Hb_isKind_0 0 rfl ?_
  refine k_iconst C 0 d_Hb_isKind_1 ic_0 ?_
  refine k_bipush C 7 d_Hb_isKind_2 bp_7 ?_
  obtain ⟨p1, ep1, h⟩ := bd_some h
  refine k_callSi C q_Hb_169 (fun l => m_Hb_isWithin (cx_g C) l v0 0 7 x z p1 ep1) rfl rfl (rtI_c q) rfl rfl rfl d_Hb_isKind_4 ?_
  obtain ⟨i2, h⟩ := gB_some h
  obtain rfl := Option.some.inj h
  exact k_zret C q i2 d_Hb_isKind_7

def f_Hb_isYard (v0 : Int32) (x : XD) : Option (Int32 × XD) := (f_Hb_isWithin v0 0 20 x).bind fun p1 => (gB p1.1 (some (p1.1, p1.2)))
theorem m_Hb_isYard {g : GC} (hg : gOk g) (l : Launch)  (v0 : Int32) (x : XD) (z : ZD) (r : Int32 × XD) (h : f_Hb_isYard v0 x = some r) : Mi g l y_Hb_isYard c_Hb_isYard 1 (some .boolean) 1 [.int v0] (x, z) r.1 (r.2, z) := by
  refine m_i hg pn_Hb rfl fun X q C => ?_
  refine k_sub (lv' := [(0, .int v0)]) [0] rfl ?_
  unfold f_Hb_isYard at h
  refine k_iload_n C d_Hb_isYard_0 0 rfl ?_
  refine k_iconst C 0 d_Hb_isYard_1 ic_0 ?_
  refine k_bipush C 20 d_Hb_isYard_2 bp_20 ?_
  obtain ⟨p1, ep1, h⟩ := bd_some h
  refine k_callSi C q_Hb_169 (fun l => m_Hb_isWithin (cx_g C) l v0 0 20 x z p1 ep1) rfl rfl (rtI_c q) rfl rfl rfl d_Hb_isYard_4 ?_
  obtain ⟨i2, h⟩ := gB_some h
  obtain rfl := Option.some.inj h
  exact k_zret C q i2 d_Hb_isYard_7

def b_La_become_26 (o0 : Nat) (o1 : Nat) : Nat → Int32 → XD → Option (Unit × XD)
  | 0, _, _ => none
  | n + 1, v2, x => (if x o0 2 ≤ v2 then some ((), x) else gI v2 7 (gI v2 7 ((f_St_become (sid o0 v2) (sid o1 v2) x).bind fun p4 => (b_La_become_26 o0 o1 n (v2 + 1) p4.2))))
theorem t_La_become_26 {g : GC} {X : MX} (C : Cx g X c_La_become 3 n_La 1) {r : Unit × XD} {z : ZD} (q : RtV g X none (r.2, z)) (o0 : Nat) (h_o0 : 10 ≤ o0 ∧ o0 < 16) (o1 : Nat) (h_o1 : 10 ≤ o1 ∧ o1 < 16) : ∀ (n : Nat) (v2 : Int32) (x : XD) (h : b_La_become_26 o0 o1 n v2 x = some r), Wk g X 3 26 [(0, .ref (g_a g o0)), (1, .ref (g_a g o1)), (2, .int v2)] [] (x, z) := by
  intro n
  induction n with
  | zero =>
    intro v2 x h
    rw [b_La_become_26] at h
    cases h
  | succ n ih =>
    intro v2 x h
    rw [b_La_become_26] at h
    refine k_iload_n C d_La_become_26 2 rfl ?_
    refine k_aload_n C d_La_become_27 0 rfl ?_
    refine kg_La_24 C h_o0 d_La_become_28 ?_
    refine k_icmp_ge C 55 d_La_become_31 (by decide) (fun c1 => ?_) (fun c1 => ?_)
    · have h := (if_pos c1).symm.trans h
      obtain rfl := Option.some.inj h
      exact k_vret C q d_La_become_55
    · have h := (if_neg c1).symm.trans h
      refine k_aload_n C d_La_become_34 0 rfl ?_
      refine kg_La_17 C h_o0 d_La_become_35 ?_
      refine k_iload_n C d_La_become_38 2 rfl ?_
      obtain ⟨i2, h⟩ := gI_some h
      refine k_aald_St C h_o0 i2 d_La_become_39 ?_
      refine k_aload_n C d_La_become_40 1 rfl ?_
      refine kg_La_17 C h_o1 d_La_become_41 ?_
      refine k_iload_n C d_La_become_44 2 rfl ?_
      obtain ⟨i3, h⟩ := gI_some h
      refine k_aald_St C h_o1 i3 d_La_become_45 ?_
      obtain ⟨p4, ep4, h⟩ := bd_some h
      refine k_callVv C q_La_34 (fun l => m_St_become (cx_g C) l (sid o0 v2) (sid_ok h_o0 i2) (sid o1 v2) (sid_ok h_o1 i3) x z p4 ep4) rfl rfl (rtV_c q) (lt105 (sid_ok h_o0 i2) rfl) (sh_St (sid_ok h_o0 i2)) rfl rfl rfl rfl d_La_become_46 ?_
      refine k_inc C (lv' := [(2, .int (v2 + 1)), (0, .ref (g_a g o0)), (1, .ref (g_a g o1))]) d_La_become_49 2 rfl ic_1 rfl rfl ?_
      refine k_goto C 26 d_La_become_52 (by decide) ?_
      exact k_sub [1, 2, 0] rfl (ih (v2 + 1) p4.2 h)

def f_La_become (o0 : Nat) (o1 : Nat) (x : XD) : Option (Unit × XD) := lt (x_up x o0 2 (x o1 2)) fun (x1 : XD) => lt (x_up x1 o0 3 (x1 o1 3)) fun (x2 : XD) => lt (x_up x2 o0 4 (x2 o1 4)) fun (x3 : XD) => b_La_become_26 o0 o1 fu 0 x3
theorem m_La_become {g : GC} (hg : gOk g) (l : Launch)  (o0 : Nat) (h_o0 : 10 ≤ o0 ∧ o0 < 16) (o1 : Nat) (h_o1 : 10 ≤ o1 ∧ o1 < 16) (x : XD) (z : ZD) (r : Unit × XD) (h : f_La_become o0 o1 x = some r) : Mv g l y_La_become c_La_become 3 none 1 [.ref (g_a g o0), .ref (g_a g o1)] (x, z) (r.2, z) := by
  refine m_v hg pn_La rfl fun X q C => ?_
  refine k_sub (lv' := [(0, .ref (g_a g o0)), (1, .ref (g_a g o1))]) [0, 1] rfl ?_
  unfold f_La_become at h
  refine k_aload_n C d_La_become_0 0 rfl ?_
  refine k_aload_n C d_La_become_1 1 rfl ?_
  refine kg_La_24 C h_o1 d_La_become_2 ?_
  obtain ⟨x1, ex1, h⟩ := lt_some h
  refine kp_La_24 C h_o0 ex1 d_La_become_5 ?_
  refine k_aload_n C d_La_become_8 0 rfl ?_
  refine k_aload_n C d_La_become_9 1 rfl ?_
  refine kg_La_28 C h_o1 d_La_become_10 ?_
  obtain ⟨x2, ex2, h⟩ := lt_some h
  refine kp_La_28 C h_o0 ex2 d_La_become_13 ?_
  refine k_aload_n C d_La_become_16 0 rfl ?_
  refine k_aload_n C d_La_become_17 1 rfl ?_
  refine kg_La_31 C h_o1 d_La_become_18 ?_
  obtain ⟨x3, ex3, h⟩ := lt_some h
  refine kp_La_31 C h_o0 ex3 d_La_become_21 ?_
  refine k_iconst C 0 d_La_become_24 ic_0 ?_
  refine k_istore_n C (lv' := [(2, .int 0), (0, .ref (g_a g o0)), (1, .ref (g_a g o1))]) d_La_become_25 rfl rfl ?_
  exact k_sub [1, 2, 0] rfl (t_La_become_26 C q o0 h_o0 o1 h_o1 fu 0 x3 h)

def f_Sh_number (o0 : Nat) (v1 : Int32) (x : XD) : Option (Int32 × XD) := (f_Sh_digit o0 v1 x).bind fun p1 => ((f_Sh_digit o0 (v1 + 1) p1.2).bind fun p2 => (some ((10 * p1.1) + p2.1, p2.2)))
theorem m_Sh_number {g : GC} (hg : gOk g) (l : Launch)  (o0 : Nat) (h_o0 : 67 ≤ o0 ∧ o0 < 75) (v1 : Int32) (x : XD) (z : ZD) (r : Int32 × XD) (h : f_Sh_number o0 v1 x = some r) : Mi g l y_Sh_number c_Sh_number 2 (some .int) 1 [.ref (g_a g o0), .int v1] (x, z) r.1 (r.2, z) := by
  refine m_i hg pn_Sh rfl fun X q C => ?_
  refine k_sub (lv' := [(0, .ref (g_a g o0)), (1, .int v1)]) [0, 1] rfl ?_
  unfold f_Sh_number at h
  refine k_bipush C 10 d_Sh_number_0 bp_10 ?_
  refine k_aload_n C d_Sh_number_2 0 rfl ?_
  refine k_iload_n C d_Sh_number_3 1 rfl ?_
  obtain ⟨p1, ep1, h⟩ := bd_some h
  refine k_callVi C q_Sh_34 (fun l => m_Sh_digit (cx_g C) l o0 h_o0 v1 x z p1 ep1) rfl rfl (rtI_c q) (lt105 h_o0 rfl) (sh_Sh h_o0) rfl rfl rfl rfl d_Sh_number_4 ?_
  refine k_imul C d_Sh_number_7 ?_
  refine k_aload_n C d_Sh_number_8 0 rfl ?_
  refine k_iload_n C d_Sh_number_9 1 rfl ?_
  refine k_iconst C 1 d_Sh_number_10 ic_1 ?_
  refine k_iadd C d_Sh_number_11 ?_
  obtain ⟨p2, ep2, h⟩ := bd_some h
  refine k_callVi C q_Sh_34 (fun l => m_Sh_digit (cx_g C) l o0 h_o0 (v1 + 1) p1.2 z p2 ep2) rfl rfl (rtI_c q) (lt105 h_o0 rfl) (sh_Sh h_o0) rfl rfl rfl rfl d_Sh_number_12 ?_
  refine k_iadd C d_Sh_number_15 ?_
  obtain rfl := Option.some.inj h
  exact k_iret C q d_Sh_number_16

def b_Sh_tells_23 (x : XD) : Option (Int32 × XD) := some (1, x)
theorem t_Sh_tells_23 {g : GC} {X : MX} (C : Cx g X c_Sh_tells 3 n_Sh 1) {r : Int32 × XD} {z : ZD} (q : RtI g X (some .boolean) r.1 (r.2, z)) (x : XD) (h : b_Sh_tells_23 x = some r) : Wk g X 3 23 [] [] (x, z) := by
  unfold b_Sh_tells_23 at h
  refine k_iconst C 1 d_Sh_tells_23 ic_1 ?_
  refine k_goto C 28 d_Sh_tells_24 (by decide) ?_
  obtain rfl := Option.some.inj h
  exact k_zret C q (Or.inr rfl) d_Sh_tells_28

def f_Sh_tells (o0 : Nat) (v1 : Int32) (v2 : Int32) (x : XD) : Option (Int32 × XD) := gI v1 100 ((if x (o0 + 8) v1.toNatClampNeg = v2 then b_Sh_tells_23 x else gI v1 100 ((f_Sh_leastOfSort o0 x).bind fun p4 => ((if x (o0 + 8) v1.toNatClampNeg = p4.1 then b_Sh_tells_23 p4.2 else some (0, p4.2))))))
theorem m_Sh_tells {g : GC} (hg : gOk g) (l : Launch)  (o0 : Nat) (h_o0 : 67 ≤ o0 ∧ o0 < 75) (v1 : Int32) (v2 : Int32) (x : XD) (z : ZD) (r : Int32 × XD) (h : f_Sh_tells o0 v1 v2 x = some r) : Mi g l y_Sh_tells c_Sh_tells 3 (some .boolean) 1 [.ref (g_a g o0), .int v1, .int v2] (x, z) r.1 (r.2, z) := by
  refine m_i hg pn_Sh rfl fun X q C => ?_
  refine k_sub (lv' := [(0, .ref (g_a g o0)), (1, .int v1), (2, .int v2)]) [0, 1, 2] rfl ?_
  unfold f_Sh_tells at h
  refine k_aload_n C d_Sh_tells_0 0 rfl ?_
  refine kg_Sh_19 C h_o0 d_Sh_tells_1 ?_
  refine k_iload_n C d_Sh_tells_4 1 rfl ?_
  obtain ⟨i1, h⟩ := gI_some h
  refine k_ialdE C h_o0 i1 d_Sh_tells_5 ?_
  refine k_iload_n C d_Sh_tells_6 2 rfl ?_
  refine k_icmp_eq C 23 d_Sh_tells_7 (by decide) (fun c2 => ?_) (fun c2 => ?_)
  · have h := (if_pos c2).symm.trans h
    exact k_sub [] rfl (t_Sh_tells_23 C q x h)
  · have h := (if_neg c2).symm.trans h
    refine k_aload_n C d_Sh_tells_10 0 rfl ?_
    refine kg_Sh_19 C h_o0 d_Sh_tells_11 ?_
    refine k_iload_n C d_Sh_tells_14 1 rfl ?_
    obtain ⟨i3, h⟩ := gI_some h
    refine k_ialdE C h_o0 i3 d_Sh_tells_15 ?_
    refine k_aload_n C d_Sh_tells_16 0 rfl ?_
    obtain ⟨p4, ep4, h⟩ := bd_some h
    refine k_callVi C q_Sh_29 (fun l => m_Sh_leastOfSort (cx_g C) l o0 h_o0 x z p4 ep4) rfl rfl (rtI_c q) (lt105 h_o0 rfl) (sh_Sh h_o0) rfl rfl rfl rfl d_Sh_tells_17 ?_
    refine k_icmp_ne C 27 d_Sh_tells_20 (by decide) (fun c5 => ?_) (fun c5 => ?_)
    · have h := (if_neg c5).symm.trans h
      refine k_iconst C 0 d_Sh_tells_27 ic_0 ?_
      obtain rfl := Option.some.inj h
      exact k_zret C q (Or.inl rfl) d_Sh_tells_28
    · have h := (if_pos c5).symm.trans h
      exact k_sub [] rfl (t_Sh_tells_23 C q p4.2 h)

def f_La_followHorse (o0 : Nat) (o1 : Nat) (v2 : Int32) (x : XD) : Option (Int32 × XD) := (f_Sh_digit o1 (v2 + 1) x).bind fun p1 => ((f_Sh_number o1 (v2 + 3) p1.2).bind fun p2 => ((f_Sh_number o1 (v2 + 5) p2.2).bind fun p3 => ((f_Hb_isKind p1.1 p3.2).bind fun p4 => ((if p4.1 = 0 then some (0, p4.2) else (f_Hb_isYard p2.1 p4.2).bind fun p6 => ((if p6.1 = 0 then some (0, p6.2) else (f_Hb_isYard p3.1 p6.2).bind fun p8 => ((if p8.1 = 0 then some (0, p8.2) else gI p1.1 8 ((f_Sh_digit o1 (v2 + 2) p8.2).bind fun p11 => ((f_La_gets o0 p1.1 p11.1 p2.1 p3.1 p11.2).bind fun p12 => ((if p12.1 = 0 then some (0, p12.2) else some (1, p12.2))))))))))))))
theorem m_La_followHorse {g : GC} (hg : gOk g) (l : Launch)  (o0 : Nat) (h_o0 : 10 ≤ o0 ∧ o0 < 16) (o1 : Nat) (h_o1 : 67 ≤ o1 ∧ o1 < 75) (v2 : Int32) (x : XD) (z : ZD) (r : Int32 × XD) (h : f_La_followHorse o0 o1 v2 x = some r) : Mi g l y_La_followHorse c_La_followHorse 6 (some .boolean) 2 [.ref (g_a g o0), .ref (g_a g o1), .int v2] (x, z) r.1 (r.2, z) := by
  refine m_i hg pn_La rfl fun X q C => ?_
  refine k_sub (lv' := [(0, .ref (g_a g o0)), (1, .ref (g_a g o1)), (2, .int v2)]) [0, 1, 2] rfl ?_
  unfold f_La_followHorse at h
  refine k_aload_n C d_La_followHorse_0 1 rfl ?_
  refine k_iload_n C d_La_followHorse_1 2 rfl ?_
  refine k_iconst C 1 d_La_followHorse_2 ic_1 ?_
  refine k_iadd C d_La_followHorse_3 ?_
  obtain ⟨p1, ep1, h⟩ := bd_some h
  refine k_callVi C q_La_73 (fun l => m_Sh_digit (cx_g C) l o1 h_o1 (v2 + 1) x z p1 ep1) rfl rfl (rtI_c q) (lt105 h_o1 rfl) (sh_Sh h_o1) rfl rfl rfl rfl d_La_followHorse_4 ?_
  refine k_istore_n C (lv' := [(3, .int p1.1), (0, .ref (g_a g o0)), (1, .ref (g_a g o1)), (2, .int v2)]) d_La_followHorse_7 rfl rfl ?_
  refine k_aload_n C d_La_followHorse_8 2 rfl ?_
  refine k_iload_n C d_La_followHorse_9 3 rfl ?_
  refine k_iconst C 3 d_La_followHorse_10 ic_3 ?_
  refine k_iadd C d_La_followHorse_11 ?_
  obtain ⟨p2, ep2, h⟩ := bd_some h
  refine k_callVi C q_La_87 (fun l => m_Sh_number (cx_g C) l o1 h_o1 (v2 + 3) p1.2 z p2 ep2) rfl rfl (rtI_c q) (lt105 h_o1 rfl) (sh_Sh h_o1) rfl rfl rfl rfl d_La_followHorse_12 ?_
  refine k_istore C (lv' := [(4, .int p2.1), (3, .int p1.1), (0, .ref (g_a g o0)), (1, .ref (g_a g o1)), (2, .int v2)]) d_La_followHorse_15 rfl rfl ?_
  refine k_aload_n C d_La_followHorse_17 3 rfl ?_
  refine k_iload_n C d_La_followHorse_18 4 rfl ?_
  refine k_iconst C 5 d_La_followHorse_19 ic_5 ?_
  refine k_iadd C d_La_followHorse_20 ?_
  obtain ⟨p3, ep3, h⟩ := bd_some h
  refine k_callVi C q_La_87 (fun l => m_Sh_number (cx_g C) l o1 h_o1 (v2 + 5) p2.2 z p3 ep3) rfl rfl (rtI_c q) (lt105 h_o1 rfl) (sh_Sh h_o1) rfl rfl rfl rfl d_La_followHorse_21 ?_
  refine k_istore C (lv' := [(5, .int p3.1), (4, .int p2.1), (3, .int p1.1), (0, .ref (g_a g o0)), (1, .ref (g_a g o1)), (2, .int v2)]) d_La_followHorse_24 rfl rfl ?_
  refine k_iload_n C d_La_followHorse_26 2 rfl ?_
  obtain ⟨p4, ep4, h⟩ := bd_some h
  refine k_callTi C q_La_110 (fun l => m_Hb_isKind (cx_g C) l p1.1 p3.2 z p4 ep4) rfl rfl (rtI_c q) rfl rfl rfl d_La_followHorse_27 ?_
  refine k_if_eq C 77 d_La_followHorse_30 (by decide) (fun c5 => ?_) (fun c5 => ?_)
  · have h := (if_pos c5).symm.trans h
    refine k_iconst C 0 d_La_followHorse_77 ic_0 ?_
    obtain rfl := Option.some.inj h
    exact k_zret C q (Or.inl rfl) d_La_followHorse_78
  · have h := (if_neg c5).symm.trans h
    refine k_iload C d_La_followHorse_33 1 rfl ?_
    obtain ⟨p6, ep6, h⟩ := bd_some h
    refine k_callTi C q_La_100 (fun l => m_Hb_isYard (cx_g C) l p2.1 p4.2 z p6 ep6) rfl rfl (rtI_c q) rfl rfl rfl d_La_followHorse_35 ?_
    refine k_if_eq C 77 d_La_followHorse_38 (by decide) (fun c7 => ?_) (fun c7 => ?_)
    · have h := (if_pos c7).symm.trans h
      refine k_iconst C 0 d_La_followHorse_77 ic_0 ?_
      obtain rfl := Option.some.inj h
      exact k_zret C q (Or.inl rfl) d_La_followHorse_78
    · have h := (if_neg c7).symm.trans h
      refine k_iload C d_La_followHorse_41 0 rfl ?_
      obtain ⟨p8, ep8, h⟩ := bd_some h
      refine k_callTi C q_La_100 (fun l => m_Hb_isYard (cx_g C) l p3.1 p6.2 z p8 ep8) rfl rfl (rtI_c q) rfl rfl rfl d_La_followHorse_43 ?_
      refine k_if_eq C 77 d_La_followHorse_46 (by decide) (fun c9 => ?_) (fun c9 => ?_)
      · have h := (if_pos c9).symm.trans h
        refine k_iconst C 0 d_La_followHorse_77 ic_0 ?_
        obtain rfl := Option.some.inj h
        exact k_zret C q (Or.inl rfl) d_La_followHorse_78
      · have h := (if_neg c9).symm.trans h
        refine k_aload_n C d_La_followHorse_49 3 rfl ?_
        refine k_aload_n C d_La_followHorse_50 3 rfl ?_
        refine kg_La_9 C h_o0 d_La_followHorse_51 ?_
        refine k_iload_n C d_La_followHorse_54 2 rfl ?_
        obtain ⟨i10, h⟩ := gI_some h
        refine k_aald_kd C i10 d_La_followHorse_55 ?_
        refine k_aload_n C d_La_followHorse_56 4 rfl ?_
        refine k_iload_n C d_La_followHorse_57 5 rfl ?_
        refine k_iconst C 2 d_La_followHorse_58 ic_2 ?_
        refine k_iadd C d_La_followHorse_59 ?_
        obtain ⟨p11, ep11, h⟩ := bd_some h
        refine k_callVi C q_La_73 (fun l => m_Sh_digit (cx_g C) l o1 h_o1 (v2 + 2) p8.2 z p11 ep11) rfl rfl (rtI_c q) (lt105 h_o1 rfl) (sh_Sh h_o1) rfl rfl rfl rfl d_La_followHorse_60 ?_
        refine k_iload C d_La_followHorse_63 1 rfl ?_
        refine k_iload C d_La_followHorse_65 0 rfl ?_
        obtain ⟨p12, ep12, h⟩ := bd_some h
        refine k_callVi C q_La_113 (fun l => m_La_gets (cx_g C) l o0 h_o0 p1.1 p11.1 p2.1 p3.1 p11.2 z p12 ep12) rfl rfl (rtI_c q) (lt105 h_o0 rfl) (sh_La h_o0) rfl rfl rfl rfl d_La_followHorse_67 ?_
        refine k_if_eq C 77 d_La_followHorse_70 (by decide) (fun c13 => ?_) (fun c13 => ?_)
        · have h := (if_pos c13).symm.trans h
          refine k_iconst C 0 d_La_followHorse_77 ic_0 ?_
          obtain rfl := Option.some.inj h
          exact k_zret C q (Or.inl rfl) d_La_followHorse_78
        · have h := (if_neg c13).symm.trans h
          refine k_iconst C 1 d_La_followHorse_73 ic_1 ?_
          refine k_goto C 78 d_La_followHorse_74 (by decide) ?_
          obtain rfl := Option.some.inj h
          exact k_zret C q (Or.inr rfl) d_La_followHorse_78

def f_La_followOats (o0 : Nat) (v1 : Int32) (x : XD) : Option (Int32 × XD) := (f_Hb_isYard v1 x).bind fun p1 => ((if p1.1 = 0 then some (0, p1.2) else lt (x_up p1.2 o0 3 v1) fun (x3 : XD) => some (1, x3)))
theorem m_La_followOats {g : GC} (hg : gOk g) (l : Launch)  (o0 : Nat) (h_o0 : 10 ≤ o0 ∧ o0 < 16) (v1 : Int32) (x : XD) (z : ZD) (r : Int32 × XD) (h : f_La_followOats o0 v1 x = some r) : Mi g l y_La_followOats c_La_followOats 2 (some .boolean) 2 [.ref (g_a g o0), .int v1] (x, z) r.1 (r.2, z) := by
  refine m_i hg pn_La rfl fun X q C => ?_
  refine k_sub (lv' := [(0, .ref (g_a g o0)), (1, .int v1)]) [0, 1] rfl ?_
  unfold f_La_followOats at h
  refine k_iload_n C d_La_followOats_0 1 rfl ?_
  obtain ⟨p1, ep1, h⟩ := bd_some h
  refine k_callTi C q_La_100 (fun l => m_Hb_isYard (cx_g C) l v1 x z p1 ep1) rfl rfl (rtI_c q) rfl rfl rfl d_La_followOats_1 ?_
  refine k_if_ne C 9 d_La_followOats_4 (by decide) (fun c2 => ?_) (fun c2 => ?_)
  · have h := (if_neg c2).symm.trans h
    refine k_aload_n C d_La_followOats_9 0 rfl ?_
    refine k_iload_n C d_La_followOats_10 1 rfl ?_
    obtain ⟨x3, ex3, h⟩ := lt_some h
    refine kp_La_28 C h_o0 ex3 d_La_followOats_11 ?_
    refine k_iconst C 1 d_La_followOats_14 ic_1 ?_
    obtain rfl := Option.some.inj h
    exact k_zret C q (Or.inr rfl) d_La_followOats_15
  · have h := (if_pos c2).symm.trans h
    refine k_iconst C 0 d_La_followOats_7 ic_0 ?_
    obtain rfl := Option.some.inj h
    exact k_zret C q (Or.inl rfl) d_La_followOats_8

def f_St_goal (o0 : Nat) (v1 : Int32) (x : XD) : Option (Int32 × XD) := (v_goal (x o0 0) (x o0 2) (x o0 3) v1 x).bind fun p1 => (some (p1.1, p1.2))
theorem m_St_goal {g : GC} (hg : gOk g) (l : Launch)  (o0 : Nat) (h_o0 : 22 ≤ o0 ∧ o0 < 65) (v1 : Int32) (x : XD) (z : ZD) (r : Int32 × XD) (h : f_St_goal o0 v1 x = some r) : Mi g l y_St_goal c_St_goal 2 (some .int) 2 [.ref (g_a g o0), .int v1] (x, z) r.1 (r.2, z) := by
  refine m_i hg pn_St rfl fun X q C => ?_
  refine k_sub (lv' := [(0, .ref (g_a g o0)), (1, .int v1)]) [0, 1] rfl ?_
  unfold f_St_goal at h
  refine k_aload_n C d_St_goal_0 0 rfl ?_
  refine kg_St_9 C h_o0 d_St_goal_1 ?_
  refine k_aload_n C d_St_goal_4 0 rfl ?_
  refine kg_St_19 C h_o0 d_St_goal_5 ?_
  refine k_aload_n C d_St_goal_8 0 rfl ?_
  refine kg_St_22 C h_o0 d_St_goal_9 ?_
  refine k_iload_n C d_St_goal_12 1 rfl ?_
  obtain ⟨p1, ep1, h⟩ := bd_some h
  refine kv_St_28 C ep1 rfl (rtI_c q) rfl d_St_goal_13 ?_
  obtain rfl := Option.some.inj h
  exact k_iret C q d_St_goal_16

def b_St_move_69 (o0 : Nat) (v1 : Int32) (v3 : Int32) (vt0 : Int32) (x : XD) : Option (Unit × XD) := lt (x_up x o0 3 ((x o0 3) + (v3 * (x_min vt0 (x_abs (v1 - (x o0 3))))))) fun (x1 : XD) => some ((), x1)
theorem t_St_move_69 {g : GC} {X : MX} (C : Cx g X c_St_move 6 n_St 2) {r : Unit × XD} {z : ZD} (q : RtV g X none (r.2, z)) (o0 : Nat) (h_o0 : 22 ≤ o0 ∧ o0 < 65) (v1 : Int32) (v3 : Int32) (vt0 : Int32) (x : XD) (h : b_St_move_69 o0 v1 v3 vt0 x = some r) : Wk g X 6 69 [(0, .ref (g_a g o0)), (1, .int v1), (3, .int v3)] [.int vt0] (x, z) := by
  unfold b_St_move_69 at h
  refine k_istore C (lv' := [(5, .int vt0), (0, .ref (g_a g o0)), (1, .int v1), (3, .int v3)]) d_St_move_69 rfl rfl ?_
  refine k_aload_n C d_St_move_71 1 rfl ?_
  refine k_dup C d_St_move_72 rfl ?_
  refine kg_St_22 C h_o0 d_St_move_73 ?_
  refine k_iload_n C d_St_move_76 3 rfl ?_
  refine k_iload C d_St_move_77 0 rfl ?_
  refine k_iload_n C d_St_move_79 2 rfl ?_
  refine k_aload_n C d_St_move_80 1 rfl ?_
  refine kg_St_22 C h_o0 d_St_move_81 ?_
  refine k_isub C d_St_move_84 ?_
  refine k_mabs C l_366 l_359 l_65 l_360 rfl rfl (rtV_c q) d_St_move_85 ?_
  refine k_mmin C l_395 l_396 l_65 l_397 rfl rfl (rtV_c q) d_St_move_88 ?_
  refine k_imul C d_St_move_91 ?_
  refine k_iadd C d_St_move_92 ?_
  obtain ⟨x1, ex1, h⟩ := lt_some h
  refine kp_St_22 C h_o0 ex1 d_St_move_93 ?_
  obtain rfl := Option.some.inj h
  exact k_vret C q d_St_move_96

def f_St_move (o0 : Nat) (v1 : Int32) (v2 : Int32) (x : XD) : Option (Unit × XD) := (f_In_compare v1 (x o0 3) x).bind fun p1 => ((v_goal (p1.2 o0 0) (p1.2 o0 2) (p1.2 o0 3) v2 p1.2).bind fun p2 => ((if p1.1 * (p2.1 - (p2.2 o0 3)) ≤ 0 then (v_walk (p2.2 o0 0) p2.2).bind fun p4 => (b_St_move_69 o0 v1 p1.1 p4.1 p4.2) else (v_pace (p2.2 o0 0) (p2.2 o0 1) (p2.2 o0 4) p2.2).bind fun p5 => (b_St_move_69 o0 v1 p1.1 (x_min p5.1 (p1.1 * (p2.1 - (p2.2 o0 3)))) p5.2))))
theorem m_St_move {g : GC} (hg : gOk g) (l : Launch)  (o0 : Nat) (h_o0 : 22 ≤ o0 ∧ o0 < 65) (v1 : Int32) (v2 : Int32) (x : XD) (z : ZD) (r : Unit × XD) (h : f_St_move o0 v1 v2 x = some r) : Mv g l y_St_move c_St_move 6 none 2 [.ref (g_a g o0), .int v1, .int v2] (x, z) (r.2, z) := by
  refine m_v hg pn_St rfl fun X q C => ?_
  refine k_sub (lv' := [(0, .ref (g_a g o0)), (1, .int v1), (2, .int v2)]) [0, 1, 2] rfl ?_
  unfold f_St_move at h
  refine k_iload_n C d_St_move_0 1 rfl ?_
  refine k_aload_n C d_St_move_1 0 rfl ?_
  refine kg_St_22 C h_o0 d_St_move_2 ?_
  obtain ⟨p1, ep1, h⟩ := bd_some h
  refine k_callSi C q_St_56 (fun l => m_In_compare (cx_g C) l v1 (x o0 3) x z p1 ep1) rfl rfl (rtV_c q) rfl rfl rfl d_St_move_5 ?_
  refine k_istore_n C (lv' := [(3, .int p1.1), (0, .ref (g_a g o0)), (1, .int v1), (2, .int v2)]) d_St_move_8 rfl rfl ?_
  refine k_iload_n C d_St_move_9 0 rfl ?_
  refine k_aload_n C d_St_move_10 1 rfl ?_
  refine kg_St_9 C h_o0 d_St_move_11 ?_
  refine k_aload_n C d_St_move_14 1 rfl ?_
  refine kg_St_19 C h_o0 d_St_move_15 ?_
  refine k_aload_n C d_St_move_18 1 rfl ?_
  refine kg_St_22 C h_o0 d_St_move_19 ?_
  refine k_iload_n C d_St_move_22 3 rfl ?_
  obtain ⟨p2, ep2, h⟩ := bd_some h
  refine kv_St_28 C ep2 rfl (rtV_c q) rfl d_St_move_23 ?_
  refine k_aload_n C d_St_move_26 1 rfl ?_
  refine kg_St_22 C h_o0 d_St_move_27 ?_
  refine k_isub C d_St_move_30 ?_
  refine k_imul C d_St_move_31 ?_
  refine k_istore C (lv' := [(4, .int (p1.1 * (p2.1 - (p2.2 o0 3)))), (3, .int p1.1), (0, .ref (g_a g o0)), (1, .int v1), (2, .int v2)]) d_St_move_32 rfl rfl ?_
  refine k_iload C d_St_move_34 0 rfl ?_
  refine k_if_le C 62 d_St_move_36 (by decide) (fun c3 => ?_) (fun c3 => ?_)
  · have h := (if_pos c3).symm.trans h
    refine k_aload_n C d_St_move_62 2 rfl ?_
    refine kg_St_9 C h_o0 d_St_move_63 ?_
    obtain ⟨p4, ep4, h⟩ := bd_some h
    refine kv_St_61 C ep4 rfl (rtV_c q) rfl d_St_move_66 ?_
    exact k_sub [2, 3, 1] rfl (t_St_move_69 C q o0 h_o0 v1 p1.1 p4.1 p4.2 h)
  · have h := (if_neg c3).symm.trans h
    refine k_aload_n C d_St_move_39 2 rfl ?_
    refine kg_St_9 C h_o0 d_St_move_40 ?_
    refine k_aload_n C d_St_move_43 2 rfl ?_
    refine kg_St_15 C h_o0 d_St_move_44 ?_
    refine k_aload_n C d_St_move_47 2 rfl ?_
    refine kg_St_25 C h_o0 d_St_move_48 ?_
    obtain ⟨p5, ep5, h⟩ := bd_some h
    refine kv_St_34 C ep5 rfl (rtV_c q) rfl d_St_move_51 ?_
    refine k_iload C d_St_move_54 0 rfl ?_
    refine k_mmin C l_395 l_396 l_65 l_397 rfl rfl (rtV_c q) d_St_move_56 ?_
    refine k_goto C 69 d_St_move_59 (by decide) ?_
    exact k_sub [2, 3, 1] rfl (t_St_move_69 C q o0 h_o0 v1 p1.1 (x_min p5.1 (p1.1 * (p2.1 - (p2.2 o0 3)))) p5.2 h)

def f_St_pace (o0 : Nat) (x : XD) : Option (Int32 × XD) := (v_pace (x o0 0) (x o0 1) (x o0 4) x).bind fun p1 => (some (p1.1, p1.2))
theorem m_St_pace {g : GC} (hg : gOk g) (l : Launch)  (o0 : Nat) (h_o0 : 22 ≤ o0 ∧ o0 < 65) (x : XD) (z : ZD) (r : Int32 × XD) (h : f_St_pace o0 x = some r) : Mi g l y_St_pace c_St_pace 1 (some .int) 2 [.ref (g_a g o0)] (x, z) r.1 (r.2, z) := by
  refine m_i hg pn_St rfl fun X q C => ?_
  refine k_sub (lv' := [(0, .ref (g_a g o0))]) [0] rfl ?_
  unfold f_St_pace at h
  refine k_aload_n C d_St_pace_0 0 rfl ?_
  refine kg_St_9 C h_o0 d_St_pace_1 ?_
  refine k_aload_n C d_St_pace_4 0 rfl ?_
  refine kg_St_15 C h_o0 d_St_pace_5 ?_
  refine k_aload_n C d_St_pace_8 0 rfl ?_
  refine kg_St_25 C h_o0 d_St_pace_9 ?_
  obtain ⟨p1, ep1, h⟩ := bd_some h
  refine kv_St_34 C ep1 rfl (rtI_c q) rfl d_St_pace_12 ?_
  obtain rfl := Option.some.inj h
  exact k_iret C q d_St_pace_15

def b_St_pine_61 (ot0 : Nat) (vt1 : Int32) (x : XD) : Option (Unit × XD) := lt (x_up x ot0 4 vt1) fun (x1 : XD) => some ((), x1)
theorem t_St_pine_61 {g : GC} {X : MX} (C : Cx g X c_St_pine 3 n_St 2) {r : Unit × XD} {z : ZD} (q : RtV g X none (r.2, z)) (ot0 : Nat) (h_ot0 : 22 ≤ ot0 ∧ ot0 < 65) (vt1 : Int32) (x : XD) (h : b_St_pine_61 ot0 vt1 x = some r) : Wk g X 3 61 [] [.int vt1, .ref (g_a g ot0)] (x, z) := by
  unfold b_St_pine_61 at h
  obtain ⟨x1, ex1, h⟩ := lt_some h
  refine kp_St_25 C h_ot0 ex1 d_St_pine_61 ?_
  obtain rfl := Option.some.inj h
  exact k_vret C q d_St_pine_64

def f_St_pine (o0 : Nat) (v1 : Int32) (x : XD) : Option (Unit × XD) := (v_goal (x o0 0) (x o0 2) (x o0 3) v1 x).bind fun p1 => ((if x_abs (p1.1 - (p1.2 o0 3)) = 0 then b_St_pine_61 o0 ((p1.2 o0 4) / 2) p1.2 else (v_pines (p1.2 o0 0) (p1.2 o0 1) (x_abs (p1.1 - (p1.2 o0 3))) p1.2).bind fun p3 => (b_St_pine_61 o0 (x_min 99 ((p1.2 o0 4) + p3.1)) p3.2)))
theorem m_St_pine {g : GC} (hg : gOk g) (l : Launch)  (o0 : Nat) (h_o0 : 22 ≤ o0 ∧ o0 < 65) (v1 : Int32) (x : XD) (z : ZD) (r : Unit × XD) (h : f_St_pine o0 v1 x = some r) : Mv g l y_St_pine c_St_pine 3 none 2 [.ref (g_a g o0), .int v1] (x, z) (r.2, z) := by
  refine m_v hg pn_St rfl fun X q C => ?_
  refine k_sub (lv' := [(0, .ref (g_a g o0)), (1, .int v1)]) [0, 1] rfl ?_
  unfold f_St_pine at h
  refine k_aload_n C d_St_pine_0 0 rfl ?_
  refine kg_St_9 C h_o0 d_St_pine_1 ?_
  refine k_aload_n C d_St_pine_4 0 rfl ?_
  refine kg_St_19 C h_o0 d_St_pine_5 ?_
  refine k_aload_n C d_St_pine_8 0 rfl ?_
  refine kg_St_22 C h_o0 d_St_pine_9 ?_
  refine k_iload_n C d_St_pine_12 1 rfl ?_
  obtain ⟨p1, ep1, h⟩ := bd_some h
  refine kv_St_28 C ep1 rfl (rtV_c q) rfl d_St_pine_13 ?_
  refine k_aload_n C d_St_pine_16 0 rfl ?_
  refine kg_St_22 C h_o0 d_St_pine_17 ?_
  refine k_isub C d_St_pine_20 ?_
  refine k_mabs C l_366 l_359 l_65 l_360 rfl rfl (rtV_c q) d_St_pine_21 ?_
  refine k_istore_n C (lv' := [(2, .int (x_abs (p1.1 - (p1.2 o0 3)))), (0, .ref (g_a g o0)), (1, .int v1)]) d_St_pine_24 rfl rfl ?_
  refine k_aload_n C d_St_pine_25 1 rfl ?_
  refine k_iload_n C d_St_pine_26 0 rfl ?_
  refine k_if_ne C 39 d_St_pine_27 (by decide) (fun c2 => ?_) (fun c2 => ?_)
  · have h := (if_neg c2).symm.trans h
    refine k_bipush C 99 d_St_pine_39 bp_99 ?_
    refine k_aload_n C d_St_pine_41 1 rfl ?_
    refine kg_St_25 C h_o0 d_St_pine_42 ?_
    refine k_aload_n C d_St_pine_45 1 rfl ?_
    refine kg_St_9 C h_o0 d_St_pine_46 ?_
    refine k_aload_n C d_St_pine_49 1 rfl ?_
    refine kg_St_15 C h_o0 d_St_pine_50 ?_
    refine k_iload_n C d_St_pine_53 0 rfl ?_
    obtain ⟨p3, ep3, h⟩ := bd_some h
    refine kv_St_46 C ep3 rfl (rtV_c q) rfl d_St_pine_54 ?_
    refine k_iadd C d_St_pine_57 ?_
    refine k_mmin C l_395 l_396 l_65 l_397 rfl rfl (rtV_c q) d_St_pine_58 ?_
    exact k_sub [] rfl (t_St_pine_61 C q o0 h_o0 (x_min 99 ((p1.2 o0 4) + p3.1)) p3.2 h)
  · have h := (if_pos c2).symm.trans h
    refine k_aload_n C d_St_pine_30 1 rfl ?_
    refine kg_St_25 C h_o0 d_St_pine_31 ?_
    refine k_iconst C 2 d_St_pine_34 ic_2 ?_
    refine k_idiv C nz_2 d_St_pine_35 ?_
    refine k_goto C 61 d_St_pine_36 (by decide) ?_
    exact k_sub [] rfl (t_St_pine_61 C q o0 h_o0 ((p1.2 o0 4) / 2) p1.2 h)

def b_La_allPace_4 (o0 : Nat) : Nat → Int32 → Int32 → XD → Option (Int32 × XD)
  | 0, _, _, _ => none
  | n + 1, v1, v2, x => (if x o0 2 ≤ v2 then some (v1, x) else gI v2 7 ((f_St_pace (sid o0 v2) x).bind fun p3 => (b_La_allPace_4 o0 n (v1 + p3.1) (v2 + 1) p3.2)))
theorem t_La_allPace_4 {g : GC} {X : MX} (C : Cx g X c_La_allPace 3 n_La 3) {r : Int32 × XD} {z : ZD} (q : RtI g X (some .int) r.1 (r.2, z)) (o0 : Nat) (h_o0 : 10 ≤ o0 ∧ o0 < 16) : ∀ (n : Nat) (v1 : Int32) (v2 : Int32) (x : XD) (h : b_La_allPace_4 o0 n v1 v2 x = some r), Wk g X 3 4 [(0, .ref (g_a g o0)), (1, .int v1), (2, .int v2)] [] (x, z) := by
  intro n
  induction n with
  | zero =>
    intro v1 v2 x h
    rw [b_La_allPace_4] at h
    cases h
  | succ n ih =>
    intro v1 v2 x h
    rw [b_La_allPace_4] at h
    refine k_iload_n C d_La_allPace_4 2 rfl ?_
    refine k_aload_n C d_La_allPace_5 0 rfl ?_
    refine kg_La_24 C h_o0 d_La_allPace_6 ?_
    refine k_icmp_ge C 30 d_La_allPace_9 (by decide) (fun c1 => ?_) (fun c1 => ?_)
    · have h := (if_pos c1).symm.trans h
      refine k_iload_n C d_La_allPace_30 1 rfl ?_
      obtain rfl := Option.some.inj h
      exact k_iret C q d_La_allPace_31
    · have h := (if_neg c1).symm.trans h
      refine k_iload_n C d_La_allPace_12 1 rfl ?_
      refine k_aload_n C d_La_allPace_13 0 rfl ?_
      refine kg_La_17 C h_o0 d_La_allPace_14 ?_
      refine k_iload_n C d_La_allPace_17 2 rfl ?_
      obtain ⟨i2, h⟩ := gI_some h
      refine k_aald_St C h_o0 i2 d_La_allPace_18 ?_
      obtain ⟨p3, ep3, h⟩ := bd_some h
      refine k_callVi C q_La_65 (fun l => m_St_pace (cx_g C) l (sid o0 v2) (sid_ok h_o0 i2) x z p3 ep3) rfl rfl (rtI_c q) (lt105 (sid_ok h_o0 i2) rfl) (sh_St (sid_ok h_o0 i2)) rfl rfl rfl rfl d_La_allPace_19 ?_
      refine k_iadd C d_La_allPace_22 ?_
      refine k_istore_n C (lv' := [(1, .int (v1 + p3.1)), (0, .ref (g_a g o0)), (2, .int v2)]) d_La_allPace_23 rfl rfl ?_
      refine k_inc C (lv' := [(2, .int (v2 + 1)), (1, .int (v1 + p3.1)), (0, .ref (g_a g o0))]) d_La_allPace_24 2 rfl ic_1 rfl rfl ?_
      refine k_goto C 4 d_La_allPace_27 (by decide) ?_
      exact k_sub [2, 1, 0] rfl (ih (v1 + p3.1) (v2 + 1) p3.2 h)

def f_La_allPace (o0 : Nat) (x : XD) : Option (Int32 × XD) := b_La_allPace_4 o0 fu 0 0 x
theorem m_La_allPace {g : GC} (hg : gOk g) (l : Launch)  (o0 : Nat) (h_o0 : 10 ≤ o0 ∧ o0 < 16) (x : XD) (z : ZD) (r : Int32 × XD) (h : f_La_allPace o0 x = some r) : Mi g l y_La_allPace c_La_allPace 3 (some .int) 3 [.ref (g_a g o0)] (x, z) r.1 (r.2, z) := by
  refine m_i hg pn_La rfl fun X q C => ?_
  refine k_sub (lv' := [(0, .ref (g_a g o0))]) [0] rfl ?_
  unfold f_La_allPace at h
  refine k_iconst C 0 d_La_allPace_0 ic_0 ?_
  refine k_istore_n C (lv' := [(1, .int 0), (0, .ref (g_a g o0))]) d_La_allPace_1 rfl rfl ?_
  refine k_iconst C 0 d_La_allPace_2 ic_0 ?_
  refine k_istore_n C (lv' := [(2, .int 0), (1, .int 0), (0, .ref (g_a g o0))]) d_La_allPace_3 rfl rfl ?_
  exact k_sub [2, 1, 0] rfl (t_La_allPace_4 C q o0 h_o0 fu 0 0 x h)

def b_La_pass_22 (K12 : Int32 → XD → Option (Unit × XD)) (o0 : Nat) (v1 : Int32) (v2 : Int32) : Nat → Int32 → XD → Option (Unit × XD)
  | 0, _, _ => none
  | n + 1, v3, x => (if v1 ≤ v3 then K12 (v2 + 1) x else gI v2 7 ((f_St_pine (sid o0 v2) (x o0 3) x).bind fun p3 => (b_La_pass_22 K12 o0 v1 v2 n (v3 + 1) p3.2)))
theorem t_La_pass_22 {g : GC} {X : MX} (C : Cx g X c_La_pass 4 n_La 3) {r : Unit × XD} {z : ZD} (q : RtV g X none (r.2, z)) (o0 : Nat) (h_o0 : 10 ≤ o0 ∧ o0 < 16) (v1 : Int32) (v2 : Int32) (K12 : Int32 → XD → Option (Unit × XD)) (hK12 : ∀ (v2 : Int32) (x : XD), K12 v2 x = some r → Wk g X 4 12 [(0, .ref (g_a g o0)), (1, .int v1), (2, .int v2)] [] (x, z)) : ∀ (n : Nat) (v3 : Int32) (x : XD) (h : b_La_pass_22 K12 o0 v1 v2 n v3 x = some r), Wk g X 4 22 [(0, .ref (g_a g o0)), (1, .int v1), (2, .int v2), (3, .int v3)] [] (x, z) := by
  intro n
  induction n with
  | zero =>
    intro v3 x h
    rw [b_La_pass_22] at h
    cases h
  | succ n ih =>
    intro v3 x h
    rw [b_La_pass_22] at h
    refine k_iload_n C d_La_pass_22 3 rfl ?_
    refine k_iload_n C d_La_pass_23 1 rfl ?_
    refine k_icmp_ge C 46 d_La_pass_24 (by decide) (fun c1 => ?_) (fun c1 => ?_)
    · have h := (if_pos c1).symm.trans h
      refine k_inc C (lv' := [(2, .int (v2 + 1)), (0, .ref (g_a g o0)), (1, .int v1), (3, .int v3)]) d_La_pass_46 2 rfl ic_1 rfl rfl ?_
      refine k_goto C 12 d_La_pass_49 (by decide) ?_
      exact k_sub [1, 2, 0] rfl (hK12 (v2 + 1) x h)
    · have h := (if_neg c1).symm.trans h
      refine k_aload_n C d_La_pass_27 0 rfl ?_
      refine kg_La_17 C h_o0 d_La_pass_28 ?_
      refine k_iload_n C d_La_pass_31 2 rfl ?_
      obtain ⟨i2, h⟩ := gI_some h
      refine k_aald_St C h_o0 i2 d_La_pass_32 ?_
      refine k_aload_n C d_La_pass_33 0 rfl ?_
      refine kg_La_28 C h_o0 d_La_pass_34 ?_
      obtain ⟨p3, ep3, h⟩ := bd_some h
      refine k_callVv C q_La_54 (fun l => m_St_pine (cx_g C) l (sid o0 v2) (sid_ok h_o0 i2) (x o0 3) x z p3 ep3) rfl rfl (rtV_c q) (lt105 (sid_ok h_o0 i2) rfl) (sh_St (sid_ok h_o0 i2)) rfl rfl rfl rfl d_La_pass_37 ?_
      refine k_inc C (lv' := [(3, .int (v3 + 1)), (0, .ref (g_a g o0)), (1, .int v1), (2, .int v2)]) d_La_pass_40 3 rfl ic_1 rfl rfl ?_
      refine k_goto C 22 d_La_pass_43 (by decide) ?_
      exact k_sub [1, 2, 3, 0] rfl (ih (v3 + 1) p3.2 h)

def b_La_pass_12 (o0 : Nat) (v1 : Int32) : Nat → Int32 → XD → Option (Unit × XD)
  | 0, _, _ => none
  | n + 1, v2, x => (if x o0 2 ≤ v2 then some ((), x) else b_La_pass_22 (b_La_pass_12 o0 v1 n) o0 v1 v2 fu 0 x)
theorem t_La_pass_12 {g : GC} {X : MX} (C : Cx g X c_La_pass 4 n_La 3) {r : Unit × XD} {z : ZD} (q : RtV g X none (r.2, z)) (o0 : Nat) (h_o0 : 10 ≤ o0 ∧ o0 < 16) (v1 : Int32) : ∀ (n : Nat) (v2 : Int32) (x : XD) (h : b_La_pass_12 o0 v1 n v2 x = some r), Wk g X 4 12 [(0, .ref (g_a g o0)), (1, .int v1), (2, .int v2)] [] (x, z) := by
  intro n
  induction n with
  | zero =>
    intro v2 x h
    rw [b_La_pass_12] at h
    cases h
  | succ n ih =>
    intro v2 x h
    rw [b_La_pass_12] at h
    refine k_iload_n C d_La_pass_12 2 rfl ?_
    refine k_aload_n C d_La_pass_13 0 rfl ?_
    refine kg_La_24 C h_o0 d_La_pass_14 ?_
    refine k_icmp_ge C 52 d_La_pass_17 (by decide) (fun c1 => ?_) (fun c1 => ?_)
    · have h := (if_pos c1).symm.trans h
      obtain rfl := Option.some.inj h
      exact k_vret C q d_La_pass_52
    · have h := (if_neg c1).symm.trans h
      refine k_iconst C 0 d_La_pass_20 ic_0 ?_
      refine k_istore_n C (lv' := [(3, .int 0), (0, .ref (g_a g o0)), (1, .int v1), (2, .int v2)]) d_La_pass_21 rfl rfl ?_
      exact k_sub [1, 2, 3, 0] rfl (t_La_pass_22 C q o0 h_o0 v1 v2 (b_La_pass_12 o0 v1 n) ih fu 0 x h)

def f_La_pass (o0 : Nat) (v1 : Int32) (x : XD) : Option (Unit × XD) := lt (x_up x o0 4 ((x o0 4) + v1)) fun (x1 : XD) => b_La_pass_12 o0 v1 fu 0 x1
theorem m_La_pass {g : GC} (hg : gOk g) (l : Launch)  (o0 : Nat) (h_o0 : 10 ≤ o0 ∧ o0 < 16) (v1 : Int32) (x : XD) (z : ZD) (r : Unit × XD) (h : f_La_pass o0 v1 x = some r) : Mv g l y_La_pass c_La_pass 4 none 3 [.ref (g_a g o0), .int v1] (x, z) (r.2, z) := by
  refine m_v hg pn_La rfl fun X q C => ?_
  refine k_sub (lv' := [(0, .ref (g_a g o0)), (1, .int v1)]) [0, 1] rfl ?_
  unfold f_La_pass at h
  refine k_aload_n C d_La_pass_0 0 rfl ?_
  refine k_dup C d_La_pass_1 rfl ?_
  refine kg_La_31 C h_o0 d_La_pass_2 ?_
  refine k_iload_n C d_La_pass_5 1 rfl ?_
  refine k_iadd C d_La_pass_6 ?_
  obtain ⟨x1, ex1, h⟩ := lt_some h
  refine kp_La_31 C h_o0 ex1 d_La_pass_7 ?_
  refine k_iconst C 0 d_La_pass_10 ic_0 ?_
  refine k_istore_n C (lv' := [(2, .int 0), (0, .ref (g_a g o0)), (1, .int v1)]) d_La_pass_11 rfl rfl ?_
  exact k_sub [1, 2, 0] rfl (t_La_pass_12 C q o0 h_o0 v1 fu 0 x1 h)

def f_St_rests (o0 : Nat) (v1 : Int32) (x : XD) : Option (Int32 × XD) := (f_St_goal o0 v1 x).bind fun p1 => ((if x o0 3 = p1.1 then some (1, p1.2) else some (0, p1.2)))
theorem m_St_rests {g : GC} (hg : gOk g) (l : Launch)  (o0 : Nat) (h_o0 : 22 ≤ o0 ∧ o0 < 65) (v1 : Int32) (x : XD) (z : ZD) (r : Int32 × XD) (h : f_St_rests o0 v1 x = some r) : Mi g l y_St_rests c_St_rests 2 (some .boolean) 3 [.ref (g_a g o0), .int v1] (x, z) r.1 (r.2, z) := by
  refine m_i hg pn_St rfl fun X q C => ?_
  refine k_sub (lv' := [(0, .ref (g_a g o0)), (1, .int v1)]) [0, 1] rfl ?_
  unfold f_St_rests at h
  refine k_aload_n C d_St_rests_0 0 rfl ?_
  refine kg_St_22 C h_o0 d_St_rests_1 ?_
  refine k_aload_n C d_St_rests_4 0 rfl ?_
  refine k_iload_n C d_St_rests_5 1 rfl ?_
  obtain ⟨p1, ep1, h⟩ := bd_some h
  refine k_callVi C q_St_38 (fun l => m_St_goal (cx_g C) l o0 h_o0 v1 x z p1 ep1) rfl rfl (rtI_c q) (lt105 h_o0 rfl) (sh_St h_o0) rfl rfl rfl rfl d_St_rests_6 ?_
  refine k_icmp_ne C 16 d_St_rests_9 (by decide) (fun c2 => ?_) (fun c2 => ?_)
  · have h := (if_neg c2).symm.trans h
    refine k_iconst C 0 d_St_rests_16 ic_0 ?_
    obtain rfl := Option.some.inj h
    exact k_zret C q (Or.inl rfl) d_St_rests_17
  · have h := (if_pos c2).symm.trans h
    refine k_iconst C 1 d_St_rests_12 ic_1 ?_
    refine k_goto C 17 d_St_rests_13 (by decide) ?_
    obtain rfl := Option.some.inj h
    exact k_zret C q (Or.inr rfl) d_St_rests_17

def b_St_ride_2 (o0 : Nat) (v1 : Int32) (v2 : Int32) : Nat → Int32 → XD → Option (Int32 × XD)
  | 0, _, _ => none
  | n + 1, v3, x => (if x o0 3 = v1 then some (v3, x) else (if 21 ≤ v3 then some (v3, x) else (f_St_move o0 v1 v2 x).bind fun p3 => ((f_St_pine o0 v2 p3.2).bind fun p4 => (b_St_ride_2 o0 v1 v2 n (v3 + 1) p4.2))))
theorem t_St_ride_2 {g : GC} {X : MX} (C : Cx g X c_St_ride 4 n_St 3) {r : Int32 × XD} {z : ZD} (q : RtI g X (some .int) r.1 (r.2, z)) (o0 : Nat) (h_o0 : 22 ≤ o0 ∧ o0 < 65) (v1 : Int32) (v2 : Int32) : ∀ (n : Nat) (v3 : Int32) (x : XD) (h : b_St_ride_2 o0 v1 v2 n v3 x = some r), Wk g X 4 2 [(0, .ref (g_a g o0)), (1, .int v1), (2, .int v2), (3, .int v3)] [] (x, z) := by
  intro n
  induction n with
  | zero =>
    intro v3 x h
    rw [b_St_ride_2] at h
    cases h
  | succ n ih =>
    intro v3 x h
    rw [b_St_ride_2] at h
    refine k_aload_n C d_St_ride_2 0 rfl ?_
    refine kg_St_22 C h_o0 d_St_ride_3 ?_
    refine k_iload_n C d_St_ride_6 1 rfl ?_
    refine k_icmp_eq C 33 d_St_ride_7 (by decide) (fun c1 => ?_) (fun c1 => ?_)
    · have h := (if_pos c1).symm.trans h
      refine k_iload_n C d_St_ride_33 3 rfl ?_
      obtain rfl := Option.some.inj h
      exact k_iret C q d_St_ride_34
    · have h := (if_neg c1).symm.trans h
      refine k_iload_n C d_St_ride_10 3 rfl ?_
      refine k_bipush C 21 d_St_ride_11 bp_21 ?_
      refine k_icmp_ge C 33 d_St_ride_13 (by decide) (fun c2 => ?_) (fun c2 => ?_)
      · have h := (if_pos c2).symm.trans h
        refine k_iload_n C d_St_ride_33 3 rfl ?_
        obtain rfl := Option.some.inj h
        exact k_iret C q d_St_ride_34
      · have h := (if_neg c2).symm.trans h
        refine k_aload_n C d_St_ride_16 0 rfl ?_
        refine k_iload_n C d_St_ride_17 1 rfl ?_
        refine k_iload_n C d_St_ride_18 2 rfl ?_
        obtain ⟨p3, ep3, h⟩ := bd_some h
        refine k_callVv C q_St_65 (fun l => m_St_move (cx_g C) l o0 h_o0 v1 v2 x z p3 ep3) rfl rfl (rtI_c q) (lt105 h_o0 rfl) (sh_St h_o0) rfl rfl rfl rfl d_St_ride_19 ?_
        refine k_aload_n C d_St_ride_22 0 rfl ?_
        refine k_iload_n C d_St_ride_23 2 rfl ?_
        obtain ⟨p4, ep4, h⟩ := bd_some h
        refine k_callVv C q_St_52 (fun l => m_St_pine (cx_g C) l o0 h_o0 v2 p3.2 z p4 ep4) rfl rfl (rtI_c q) (lt105 h_o0 rfl) (sh_St h_o0) rfl rfl rfl rfl d_St_ride_24 ?_
        refine k_inc C (lv' := [(3, .int (v3 + 1)), (0, .ref (g_a g o0)), (1, .int v1), (2, .int v2)]) d_St_ride_27 3 rfl ic_1 rfl rfl ?_
        refine k_goto C 2 d_St_ride_30 (by decide) ?_
        exact k_sub [1, 2, 3, 0] rfl (ih (v3 + 1) p4.2 h)

def f_St_ride (o0 : Nat) (v1 : Int32) (v2 : Int32) (x : XD) : Option (Int32 × XD) := b_St_ride_2 o0 v1 v2 fu 0 x
theorem m_St_ride {g : GC} (hg : gOk g) (l : Launch)  (o0 : Nat) (h_o0 : 22 ≤ o0 ∧ o0 < 65) (v1 : Int32) (v2 : Int32) (x : XD) (z : ZD) (r : Int32 × XD) (h : f_St_ride o0 v1 v2 x = some r) : Mi g l y_St_ride c_St_ride 4 (some .int) 3 [.ref (g_a g o0), .int v1, .int v2] (x, z) r.1 (r.2, z) := by
  refine m_i hg pn_St rfl fun X q C => ?_
  refine k_sub (lv' := [(0, .ref (g_a g o0)), (1, .int v1), (2, .int v2)]) [0, 1, 2] rfl ?_
  unfold f_St_ride at h
  refine k_iconst C 0 d_St_ride_0 ic_0 ?_
  refine k_istore_n C (lv' := [(3, .int 0), (0, .ref (g_a g o0)), (1, .int v1), (2, .int v2)]) d_St_ride_1 rfl rfl ?_
  exact k_sub [1, 2, 3, 0] rfl (t_St_ride_2 C q o0 h_o0 v1 v2 fu 0 x h)

def b_St_stay_2 (o0 : Nat) (v1 : Int32) (v2 : Int32) : Nat → Int32 → XD → Option (Unit × XD)
  | 0, _, _ => none
  | n + 1, v3, x => (if v1 ≤ v3 then some ((), x) else (f_St_pine o0 v2 x).bind fun p2 => (b_St_stay_2 o0 v1 v2 n (v3 + 1) p2.2))
theorem t_St_stay_2 {g : GC} {X : MX} (C : Cx g X c_St_stay 4 n_St 3) {r : Unit × XD} {z : ZD} (q : RtV g X none (r.2, z)) (o0 : Nat) (h_o0 : 22 ≤ o0 ∧ o0 < 65) (v1 : Int32) (v2 : Int32) : ∀ (n : Nat) (v3 : Int32) (x : XD) (h : b_St_stay_2 o0 v1 v2 n v3 x = some r), Wk g X 4 2 [(0, .ref (g_a g o0)), (1, .int v1), (2, .int v2), (3, .int v3)] [] (x, z) := by
  intro n
  induction n with
  | zero =>
    intro v3 x h
    rw [b_St_stay_2] at h
    cases h
  | succ n ih =>
    intro v3 x h
    rw [b_St_stay_2] at h
    refine k_iload_n C d_St_stay_2 3 rfl ?_
    refine k_iload_n C d_St_stay_3 1 rfl ?_
    refine k_icmp_ge C 18 d_St_stay_4 (by decide) (fun c1 => ?_) (fun c1 => ?_)
    · have h := (if_pos c1).symm.trans h
      obtain rfl := Option.some.inj h
      exact k_vret C q d_St_stay_18
    · have h := (if_neg c1).symm.trans h
      refine k_aload_n C d_St_stay_7 0 rfl ?_
      refine k_iload_n C d_St_stay_8 2 rfl ?_
      obtain ⟨p2, ep2, h⟩ := bd_some h
      refine k_callVv C q_St_52 (fun l => m_St_pine (cx_g C) l o0 h_o0 v2 x z p2 ep2) rfl rfl (rtV_c q) (lt105 h_o0 rfl) (sh_St h_o0) rfl rfl rfl rfl d_St_stay_9 ?_
      refine k_inc C (lv' := [(3, .int (v3 + 1)), (0, .ref (g_a g o0)), (1, .int v1), (2, .int v2)]) d_St_stay_12 3 rfl ic_1 rfl rfl ?_
      refine k_goto C 2 d_St_stay_15 (by decide) ?_
      exact k_sub [1, 2, 3, 0] rfl (ih (v3 + 1) p2.2 h)

def f_St_stay (o0 : Nat) (v1 : Int32) (v2 : Int32) (x : XD) : Option (Unit × XD) := b_St_stay_2 o0 v1 v2 fu 0 x
theorem m_St_stay {g : GC} (hg : gOk g) (l : Launch)  (o0 : Nat) (h_o0 : 22 ≤ o0 ∧ o0 < 65) (v1 : Int32) (v2 : Int32) (x : XD) (z : ZD) (r : Unit × XD) (h : f_St_stay o0 v1 v2 x = some r) : Mv g l y_St_stay c_St_stay 4 none 3 [.ref (g_a g o0), .int v1, .int v2] (x, z) (r.2, z) := by
  refine m_v hg pn_St rfl fun X q C => ?_
  refine k_sub (lv' := [(0, .ref (g_a g o0)), (1, .int v1), (2, .int v2)]) [0, 1, 2] rfl ?_
  unfold f_St_stay at h
  refine k_iconst C 0 d_St_stay_0 ic_0 ?_
  refine k_istore_n C (lv' := [(3, .int 0), (0, .ref (g_a g o0)), (1, .int v1), (2, .int v2)]) d_St_stay_1 rfl rfl ?_
  exact k_sub [1, 2, 3, 0] rfl (t_St_stay_2 C q o0 h_o0 v1 v2 fu 0 x h)

def b_La_allResting_34 (K4 : Int32 → Int32 → XD → Option (Int32 × XD)) (o0 : Nat) (v2 : Int32) (vt0 : Int32) (vt1 : Int32) (x : XD) : Option (Int32 × XD) := K4 (vt0 + vt1) (v2 + 1) x
theorem t_La_allResting_34 {g : GC} {X : MX} (C : Cx g X c_La_allResting 3 n_La 4) {r : Int32 × XD} {z : ZD} (q : RtI g X (some .int) r.1 (r.2, z)) (o0 : Nat) (h_o0 : 10 ≤ o0 ∧ o0 < 16) (v2 : Int32) (vt0 : Int32) (vt1 : Int32) (K4 : Int32 → Int32 → XD → Option (Int32 × XD)) (hK4 : ∀ (v1 : Int32) (v2 : Int32) (x : XD), K4 v1 v2 x = some r → Wk g X 3 4 [(0, .ref (g_a g o0)), (1, .int v1), (2, .int v2)] [] (x, z)) (x : XD) (h : b_La_allResting_34 K4 o0 v2 vt0 vt1 x = some r) : Wk g X 3 34 [(0, .ref (g_a g o0)), (2, .int v2)] [.int vt1, .int vt0] (x, z) := by
  unfold b_La_allResting_34 at h
  refine k_iadd C d_La_allResting_34 ?_
  refine k_istore_n C (lv' := [(1, .int (vt0 + vt1)), (0, .ref (g_a g o0)), (2, .int v2)]) d_La_allResting_35 rfl rfl ?_
  refine k_inc C (lv' := [(2, .int (v2 + 1)), (1, .int (vt0 + vt1)), (0, .ref (g_a g o0))]) d_La_allResting_36 2 rfl ic_1 rfl rfl ?_
  refine k_goto C 4 d_La_allResting_39 (by decide) ?_
  exact k_sub [2, 1, 0] rfl (hK4 (vt0 + vt1) (v2 + 1) x h)

def b_La_allResting_4 (o0 : Nat) : Nat → Int32 → Int32 → XD → Option (Int32 × XD)
  | 0, _, _, _ => none
  | n + 1, v1, v2, x => (if x o0 2 ≤ v2 then some (v1, x) else gI v2 7 ((f_St_rests (sid o0 v2) (x o0 3) x).bind fun p3 => ((if p3.1 = 0 then b_La_allResting_34 (b_La_allResting_4 o0 n) o0 v2 v1 0 p3.2 else b_La_allResting_34 (b_La_allResting_4 o0 n) o0 v2 v1 1 p3.2))))
theorem t_La_allResting_4 {g : GC} {X : MX} (C : Cx g X c_La_allResting 3 n_La 4) {r : Int32 × XD} {z : ZD} (q : RtI g X (some .int) r.1 (r.2, z)) (o0 : Nat) (h_o0 : 10 ≤ o0 ∧ o0 < 16) : ∀ (n : Nat) (v1 : Int32) (v2 : Int32) (x : XD) (h : b_La_allResting_4 o0 n v1 v2 x = some r), Wk g X 3 4 [(0, .ref (g_a g o0)), (1, .int v1), (2, .int v2)] [] (x, z) := by
  intro n
  induction n with
  | zero =>
    intro v1 v2 x h
    rw [b_La_allResting_4] at h
    cases h
  | succ n ih =>
    intro v1 v2 x h
    rw [b_La_allResting_4] at h
    refine k_iload_n C d_La_allResting_4 2 rfl ?_
    refine k_aload_n C d_La_allResting_5 0 rfl ?_
    refine kg_La_24 C h_o0 d_La_allResting_6 ?_
    refine k_icmp_ge C 42 d_La_allResting_9 (by decide) (fun c1 => ?_) (fun c1 => ?_)
    · have h := (if_pos c1).symm.trans h
      refine k_iload_n C d_La_allResting_42 1 rfl ?_
      obtain rfl := Option.some.inj h
      exact k_iret C q d_La_allResting_43
    · have h := (if_neg c1).symm.trans h
      refine k_iload_n C d_La_allResting_12 1 rfl ?_
      refine k_aload_n C d_La_allResting_13 0 rfl ?_
      refine kg_La_17 C h_o0 d_La_allResting_14 ?_
      refine k_iload_n C d_La_allResting_17 2 rfl ?_
      obtain ⟨i2, h⟩ := gI_some h
      refine k_aald_St C h_o0 i2 d_La_allResting_18 ?_
      refine k_aload_n C d_La_allResting_19 0 rfl ?_
      refine kg_La_28 C h_o0 d_La_allResting_20 ?_
      obtain ⟨p3, ep3, h⟩ := bd_some h
      refine k_callVi C q_La_69 (fun l => m_St_rests (cx_g C) l (sid o0 v2) (sid_ok h_o0 i2) (x o0 3) x z p3 ep3) rfl rfl (rtI_c q) (lt105 (sid_ok h_o0 i2) rfl) (sh_St (sid_ok h_o0 i2)) rfl rfl rfl rfl d_La_allResting_23 ?_
      refine k_if_eq C 33 d_La_allResting_26 (by decide) (fun c4 => ?_) (fun c4 => ?_)
      · have h := (if_pos c4).symm.trans h
        refine k_iconst C 0 d_La_allResting_33 ic_0 ?_
        exact k_sub [0, 2] rfl (t_La_allResting_34 C q o0 h_o0 v2 v1 0 (b_La_allResting_4 o0 n) ih p3.2 h)
      · have h := (if_neg c4).symm.trans h
        refine k_iconst C 1 d_La_allResting_29 ic_1 ?_
        refine k_goto C 34 d_La_allResting_30 (by decide) ?_
        exact k_sub [0, 2] rfl (t_La_allResting_34 C q o0 h_o0 v2 v1 1 (b_La_allResting_4 o0 n) ih p3.2 h)

def f_La_allResting (o0 : Nat) (x : XD) : Option (Int32 × XD) := b_La_allResting_4 o0 fu 0 0 x
theorem m_La_allResting {g : GC} (hg : gOk g) (l : Launch)  (o0 : Nat) (h_o0 : 10 ≤ o0 ∧ o0 < 16) (x : XD) (z : ZD) (r : Int32 × XD) (h : f_La_allResting o0 x = some r) : Mi g l y_La_allResting c_La_allResting 3 (some .int) 4 [.ref (g_a g o0)] (x, z) r.1 (r.2, z) := by
  refine m_i hg pn_La rfl fun X q C => ?_
  refine k_sub (lv' := [(0, .ref (g_a g o0))]) [0] rfl ?_
  unfold f_La_allResting at h
  refine k_iconst C 0 d_La_allResting_0 ic_0 ?_
  refine k_istore_n C (lv' := [(1, .int 0), (0, .ref (g_a g o0))]) d_La_allResting_1 rfl rfl ?_
  refine k_iconst C 0 d_La_allResting_2 ic_0 ?_
  refine k_istore_n C (lv' := [(2, .int 0), (1, .int 0), (0, .ref (g_a g o0))]) d_La_allResting_3 rfl rfl ?_
  exact k_sub [2, 1, 0] rfl (t_La_allResting_4 C q o0 h_o0 fu 0 0 x h)

def f_La_followDays (o0 : Nat) (v1 : Int32) (x : XD) : Option (Int32 × XD) := (f_Hb_isWithin v1 1 60 x).bind fun p1 => ((if p1.1 = 0 then some (0, p1.2) else (f_La_hasDays o0 v1 p1.2).bind fun p3 => ((if p3.1 = 0 then some (0, p3.2) else (f_La_pass o0 v1 p3.2).bind fun p5 => (some (1, p5.2))))))
theorem m_La_followDays {g : GC} (hg : gOk g) (l : Launch)  (o0 : Nat) (h_o0 : 10 ≤ o0 ∧ o0 < 16) (v1 : Int32) (x : XD) (z : ZD) (r : Int32 × XD) (h : f_La_followDays o0 v1 x = some r) : Mi g l y_La_followDays c_La_followDays 2 (some .boolean) 4 [.ref (g_a g o0), .int v1] (x, z) r.1 (r.2, z) := by
  refine m_i hg pn_La rfl fun X q C => ?_
  refine k_sub (lv' := [(0, .ref (g_a g o0)), (1, .int v1)]) [0, 1] rfl ?_
  unfold f_La_followDays at h
  refine k_iload_n C d_La_followDays_0 1 rfl ?_
  refine k_iconst C 1 d_La_followDays_1 ic_1 ?_
  refine k_bipush C 60 d_La_followDays_2 bp_60 ?_
  obtain ⟨p1, ep1, h⟩ := bd_some h
  refine k_callTi C q_La_117 (fun l => m_Hb_isWithin (cx_g C) l v1 1 60 x z p1 ep1) rfl rfl (rtI_c q) rfl rfl rfl d_La_followDays_4 ?_
  refine k_if_eq C 18 d_La_followDays_7 (by decide) (fun c2 => ?_) (fun c2 => ?_)
  · have h := (if_pos c2).symm.trans h
    refine k_iconst C 0 d_La_followDays_18 ic_0 ?_
    obtain rfl := Option.some.inj h
    exact k_zret C q (Or.inl rfl) d_La_followDays_19
  · have h := (if_neg c2).symm.trans h
    refine k_aload_n C d_La_followDays_10 0 rfl ?_
    refine k_iload_n C d_La_followDays_11 1 rfl ?_
    obtain ⟨p3, ep3, h⟩ := bd_some h
    refine k_callVi C q_La_107 (fun l => m_La_hasDays (cx_g C) l o0 h_o0 v1 p1.2 z p3 ep3) rfl rfl (rtI_c q) (lt105 h_o0 rfl) (sh_La h_o0) rfl rfl rfl rfl d_La_followDays_12 ?_
    refine k_if_ne C 20 d_La_followDays_15 (by decide) (fun c4 => ?_) (fun c4 => ?_)
    · have h := (if_neg c4).symm.trans h
      refine k_aload_n C d_La_followDays_20 0 rfl ?_
      refine k_iload_n C d_La_followDays_21 1 rfl ?_
      obtain ⟨p5, ep5, h⟩ := bd_some h
      refine k_callVv C q_La_62 (fun l => m_La_pass (cx_g C) l o0 h_o0 v1 p3.2 z p5 ep5) rfl rfl (rtI_c q) (lt105 h_o0 rfl) (sh_La h_o0) rfl rfl rfl rfl d_La_followDays_22 ?_
      refine k_iconst C 1 d_La_followDays_25 ic_1 ?_
      obtain rfl := Option.some.inj h
      exact k_zret C q (Or.inr rfl) d_La_followDays_26
    · have h := (if_pos c4).symm.trans h
      refine k_iconst C 0 d_La_followDays_18 ic_0 ?_
      obtain rfl := Option.some.inj h
      exact k_zret C q (Or.inl rfl) d_La_followDays_19

def b_La_ride_2 (o0 : Nat) (v1 : Int32) (v2 : Int32) : Nat → Int32 → XD → Option (Int32 × XD)
  | 0, _, _ => none
  | n + 1, v3, x => gI v1 7 ((if x (sid o0 v1) 3 = v2 then some (v3, x) else (if 21 ≤ v3 then some (v3, x) else gI v1 7 ((f_St_move (sid o0 v1) v2 (x o0 3) x).bind fun p5 => ((f_La_pass o0 1 p5.2).bind fun p6 => (b_La_ride_2 o0 v1 v2 n (v3 + 1) p6.2))))))
theorem t_La_ride_2 {g : GC} {X : MX} (C : Cx g X c_La_ride 4 n_La 4) {r : Int32 × XD} {z : ZD} (q : RtI g X (some .int) r.1 (r.2, z)) (o0 : Nat) (h_o0 : 10 ≤ o0 ∧ o0 < 16) (v1 : Int32) (v2 : Int32) : ∀ (n : Nat) (v3 : Int32) (x : XD) (h : b_La_ride_2 o0 v1 v2 n v3 x = some r), Wk g X 4 2 [(0, .ref (g_a g o0)), (1, .int v1), (2, .int v2), (3, .int v3)] [] (x, z) := by
  intro n
  induction n with
  | zero =>
    intro v3 x h
    rw [b_La_ride_2] at h
    cases h
  | succ n ih =>
    intro v3 x h
    rw [b_La_ride_2] at h
    refine k_aload_n C d_La_ride_2 0 rfl ?_
    refine kg_La_17 C h_o0 d_La_ride_3 ?_
    refine k_iload_n C d_La_ride_6 1 rfl ?_
    obtain ⟨i1, h⟩ := gI_some h
    refine k_aald_St C h_o0 i1 d_La_ride_7 ?_
    refine kg_La_48 C (sid_ok h_o0 i1) d_La_ride_8 ?_
    refine k_iload_n C d_La_ride_11 2 rfl ?_
    refine k_icmp_eq C 46 d_La_ride_12 (by decide) (fun c2 => ?_) (fun c2 => ?_)
    · have h := (if_pos c2).symm.trans h
      refine k_iload_n C d_La_ride_46 3 rfl ?_
      obtain rfl := Option.some.inj h
      exact k_iret C q d_La_ride_47
    · have h := (if_neg c2).symm.trans h
      refine k_iload_n C d_La_ride_15 3 rfl ?_
      refine k_bipush C 21 d_La_ride_16 bp_21 ?_
      refine k_icmp_ge C 46 d_La_ride_18 (by decide) (fun c3 => ?_) (fun c3 => ?_)
      · have h := (if_pos c3).symm.trans h
        refine k_iload_n C d_La_ride_46 3 rfl ?_
        obtain rfl := Option.some.inj h
        exact k_iret C q d_La_ride_47
      · have h := (if_neg c3).symm.trans h
        refine k_aload_n C d_La_ride_21 0 rfl ?_
        refine kg_La_17 C h_o0 d_La_ride_22 ?_
        refine k_iload_n C d_La_ride_25 1 rfl ?_
        obtain ⟨i4, h⟩ := gI_some h
        refine k_aald_St C h_o0 i4 d_La_ride_26 ?_
        refine k_iload_n C d_La_ride_27 2 rfl ?_
        refine k_aload_n C d_La_ride_28 0 rfl ?_
        refine kg_La_28 C h_o0 d_La_ride_29 ?_
        obtain ⟨p5, ep5, h⟩ := bd_some h
        refine k_callVv C q_La_58 (fun l => m_St_move (cx_g C) l (sid o0 v1) (sid_ok h_o0 i4) v2 (x o0 3) x z p5 ep5) rfl rfl (rtI_c q) (lt105 (sid_ok h_o0 i4) rfl) (sh_St (sid_ok h_o0 i4)) rfl rfl rfl rfl d_La_ride_32 ?_
        refine k_aload_n C d_La_ride_35 0 rfl ?_
        refine k_iconst C 1 d_La_ride_36 ic_1 ?_
        obtain ⟨p6, ep6, h⟩ := bd_some h
        refine k_callVv C q_La_62 (fun l => m_La_pass (cx_g C) l o0 h_o0 1 p5.2 z p6 ep6) rfl rfl (rtI_c q) (lt105 h_o0 rfl) (sh_La h_o0) rfl rfl rfl rfl d_La_ride_37 ?_
        refine k_inc C (lv' := [(3, .int (v3 + 1)), (0, .ref (g_a g o0)), (1, .int v1), (2, .int v2)]) d_La_ride_40 3 rfl ic_1 rfl rfl ?_
        refine k_goto C 2 d_La_ride_43 (by decide) ?_
        exact k_sub [1, 2, 3, 0] rfl (ih (v3 + 1) p6.2 h)

def f_La_ride (o0 : Nat) (v1 : Int32) (v2 : Int32) (x : XD) : Option (Int32 × XD) := b_La_ride_2 o0 v1 v2 fu 0 x
theorem m_La_ride {g : GC} (hg : gOk g) (l : Launch)  (o0 : Nat) (h_o0 : 10 ≤ o0 ∧ o0 < 16) (v1 : Int32) (v2 : Int32) (x : XD) (z : ZD) (r : Int32 × XD) (h : f_La_ride o0 v1 v2 x = some r) : Mi g l y_La_ride c_La_ride 4 (some .int) 4 [.ref (g_a g o0), .int v1, .int v2] (x, z) r.1 (r.2, z) := by
  refine m_i hg pn_La rfl fun X q C => ?_
  refine k_sub (lv' := [(0, .ref (g_a g o0)), (1, .int v1), (2, .int v2)]) [0, 1, 2] rfl ?_
  unfold f_La_ride at h
  refine k_iconst C 0 d_La_ride_0 ic_0 ?_
  refine k_istore_n C (lv' := [(3, .int 0), (0, .ref (g_a g o0)), (1, .int v1), (2, .int v2)]) d_La_ride_1 rfl rfl ?_
  exact k_sub [1, 2, 3, 0] rfl (t_La_ride_2 C q o0 h_o0 v1 v2 fu 0 x h)

def f_La_follow (o0 : Nat) (o1 : Nat) (v2 : Int32) (x : XD) : Option (Int32 × XD) := (f_Sh_digit o1 (v2 + 1) x).bind fun p1 => (gI v2 100 (lt (p1.2 (o1 + 8) v2.toNatClampNeg) fun (y3 : Int32) => (if y3 = 100 then (f_Sh_number o1 (v2 + 1) p1.2).bind fun p5 => ((f_La_followDays o0 p5.1 p5.2).bind fun p6 => (gB p6.1 (some (p6.1, p6.2)))) else (if y3 = 104 then (f_La_followHorse o0 o1 v2 p1.2).bind fun p9 => (gB p9.1 (some (p9.1, p9.2))) else (if y3 = 108 then (f_Sh_number o1 (v2 + 2) p1.2).bind fun p12 => ((f_La_followLonging o0 p1.1 p12.1 p12.2).bind fun p13 => (gB p13.1 (some (p13.1, p13.2)))) else (if y3 = 111 then (f_Sh_number o1 (v2 + 1) p1.2).bind fun p16 => ((f_La_followOats o0 p16.1 p16.2).bind fun p17 => (gB p17.1 (some (p17.1, p17.2)))) else ((f_Sh_number o1 (v2 + 2) p1.2).bind fun p19 => ((if p19.2 o0 2 ≤ p1.1 then some (0, p19.2) else (f_Hb_isYard p19.1 p19.2).bind fun p21 => ((if p21.1 = 0 then some (0, p21.2) else (f_La_ride o0 p1.1 p19.1 p21.2).bind fun p23 => ((f_La_hasDays o0 0 p23.2).bind fun p24 => (gB p24.1 (some (p24.1, p24.2)))))))))))))))
theorem m_La_follow {g : GC} (hg : gOk g) (l : Launch)  (o0 : Nat) (h_o0 : 10 ≤ o0 ∧ o0 < 16) (o1 : Nat) (h_o1 : 67 ≤ o1 ∧ o1 < 75) (v2 : Int32) (x : XD) (z : ZD) (r : Int32 × XD) (h : f_La_follow o0 o1 v2 x = some r) : Mi g l y_La_follow c_La_follow 5 (some .boolean) 5 [.ref (g_a g o0), .ref (g_a g o1), .int v2] (x, z) r.1 (r.2, z) := by
  refine m_i hg pn_La rfl fun X q C => ?_
  refine k_sub (lv' := [(0, .ref (g_a g o0)), (1, .ref (g_a g o1)), (2, .int v2)]) [0, 1, 2] rfl ?_
  unfold f_La_follow at h
  refine k_aload_n C d_La_follow_0 1 rfl ?_
  refine k_iload_n C d_La_follow_1 2 rfl ?_
  refine k_iconst C 1 d_La_follow_2 ic_1 ?_
  refine k_iadd C d_La_follow_3 ?_
  obtain ⟨p1, ep1, h⟩ := bd_some h
  refine k_callVi C q_La_73 (fun l => m_Sh_digit (cx_g C) l o1 h_o1 (v2 + 1) x z p1 ep1) rfl rfl (rtI_c q) (lt105 h_o1 rfl) (sh_Sh h_o1) rfl rfl rfl rfl d_La_follow_4 ?_
  refine k_istore_n C (lv' := [(3, .int p1.1), (0, .ref (g_a g o0)), (1, .ref (g_a g o1)), (2, .int v2)]) d_La_follow_7 rfl rfl ?_
  refine k_aload_n C d_La_follow_8 2 rfl ?_
  refine kg_La_79 C h_o1 d_La_follow_9 ?_
  refine k_iload_n C d_La_follow_12 3 rfl ?_
  obtain ⟨i2, h⟩ := gI_some h
  refine k_ialdE C h_o1 i2 d_La_follow_13 ?_
  obtain ⟨y3, ey3, h⟩ := lt_some h
  refine k_nmI ey3 ?_
  by_cases c4 : y3 = 100
  · have h := (if_pos c4).symm.trans h
    refine k_lookup C (61) 75 d_La_follow_14 (by decide) (by rw [c4]; decide) (by decide) ?_
    refine k_aload_n C d_La_follow_75 1 rfl ?_
    refine k_aload_n C d_La_follow_76 2 rfl ?_
    refine k_iload_n C d_La_follow_77 3 rfl ?_
    refine k_iconst C 1 d_La_follow_78 ic_1 ?_
    refine k_iadd C d_La_follow_79 ?_
    obtain ⟨p5, ep5, h⟩ := bd_some h
    refine k_callVi C q_La_87 (fun l => m_Sh_number (cx_g C) l o1 h_o1 (v2 + 1) p1.2 z p5 ep5) rfl rfl (rtI_c q) (lt105 h_o1 rfl) (sh_Sh h_o1) rfl rfl rfl rfl d_La_follow_80 ?_
    obtain ⟨p6, ep6, h⟩ := bd_some h
    refine k_callVi C q_La_93 (fun l => m_La_followDays (cx_g C) l o0 h_o0 p5.1 p5.2 z p6 ep6) rfl rfl (rtI_c q) (lt105 h_o0 rfl) (sh_La h_o0) rfl rfl rfl rfl d_La_follow_83 ?_
    obtain ⟨i7, h⟩ := gB_some h
    obtain rfl := Option.some.inj h
    exact k_zret C q i7 d_La_follow_86
  have h := (if_neg c4).symm.trans h
  by_cases c8 : y3 = 104
  · have h := (if_pos c8).symm.trans h
    refine k_lookup C (42) 56 d_La_follow_14 (by decide) (by rw [c8]; decide) (by decide) ?_
    refine k_aload_n C d_La_follow_56 1 rfl ?_
    refine k_aload_n C d_La_follow_57 2 rfl ?_
    refine k_iload_n C d_La_follow_58 3 rfl ?_
    obtain ⟨p9, ep9, h⟩ := bd_some h
    refine k_callVi C q_La_83 (fun l => m_La_followHorse (cx_g C) l o0 h_o0 o1 h_o1 v2 p1.2 z p9 ep9) rfl rfl (rtI_c q) (lt105 h_o0 rfl) (sh_La h_o0) rfl rfl rfl rfl d_La_follow_59 ?_
    obtain ⟨i10, h⟩ := gB_some h
    obtain rfl := Option.some.inj h
    exact k_zret C q i10 d_La_follow_62
  have h := (if_neg c8).symm.trans h
  by_cases c11 : y3 = 108
  · have h := (if_pos c11).symm.trans h
    refine k_lookup C (73) 87 d_La_follow_14 (by decide) (by rw [c11]; decide) (by decide) ?_
    refine k_aload_n C d_La_follow_87 1 rfl ?_
    refine k_iload_n C d_La_follow_88 0 rfl ?_
    refine k_aload_n C d_La_follow_89 2 rfl ?_
    refine k_iload_n C d_La_follow_90 3 rfl ?_
    refine k_iconst C 2 d_La_follow_91 ic_2 ?_
    refine k_iadd C d_La_follow_92 ?_
    obtain ⟨p12, ep12, h⟩ := bd_some h
    refine k_callVi C q_La_87 (fun l => m_Sh_number (cx_g C) l o1 h_o1 (v2 + 2) p1.2 z p12 ep12) rfl rfl (rtI_c q) (lt105 h_o1 rfl) (sh_Sh h_o1) rfl rfl rfl rfl d_La_follow_93 ?_
    obtain ⟨p13, ep13, h⟩ := bd_some h
    refine k_callVi C q_La_96 (fun l => m_La_followLonging (cx_g C) l o0 h_o0 p1.1 p12.1 p12.2 z p13 ep13) rfl rfl (rtI_c q) (lt105 h_o0 rfl) (sh_La h_o0) rfl rfl rfl rfl d_La_follow_96 ?_
    obtain ⟨i14, h⟩ := gB_some h
    obtain rfl := Option.some.inj h
    exact k_zret C q i14 d_La_follow_99
  have h := (if_neg c11).symm.trans h
  by_cases c15 : y3 = 111
  · have h := (if_pos c15).symm.trans h
    refine k_lookup C (49) 63 d_La_follow_14 (by decide) (by rw [c15]; decide) (by decide) ?_
    refine k_aload_n C d_La_follow_63 1 rfl ?_
    refine k_aload_n C d_La_follow_64 2 rfl ?_
    refine k_iload_n C d_La_follow_65 3 rfl ?_
    refine k_iconst C 1 d_La_follow_66 ic_1 ?_
    refine k_iadd C d_La_follow_67 ?_
    obtain ⟨p16, ep16, h⟩ := bd_some h
    refine k_callVi C q_La_87 (fun l => m_Sh_number (cx_g C) l o1 h_o1 (v2 + 1) p1.2 z p16 ep16) rfl rfl (rtI_c q) (lt105 h_o1 rfl) (sh_Sh h_o1) rfl rfl rfl rfl d_La_follow_68 ?_
    obtain ⟨p17, ep17, h⟩ := bd_some h
    refine k_callVi C q_La_90 (fun l => m_La_followOats (cx_g C) l o0 h_o0 p16.1 p16.2 z p17 ep17) rfl rfl (rtI_c q) (lt105 h_o0 rfl) (sh_La h_o0) rfl rfl rfl rfl d_La_follow_71 ?_
    obtain ⟨i18, h⟩ := gB_some h
    obtain rfl := Option.some.inj h
    exact k_zret C q i18 d_La_follow_74
  have h := (if_neg c15).symm.trans h
  have ac4 : ¬ y3.toInt = 100 := nti c4
  have ac8 : ¬ y3.toInt = 104 := nti c8
  have ac11 : ¬ y3.toInt = 108 := nti c11
  have ac15 : ¬ y3.toInt = 111 := nti c15
  refine k_lookup C (86) 100 d_La_follow_14 (by decide) (by simp [Op.lookupswitch.offset, ac4, Ne.symm ac4, ac8, Ne.symm ac8, ac11, Ne.symm ac11, ac15, Ne.symm ac15]) (by decide) ?_
  refine k_aload_n C d_La_follow_100 2 rfl ?_
  refine k_iload_n C d_La_follow_101 3 rfl ?_
  refine k_iconst C 2 d_La_follow_102 ic_2 ?_
  refine k_iadd C d_La_follow_103 ?_
  obtain ⟨p19, ep19, h⟩ := bd_some h
  refine k_callVi C q_La_87 (fun l => m_Sh_number (cx_g C) l o1 h_o1 (v2 + 2) p1.2 z p19 ep19) rfl rfl (rtI_c q) (lt105 h_o1 rfl) (sh_Sh h_o1) rfl rfl rfl rfl d_La_follow_104 ?_
  refine k_istore C (lv' := [(4, .int p19.1), (3, .int p1.1), (0, .ref (g_a g o0)), (1, .ref (g_a g o1)), (2, .int v2)]) d_La_follow_107 rfl rfl ?_
  refine k_iload_n C d_La_follow_109 1 rfl ?_
  refine k_aload_n C d_La_follow_110 2 rfl ?_
  refine kg_La_24 C h_o0 d_La_follow_111 ?_
  refine k_icmp_ge C 125 d_La_follow_114 (by decide) (fun c20 => ?_) (fun c20 => ?_)
  · have h := (if_pos c20).symm.trans h
    refine k_iconst C 0 d_La_follow_125 ic_0 ?_
    obtain rfl := Option.some.inj h
    exact k_zret C q (Or.inl rfl) d_La_follow_126
  · have h := (if_neg c20).symm.trans h
    refine k_iload C d_La_follow_117 0 rfl ?_
    obtain ⟨p21, ep21, h⟩ := bd_some h
    refine k_callTi C q_La_100 (fun l => m_Hb_isYard (cx_g C) l p19.1 p19.2 z p21 ep21) rfl rfl (rtI_c q) rfl rfl rfl d_La_follow_119 ?_
    refine k_if_ne C 127 d_La_follow_122 (by decide) (fun c22 => ?_) (fun c22 => ?_)
    · have h := (if_neg c22).symm.trans h
      refine k_aload_n C d_La_follow_127 2 rfl ?_
      refine k_iload_n C d_La_follow_128 1 rfl ?_
      refine k_iload C d_La_follow_129 0 rfl ?_
      obtain ⟨p23, ep23, h⟩ := bd_some h
      refine k_callVi C q_La_103 (fun l => m_La_ride (cx_g C) l o0 h_o0 p1.1 p19.1 p21.2 z p23 ep23) rfl rfl (rtI_c q) (lt105 h_o0 rfl) (sh_La h_o0) rfl rfl rfl rfl d_La_follow_131 ?_
      refine k_pop C d_La_follow_134 rfl ?_
      refine k_aload_n C d_La_follow_135 2 rfl ?_
      refine k_iconst C 0 d_La_follow_136 ic_0 ?_
      obtain ⟨p24, ep24, h⟩ := bd_some h
      refine k_callVi C q_La_107 (fun l => m_La_hasDays (cx_g C) l o0 h_o0 0 p23.2 z p24 ep24) rfl rfl (rtI_c q) (lt105 h_o0 rfl) (sh_La h_o0) rfl rfl rfl rfl d_La_follow_137 ?_
      obtain ⟨i25, h⟩ := gB_some h
      obtain rfl := Option.some.inj h
      exact k_zret C q i25 d_La_follow_140
    · have h := (if_pos c22).symm.trans h
      refine k_iconst C 0 d_La_follow_125 ic_0 ?_
      obtain rfl := Option.some.inj h
      exact k_zret C q (Or.inl rfl) d_La_follow_126


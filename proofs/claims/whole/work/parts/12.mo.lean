def b_Mo_allLonging_4 : Nat → Int32 → Int32 → MD → Option (Int32 × MD)
  | 0, _, _, _ => none
  | n + 1, v1, v2, m => (if m.1 83 0 ≤ v2 then some (v1, m) else gI v2 7 (b_Mo_allLonging_4 n (v1 + (m.1 88 v2.toNatClampNeg)) (v2 + 1) m))
theorem t_Mo_allLonging_4 {g : GC} {X : MX} (C : Cx g X c_Mo_allLonging 3 n_Mo 0) {r : Int32 × MD} {xx : XD} {oo : Nat → Int64} (q : RtI g X (some .int) r.1 (xx, r.2, oo)) : ∀ (n : Nat) (v1 : Int32) (v2 : Int32) (m : MD) (h : b_Mo_allLonging_4 n v1 v2 m = some r), Wk g X 3 4 [(0, .ref (g_a g 83)), (1, .int v1), (2, .int v2)] [] (xx, m, oo) := by
  intro n
  induction n with
  | zero =>
    intro v1 v2 m h
    rw [b_Mo_allLonging_4] at h
    cases h
  | succ n ih =>
    intro v1 v2 m h
    rw [b_Mo_allLonging_4] at h
    refine k_iload_n C d_Mo_allLonging_4 2 rfl ?_
    refine k_aload_n C d_Mo_allLonging_5 0 rfl ?_
    refine kg_Mo_81 C d_Mo_allLonging_6 ?_
    refine k_icmp_ge C 27 d_Mo_allLonging_9 (by decide) (fun c1 => ?_) (fun c1 => ?_)
    · have h := (if_pos c1).symm.trans h
      refine k_iload_n C d_Mo_allLonging_27 1 rfl ?_
      obtain rfl := Option.some.inj h
      exact k_iret C q d_Mo_allLonging_28
    · have h := (if_neg c1).symm.trans h
      refine k_iload_n C d_Mo_allLonging_12 1 rfl ?_
      refine k_aload_n C d_Mo_allLonging_13 0 rfl ?_
      refine kg_Mo_22 C d_Mo_allLonging_14 ?_
      refine k_iload_n C d_Mo_allLonging_17 2 rfl ?_
      obtain ⟨i2, h⟩ := gI_some h
      refine k_ialdM C (by decide) (by decide) i2 d_Mo_allLonging_18 ?_
      refine k_iadd C d_Mo_allLonging_19 ?_
      refine k_istore_n C (lv' := [(1, .int (v1 + (m.1 88 v2.toNatClampNeg))), (0, .ref (g_a g 83)), (2, .int v2)]) d_Mo_allLonging_20 rfl rfl ?_
      refine k_inc C (lv' := [(2, .int (v2 + 1)), (1, .int (v1 + (m.1 88 v2.toNatClampNeg))), (0, .ref (g_a g 83))]) d_Mo_allLonging_21 2 rfl ic_1 rfl rfl ?_
      refine k_goto C 4 d_Mo_allLonging_24 (by decide) ?_
      exact k_sub [2, 1, 0] rfl (ih (v1 + (m.1 88 v2.toNatClampNeg)) (v2 + 1) m h)

def f_Mo_allLonging (m : MD) : Option (Int32 × MD) := b_Mo_allLonging_4 fu 0 0 m
theorem m_Mo_allLonging {g : GC} (hg : gOk g) (l : Launch)  (m : MD) (xx : XD) (oo : Nat → Int64) (r : Int32 × MD) (h : f_Mo_allLonging m = some r) : Mi g l y_Mo_allLonging c_Mo_allLonging 3 (some .int) 0 [.ref (g_a g 83)] (xx, m, oo) r.1 (xx, r.2, oo) := by
  refine m_i hg pn_Mo rfl fun X q C => ?_
  refine k_sub (lv' := [(0, .ref (g_a g 83))]) [0] rfl ?_
  unfold f_Mo_allLonging at h
  refine k_iconst C 0 d_Mo_allLonging_0 ic_0 ?_
  refine k_istore_n C (lv' := [(1, .int 0), (0, .ref (g_a g 83))]) d_Mo_allLonging_1 rfl rfl ?_
  refine k_iconst C 0 d_Mo_allLonging_2 ic_0 ?_
  refine k_istore_n C (lv' := [(2, .int 0), (1, .int 0), (0, .ref (g_a g 83))]) d_Mo_allLonging_3 rfl rfl ?_
  exact k_sub [2, 1, 0] rfl (t_Mo_allLonging_4 C q fu 0 0 m h)

def f_Mo_apart (v0 : Int32) (v1 : Int32) (m : MD) : Option (Int32 × MD) := (if v0 ≤ v1 then some (v1 - v0, m) else some (v0 - v1, m))
theorem m_Mo_apart {g : GC} (hg : gOk g) (l : Launch)  (v0 : Int32) (v1 : Int32) (m : MD) (xx : XD) (oo : Nat → Int64) (r : Int32 × MD) (h : f_Mo_apart v0 v1 m = some r) : Mi g l y_Mo_apart c_Mo_apart 2 (some .int) 0 [.int v0, .int v1] (xx, m, oo) r.1 (xx, r.2, oo) := by
  refine m_i hg pn_Mo rfl fun X q C => ?_
  refine k_sub (lv' := [(0, .int v0), (1, .int v1)]) [0, 1] rfl ?_
  unfold f_Mo_apart at h
  refine k_iload_n C d_Mo_apart_0 0 rfl ?_
  refine k_iload_n C d_Mo_apart_1 1 rfl ?_
  refine k_icmp_le C 11 d_Mo_apart_2 (by decide) (fun c1 => ?_) (fun c1 => ?_)
  · have h := (if_pos c1).symm.trans h
    refine k_iload_n C d_Mo_apart_11 1 rfl ?_
    refine k_iload_n C d_Mo_apart_12 0 rfl ?_
    refine k_isub C d_Mo_apart_13 ?_
    obtain rfl := Option.some.inj h
    exact k_iret C q d_Mo_apart_14
  · have h := (if_neg c1).symm.trans h
    refine k_iload_n C d_Mo_apart_5 0 rfl ?_
    refine k_iload_n C d_Mo_apart_6 1 rfl ?_
    refine k_isub C d_Mo_apart_7 ?_
    refine k_goto C 14 d_Mo_apart_8 (by decide) ?_
    obtain rfl := Option.some.inj h
    exact k_iret C q d_Mo_apart_14

def b_Mo_carry_17 (m : MD) : Option (Int32 × MD) := lt ((x_up m.1 83 27 ((m.1 83 27) + 1), m.2)) fun (m1 : MD) => gK m1.2.2 (gI ((m1.1 83 27) - 1) 38 (some (m1.1 m1.2.2 ((m1.1 83 27) - 1).toNatClampNeg, m1)))
theorem t_Mo_carry_17 {g : GC} {X : MX} (C : Cx g X c_Mo_carry 2 n_Mo 0) {r : Int32 × MD} {xx : XD} {oo : Nat → Int64} (q : RtI g X (some .int) r.1 (xx, r.2, oo)) (m : MD) (h : b_Mo_carry_17 m = some r) : Wk g X 2 17 [(0, .ref (g_a g 83))] [] (xx, m, oo) := by
  unfold b_Mo_carry_17 at h
  refine k_aload_n C d_Mo_carry_17 0 rfl ?_
  refine k_dup C d_Mo_carry_18 rfl ?_
  refine kg_Mo_192 C d_Mo_carry_19 ?_
  refine k_iconst C 1 d_Mo_carry_22 ic_1 ?_
  refine k_iadd C d_Mo_carry_23 ?_
  obtain ⟨m1, em1, h⟩ := lt_some h
  refine kp_Mo_192 C em1 d_Mo_carry_24 ?_
  refine k_aload_n C d_Mo_carry_27 0 rfl ?_
  obtain ⟨i2, h⟩ := gK_some h
  refine kg_Mo_189 C i2 d_Mo_carry_28 ?_
  refine k_aload_n C d_Mo_carry_31 0 rfl ?_
  refine kg_Mo_192 C d_Mo_carry_32 ?_
  refine k_iconst C 1 d_Mo_carry_35 ic_1 ?_
  refine k_isub C d_Mo_carry_36 ?_
  obtain ⟨i3, h⟩ := gI_some h
  refine k_ialdK C i2 i3 d_Mo_carry_37 ?_
  obtain rfl := Option.some.inj h
  exact k_iret C q d_Mo_carry_38

def f_Mo_carry (v1 : Int32) (m : MD) : Option (Int32 × MD) := (if m.1 83 28 = 0 then b_Mo_carry_17 m else gK m.2.2 (gI (m.1 83 27) 38 (lt ((x_up m.1 m.2.2 (m.1 83 27).toNatClampNeg v1, m.2)) fun (m3 : MD) => b_Mo_carry_17 m3)))
theorem m_Mo_carry {g : GC} (hg : gOk g) (l : Launch)  (v1 : Int32) (m : MD) (xx : XD) (oo : Nat → Int64) (r : Int32 × MD) (h : f_Mo_carry v1 m = some r) : Mi g l y_Mo_carry c_Mo_carry 2 (some .int) 0 [.ref (g_a g 83), .int v1] (xx, m, oo) r.1 (xx, r.2, oo) := by
  refine m_i hg pn_Mo rfl fun X q C => ?_
  refine k_sub (lv' := [(0, .ref (g_a g 83)), (1, .int v1)]) [0, 1] rfl ?_
  unfold f_Mo_carry at h
  refine k_aload_n C d_Mo_carry_0 0 rfl ?_
  refine kg_Mo_186 C d_Mo_carry_1 ?_
  refine k_if_eq C 17 d_Mo_carry_4 (by decide) (fun c1 => ?_) (fun c1 => ?_)
  · have h := (if_pos c1).symm.trans h
    exact k_sub [0] rfl (t_Mo_carry_17 C q m h)
  · have h := (if_neg c1).symm.trans h
    refine k_aload_n C d_Mo_carry_7 0 rfl ?_
    obtain ⟨i2, h⟩ := gK_some h
    refine kg_Mo_189 C i2 d_Mo_carry_8 ?_
    refine k_aload_n C d_Mo_carry_11 0 rfl ?_
    refine kg_Mo_192 C d_Mo_carry_12 ?_
    refine k_iload_n C d_Mo_carry_15 1 rfl ?_
    obtain ⟨i4, h⟩ := gI_some h
    obtain ⟨m3, em3, h⟩ := lt_some h
    refine k_iastK C i2 i4 em3 d_Mo_carry_16 ?_
    exact k_sub [0] rfl (t_Mo_carry_17 C q m3 h)

def f_Mo_costOf (v0 : Int32) (v1 : Int32) (m : MD) : Option (Int32 × MD) := (if v0 = 1 then some (1, m) else (if v0 = 2 then some (2 + v1, m) else (if v0 = 3 then some (4, m) else (if v0 = 4 then some (7, m) else (if v0 = 5 then some (1, m) else (if v0 = 6 then some (4 + v1, m) else (if v0 = 7 then some (4, m) else (some (2, m)))))))))
theorem m_Mo_costOf {g : GC} (hg : gOk g) (l : Launch)  (v0 : Int32) (v1 : Int32) (m : MD) (xx : XD) (oo : Nat → Int64) (r : Int32 × MD) (h : f_Mo_costOf v0 v1 m = some r) : Mi g l y_Mo_costOf c_Mo_costOf 2 (some .int) 0 [.int v0, .int v1] (xx, m, oo) r.1 (xx, r.2, oo) := by
  refine m_i hg pn_Mo rfl fun X q C => ?_
  refine k_sub (lv' := [(0, .int v0), (1, .int v1)]) [0, 1] rfl ?_
  unfold f_Mo_costOf at h
  refine k_iload_n C d_Mo_costOf_0 0 rfl ?_
  by_cases c1 : v0 = 1
  · have h := (if_pos c1).symm.trans h
    refine k_tabin C (43) 44 d_Mo_costOf_1 (by rw [c1]; decide) (by rw [c1]; decide) (by rw [c1]; decide) (by decide) ?_
    refine k_iconst C 1 d_Mo_costOf_44 ic_1 ?_
    obtain rfl := Option.some.inj h
    exact k_iret C q d_Mo_costOf_45
  have h := (if_neg c1).symm.trans h
  by_cases c2 : v0 = 2
  · have h := (if_pos c2).symm.trans h
    refine k_tabin C (45) 46 d_Mo_costOf_1 (by rw [c2]; decide) (by rw [c2]; decide) (by rw [c2]; decide) (by decide) ?_
    refine k_iconst C 2 d_Mo_costOf_46 ic_2 ?_
    refine k_iload_n C d_Mo_costOf_47 1 rfl ?_
    refine k_iadd C d_Mo_costOf_48 ?_
    obtain rfl := Option.some.inj h
    exact k_iret C q d_Mo_costOf_49
  have h := (if_neg c2).symm.trans h
  by_cases c3 : v0 = 3
  · have h := (if_pos c3).symm.trans h
    refine k_tabin C (49) 50 d_Mo_costOf_1 (by rw [c3]; decide) (by rw [c3]; decide) (by rw [c3]; decide) (by decide) ?_
    refine k_iconst C 4 d_Mo_costOf_50 ic_4 ?_
    obtain rfl := Option.some.inj h
    exact k_iret C q d_Mo_costOf_51
  have h := (if_neg c3).symm.trans h
  by_cases c4 : v0 = 4
  · have h := (if_pos c4).symm.trans h
    refine k_tabin C (51) 52 d_Mo_costOf_1 (by rw [c4]; decide) (by rw [c4]; decide) (by rw [c4]; decide) (by decide) ?_
    refine k_bipush C 7 d_Mo_costOf_52 bp_7 ?_
    obtain rfl := Option.some.inj h
    exact k_iret C q d_Mo_costOf_54
  have h := (if_neg c4).symm.trans h
  by_cases c5 : v0 = 5
  · have h := (if_pos c5).symm.trans h
    refine k_tabin C (43) 44 d_Mo_costOf_1 (by rw [c5]; decide) (by rw [c5]; decide) (by rw [c5]; decide) (by decide) ?_
    refine k_iconst C 1 d_Mo_costOf_44 ic_1 ?_
    obtain rfl := Option.some.inj h
    exact k_iret C q d_Mo_costOf_45
  have h := (if_neg c5).symm.trans h
  by_cases c6 : v0 = 6
  · have h := (if_pos c6).symm.trans h
    refine k_tabin C (54) 55 d_Mo_costOf_1 (by rw [c6]; decide) (by rw [c6]; decide) (by rw [c6]; decide) (by decide) ?_
    refine k_iconst C 4 d_Mo_costOf_55 ic_4 ?_
    refine k_iload_n C d_Mo_costOf_56 1 rfl ?_
    refine k_iadd C d_Mo_costOf_57 ?_
    obtain rfl := Option.some.inj h
    exact k_iret C q d_Mo_costOf_58
  have h := (if_neg c6).symm.trans h
  by_cases c7 : v0 = 7
  · have h := (if_pos c7).symm.trans h
    refine k_tabin C (49) 50 d_Mo_costOf_1 (by rw [c7]; decide) (by rw [c7]; decide) (by rw [c7]; decide) (by decide) ?_
    refine k_iconst C 4 d_Mo_costOf_50 ic_4 ?_
    obtain rfl := Option.some.inj h
    exact k_iret C q d_Mo_costOf_51
  have h := (if_neg c7).symm.trans h
  have ac1 : ¬ v0.toInt = 1 := nti c1
  have ac2 : ¬ v0.toInt = 2 := nti c2
  have ac3 : ¬ v0.toInt = 3 := nti c3
  have ac4 : ¬ v0.toInt = 4 := nti c4
  have ac5 : ¬ v0.toInt = 5 := nti c5
  have ac6 : ¬ v0.toInt = 6 := nti c6
  have ac7 : ¬ v0.toInt = 7 := nti c7
  refine k_tabout C 59 d_Mo_costOf_1 (by omega) (by decide) ?_
  refine k_iconst C 2 d_Mo_costOf_59 ic_2 ?_
  obtain rfl := Option.some.inj h
  exact k_iret C q d_Mo_costOf_60

def b_Mo_divisor_6 : Nat → Int64 → Int64 → MD → Option (Int64 × MD)
  | 0, _, _, _ => none
  | n + 1, v4, v6, m => (if lg_cmp v6 0 = 0 then some (v4, m) else if v6 = 0 then none else b_Mo_divisor_6 n v6 (l_rem v4 v6) m)
theorem t_Mo_divisor_6 {g : GC} {X : MX} (C : Cx g X c_Mo_divisor 10 n_Mo 0) {r : Int64 × MD} {xx : XD} {oo : Nat → Int64} (q : RtL g X (some .long) r.1 (xx, r.2, oo)) : ∀ (n : Nat) (v4 : Int64) (v6 : Int64) (m : MD) (h : b_Mo_divisor_6 n v4 v6 m = some r), Wk g X 10 6 [(4, .long v4), (6, .long v6)] [] (xx, m, oo) := by
  intro n
  induction n with
  | zero =>
    intro v4 v6 m h
    rw [b_Mo_divisor_6] at h
    cases h
  | succ n ih =>
    intro v4 v6 m h
    rw [b_Mo_divisor_6] at h
    refine k_lload C d_Mo_divisor_6 1 rfl ?_
    refine k_lconst C 0 d_Mo_divisor_8 rfl ?_
    refine k_lcmp C d_Mo_divisor_9 ?_
    refine k_if_eq C 31 d_Mo_divisor_10 (by decide) (fun c1 => ?_) (fun c1 => ?_)
    · have h := (if_pos c1).symm.trans h
      refine k_lload C d_Mo_divisor_31 0 rfl ?_
      obtain rfl := Option.some.inj h
      exact k_lret C q d_Mo_divisor_33
    · have h := (if_neg c1).symm.trans h
      refine k_lload C d_Mo_divisor_13 0 rfl ?_
      refine k_lload C d_Mo_divisor_15 1 rfl ?_
      by_cases c2 : v6 = 0
      · rw [if_pos c2] at h; cases h
      have h := (if_neg c2).symm.trans h
      refine k_lrem C c2 d_Mo_divisor_17 ?_
      refine k_lstore C (lv' := [(8, .long (l_rem v4 v6)), (4, .long v4), (6, .long v6)]) d_Mo_divisor_18 rfl rfl ?_
      refine k_lload C d_Mo_divisor_20 2 rfl ?_
      refine k_lstore C (lv' := [(4, .long v6), (8, .long (l_rem v4 v6)), (6, .long v6)]) d_Mo_divisor_22 rfl rfl ?_
      refine k_lload C d_Mo_divisor_24 1 rfl ?_
      refine k_lstore C (lv' := [(6, .long (l_rem v4 v6)), (4, .long v6), (8, .long (l_rem v4 v6))]) d_Mo_divisor_26 rfl rfl ?_
      refine k_goto C 6 d_Mo_divisor_28 (by decide) ?_
      exact k_sub [1, 0] rfl (ih v6 (l_rem v4 v6) m h)

def f_Mo_divisor (v0 : Int64) (v2 : Int64) (m : MD) : Option (Int64 × MD) := b_Mo_divisor_6 fu v0 v2 m
theorem m_Mo_divisor {g : GC} (hg : gOk g) (l : Launch)  (v0 : Int64) (v2 : Int64) (m : MD) (xx : XD) (oo : Nat → Int64) (r : Int64 × MD) (h : f_Mo_divisor v0 v2 m = some r) : Ml g l y_Mo_divisor c_Mo_divisor 10 (some .long) 0 [.long v0, .long v2] (xx, m, oo) r.1 (xx, r.2, oo) := by
  refine m_l hg pn_Mo rfl fun X q C => ?_
  refine k_sub (lv' := [(0, .long v0), (2, .long v2)]) [0, 1] rfl ?_
  unfold f_Mo_divisor at h
  refine k_lload_n C d_Mo_divisor_0 0 rfl ?_
  refine k_lstore C (lv' := [(4, .long v0), (0, .long v0), (2, .long v2)]) d_Mo_divisor_1 rfl rfl ?_
  refine k_lload_n C d_Mo_divisor_3 2 rfl ?_
  refine k_lstore C (lv' := [(6, .long v2), (4, .long v0), (0, .long v0), (2, .long v2)]) d_Mo_divisor_4 rfl rfl ?_
  exact k_sub [1, 0] rfl (t_Mo_divisor_6 C q fu v0 v2 m h)

def f_Mo_drawBelow (v1 : Int32) (m : MD) : Option (Int32 × MD) := lt ((x_up m.1 83 33 (((m.1 83 33) * 1103515245) + 12345), m.2)) fun (m1 : MD) => if v1 = 0 then none else some (x_rem (((m1.1 83 33) &&& 2147483647) / 65536) v1, m1)
theorem m_Mo_drawBelow {g : GC} (hg : gOk g) (l : Launch)  (v1 : Int32) (m : MD) (xx : XD) (oo : Nat → Int64) (r : Int32 × MD) (h : f_Mo_drawBelow v1 m = some r) : Mi g l y_Mo_drawBelow c_Mo_drawBelow 2 (some .int) 0 [.ref (g_a g 83), .int v1] (xx, m, oo) r.1 (xx, r.2, oo) := by
  refine m_i hg pn_Mo rfl fun X q C => ?_
  refine k_sub (lv' := [(0, .ref (g_a g 83)), (1, .int v1)]) [0, 1] rfl ?_
  unfold f_Mo_drawBelow at h
  refine k_aload_n C d_Mo_drawBelow_0 0 rfl ?_
  refine k_aload_n C d_Mo_drawBelow_1 0 rfl ?_
  refine kg_Mo_282 C d_Mo_drawBelow_2 ?_
  refine k_ldcw C 1103515245 l_1359 d_Mo_drawBelow_5 ?_
  refine k_imul C d_Mo_drawBelow_8 ?_
  refine k_sipush C 12345 d_Mo_drawBelow_9 sp_12345 ?_
  refine k_iadd C d_Mo_drawBelow_12 ?_
  obtain ⟨m1, em1, h⟩ := lt_some h
  refine kp_Mo_282 C em1 d_Mo_drawBelow_13 ?_
  refine k_aload_n C d_Mo_drawBelow_16 0 rfl ?_
  refine kg_Mo_282 C d_Mo_drawBelow_17 ?_
  refine k_ldcw C 2147483647 l_1360 d_Mo_drawBelow_20 ?_
  refine k_iand C d_Mo_drawBelow_23 ?_
  refine k_ldcw C 65536 l_1361 d_Mo_drawBelow_24 ?_
  refine k_idiv C nz_65536 d_Mo_drawBelow_27 ?_
  refine k_iload_n C d_Mo_drawBelow_28 1 rfl ?_
  by_cases c2 : v1 = 0
  · rw [if_pos c2] at h; cases h
  have h := (if_neg c2).symm.trans h
  refine k_irem C c2 d_Mo_drawBelow_29 ?_
  obtain rfl := Option.some.inj h
  exact k_iret C q d_Mo_drawBelow_30

def f_Mo_hasBit (v0 : Int32) (v1 : Int32) (m : MD) : Option (Int32 × MD) := (if (v0 >>> (v1 &&& 31)) &&& 1 = 1 then some (1, m) else some (0, m))
theorem m_Mo_hasBit {g : GC} (hg : gOk g) (l : Launch)  (v0 : Int32) (v1 : Int32) (m : MD) (xx : XD) (oo : Nat → Int64) (r : Int32 × MD) (h : f_Mo_hasBit v0 v1 m = some r) : Mi g l y_Mo_hasBit c_Mo_hasBit 2 (some .boolean) 0 [.int v0, .int v1] (xx, m, oo) r.1 (xx, r.2, oo) := by
  refine m_i hg pn_Mo rfl fun X q C => ?_
  refine k_sub (lv' := [(0, .int v0), (1, .int v1)]) [0, 1] rfl ?_
  unfold f_Mo_hasBit at h
  refine k_iload_n C d_Mo_hasBit_0 0 rfl ?_
  refine k_iload_n C d_Mo_hasBit_1 1 rfl ?_
  refine k_ishr C d_Mo_hasBit_2 ?_
  refine k_iconst C 1 d_Mo_hasBit_3 ic_1 ?_
  refine k_iand C d_Mo_hasBit_4 ?_
  refine k_iconst C 1 d_Mo_hasBit_5 ic_1 ?_
  refine k_icmp_ne C 13 d_Mo_hasBit_6 (by decide) (fun c1 => ?_) (fun c1 => ?_)
  · have h := (if_neg c1).symm.trans h
    refine k_iconst C 0 d_Mo_hasBit_13 ic_0 ?_
    obtain rfl := Option.some.inj h
    exact k_zret C q (Or.inl rfl) d_Mo_hasBit_14
  · have h := (if_pos c1).symm.trans h
    refine k_iconst C 1 d_Mo_hasBit_9 ic_1 ?_
    refine k_goto C 14 d_Mo_hasBit_10 (by decide) ?_
    obtain rfl := Option.some.inj h
    exact k_zret C q (Or.inr rfl) d_Mo_hasBit_14

def f_Mo_hasBy (v1 : Int32) (v2 : Int32) (v3 : Int32) (m : MD) : Option (Int32 × MD) := gI (v1 + v2) 4 (gI ((2 - v1) + v3) 4 ((if m.1 102 ((2 - v1) + v3).toNatClampNeg ≤ m.1 102 (v1 + v2).toNatClampNeg then some (0 + v2, m) else some (3 + v2, m))))
theorem m_Mo_hasBy {g : GC} (hg : gOk g) (l : Launch)  (v1 : Int32) (v2 : Int32) (v3 : Int32) (m : MD) (xx : XD) (oo : Nat → Int64) (r : Int32 × MD) (h : f_Mo_hasBy v1 v2 v3 m = some r) : Mi g l y_Mo_hasBy c_Mo_hasBy 4 (some .int) 0 [.ref (g_a g 83), .int v1, .int v2, .int v3] (xx, m, oo) r.1 (xx, r.2, oo) := by
  refine m_i hg pn_Mo rfl fun X q C => ?_
  refine k_sub (lv' := [(0, .ref (g_a g 83)), (1, .int v1), (2, .int v2), (3, .int v3)]) [0, 1, 2, 3] rfl ?_
  unfold f_Mo_hasBy at h
  refine k_aload_n C d_Mo_hasBy_0 0 rfl ?_
  refine kg_Mo_65 C d_Mo_hasBy_1 ?_
  refine k_iload_n C d_Mo_hasBy_4 1 rfl ?_
  refine k_iload_n C d_Mo_hasBy_5 2 rfl ?_
  refine k_iadd C d_Mo_hasBy_6 ?_
  obtain ⟨i1, h⟩ := gI_some h
  refine k_ialdM C (by decide) (by decide) i1 d_Mo_hasBy_7 ?_
  refine k_aload_n C d_Mo_hasBy_8 0 rfl ?_
  refine kg_Mo_65 C d_Mo_hasBy_9 ?_
  refine k_iconst C 2 d_Mo_hasBy_12 ic_2 ?_
  refine k_iload_n C d_Mo_hasBy_13 1 rfl ?_
  refine k_isub C d_Mo_hasBy_14 ?_
  refine k_iload_n C d_Mo_hasBy_15 3 rfl ?_
  refine k_iadd C d_Mo_hasBy_16 ?_
  obtain ⟨i2, h⟩ := gI_some h
  refine k_ialdM C (by decide) (by decide) i2 d_Mo_hasBy_17 ?_
  refine k_icmp_ge C 25 d_Mo_hasBy_18 (by decide) (fun c3 => ?_) (fun c3 => ?_)
  · have h := (if_pos c3).symm.trans h
    refine k_iconst C 0 d_Mo_hasBy_25 ic_0 ?_
    refine k_iload_n C d_Mo_hasBy_26 2 rfl ?_
    refine k_iadd C d_Mo_hasBy_27 ?_
    obtain rfl := Option.some.inj h
    exact k_iret C q d_Mo_hasBy_28
  · have h := (if_neg c3).symm.trans h
    refine k_iconst C 3 d_Mo_hasBy_21 ic_3 ?_
    refine k_goto C 26 d_Mo_hasBy_22 (by decide) ?_
    refine k_iload_n C d_Mo_hasBy_26 2 rfl ?_
    refine k_iadd C d_Mo_hasBy_27 ?_
    obtain rfl := Option.some.inj h
    exact k_iret C q d_Mo_hasBy_28

def f_Mo_here (m : MD) : Option (Int32 × MD) := gI (m.1 83 15) 8 ((if m.1 93 (m.1 83 15).toNatClampNeg ≤ m.1 83 16 then some ((-999), m) else gI ((100 * (m.1 83 15)) + (m.1 83 16)) 800 (some ((m.2.1 94 ((100 * (m.1 83 15)) + (m.1 83 16)).toNatClampNeg).toInt32, m))))
theorem m_Mo_here {g : GC} (hg : gOk g) (l : Launch)  (m : MD) (xx : XD) (oo : Nat → Int64) (r : Int32 × MD) (h : f_Mo_here m = some r) : Mi g l y_Mo_here c_Mo_here 1 (some .int) 0 [.ref (g_a g 83)] (xx, m, oo) r.1 (xx, r.2, oo) := by
  refine m_i hg pn_Mo rfl fun X q C => ?_
  refine k_sub (lv' := [(0, .ref (g_a g 83))]) [0] rfl ?_
  unfold f_Mo_here at h
  refine k_aload_n C d_Mo_here_0 0 rfl ?_
  refine kg_Mo_118 C d_Mo_here_1 ?_
  refine k_aload_n C d_Mo_here_4 0 rfl ?_
  refine kg_Mo_37 C d_Mo_here_5 ?_
  refine k_aload_n C d_Mo_here_8 0 rfl ?_
  refine kg_Mo_121 C d_Mo_here_9 ?_
  obtain ⟨i1, h⟩ := gI_some h
  refine k_ialdM C (by decide) (by decide) i1 d_Mo_here_12 ?_
  refine k_icmp_ge C 37 d_Mo_here_13 (by decide) (fun c2 => ?_) (fun c2 => ?_)
  · have h := (if_pos c2).symm.trans h
    refine k_sipush C (-999) d_Mo_here_37 sp_m999 ?_
    obtain rfl := Option.some.inj h
    exact k_iret C q d_Mo_here_40
  · have h := (if_neg c2).symm.trans h
    refine k_aload_n C d_Mo_here_16 0 rfl ?_
    refine kg_Mo_40 C d_Mo_here_17 ?_
    refine k_bipush C 100 d_Mo_here_20 bp_100 ?_
    refine k_aload_n C d_Mo_here_22 0 rfl ?_
    refine kg_Mo_121 C d_Mo_here_23 ?_
    refine k_imul C d_Mo_here_26 ?_
    refine k_aload_n C d_Mo_here_27 0 rfl ?_
    refine kg_Mo_118 C d_Mo_here_28 ?_
    refine k_iadd C d_Mo_here_31 ?_
    obtain ⟨i3, h⟩ := gI_some h
    refine k_lald94 C i3 d_Mo_here_32 ?_
    refine k_l2i C d_Mo_here_33 ?_
    refine k_goto C 40 d_Mo_here_34 (by decide) ?_
    obtain rfl := Option.some.inj h
    exact k_iret C q d_Mo_here_40

def f_Mo_in (v0 : Int64) (v2 : Int64) (v4 : Int64) (m : MD) : Option (Int32 × MD) := (if lg_cmp v0 v2 < 0 then some (0, m) else (if 0 < lg_cmp v0 v4 then some (0, m) else some (1, m)))
theorem m_Mo_in {g : GC} (hg : gOk g) (l : Launch)  (v0 : Int64) (v2 : Int64) (v4 : Int64) (m : MD) (xx : XD) (oo : Nat → Int64) (r : Int32 × MD) (h : f_Mo_in v0 v2 v4 m = some r) : Mi g l y_Mo_in c_Mo_in 6 (some .boolean) 0 [.long v0, .long v2, .long v4] (xx, m, oo) r.1 (xx, r.2, oo) := by
  refine m_i hg pn_Mo rfl fun X q C => ?_
  refine k_sub (lv' := [(0, .long v0), (2, .long v2), (4, .long v4)]) [0, 1, 2] rfl ?_
  unfold f_Mo_in at h
  refine k_lload_n C d_Mo_in_0 0 rfl ?_
  refine k_lload_n C d_Mo_in_1 1 rfl ?_
  refine k_lcmp C d_Mo_in_2 ?_
  refine k_if_lt C 17 d_Mo_in_3 (by decide) (fun c1 => ?_) (fun c1 => ?_)
  · have h := (if_pos c1).symm.trans h
    refine k_iconst C 0 d_Mo_in_17 ic_0 ?_
    obtain rfl := Option.some.inj h
    exact k_zret C q (Or.inl rfl) d_Mo_in_18
  · have h := (if_neg c1).symm.trans h
    refine k_lload_n C d_Mo_in_6 0 rfl ?_
    refine k_lload C d_Mo_in_7 2 rfl ?_
    refine k_lcmp C d_Mo_in_9 ?_
    refine k_if_gt C 17 d_Mo_in_10 (by decide) (fun c2 => ?_) (fun c2 => ?_)
    · have h := (if_pos c2).symm.trans h
      refine k_iconst C 0 d_Mo_in_17 ic_0 ?_
      obtain rfl := Option.some.inj h
      exact k_zret C q (Or.inl rfl) d_Mo_in_18
    · have h := (if_neg c2).symm.trans h
      refine k_iconst C 1 d_Mo_in_13 ic_1 ?_
      refine k_goto C 18 d_Mo_in_14 (by decide) ?_
      obtain rfl := Option.some.inj h
      exact k_zret C q (Or.inr rfl) d_Mo_in_18

def b_Mo_isLetter_30 (m : MD) : Option (Int32 × MD) := some (1, m)
theorem t_Mo_isLetter_30 {g : GC} {X : MX} (C : Cx g X c_Mo_isLetter 1 n_Mo 0) {r : Int32 × MD} {xx : XD} {oo : Nat → Int64} (q : RtI g X (some .boolean) r.1 (xx, r.2, oo)) (m : MD) (h : b_Mo_isLetter_30 m = some r) : Wk g X 1 30 [] [] (xx, m, oo) := by
  unfold b_Mo_isLetter_30 at h
  refine k_iconst C 1 d_Mo_isLetter_30 ic_1 ?_
  refine k_goto C 35 d_Mo_isLetter_31 (by decide) ?_
  obtain rfl := Option.some.inj h
  exact k_zret C q (Or.inr rfl) d_Mo_isLetter_35

def f_Mo_isLetter (v0 : Int32) (m : MD) : Option (Int32 × MD) := (if v0 = 104 then b_Mo_isLetter_30 m else (if v0 = 114 then b_Mo_isLetter_30 m else (if v0 = 111 then b_Mo_isLetter_30 m else (if v0 = 100 then b_Mo_isLetter_30 m else (if v0 = 108 then b_Mo_isLetter_30 m else some (0, m))))))
theorem m_Mo_isLetter {g : GC} (hg : gOk g) (l : Launch)  (v0 : Int32) (m : MD) (xx : XD) (oo : Nat → Int64) (r : Int32 × MD) (h : f_Mo_isLetter v0 m = some r) : Mi g l y_Mo_isLetter c_Mo_isLetter 1 (some .boolean) 0 [.int v0] (xx, m, oo) r.1 (xx, r.2, oo) := by
  refine m_i hg pn_Mo rfl fun X q C => ?_
  refine k_sub (lv' := [(0, .int v0)]) [0] rfl ?_
  unfold f_Mo_isLetter at h
  refine k_iload_n C d_Mo_isLetter_0 0 rfl ?_
  refine k_bipush C 104 d_Mo_isLetter_1 bp_104 ?_
  refine k_icmp_eq C 30 d_Mo_isLetter_3 (by decide) (fun c1 => ?_) (fun c1 => ?_)
  · have h := (if_pos c1).symm.trans h
    exact k_sub [] rfl (t_Mo_isLetter_30 C q m h)
  · have h := (if_neg c1).symm.trans h
    refine k_iload_n C d_Mo_isLetter_6 0 rfl ?_
    refine k_bipush C 114 d_Mo_isLetter_7 bp_114 ?_
    refine k_icmp_eq C 30 d_Mo_isLetter_9 (by decide) (fun c2 => ?_) (fun c2 => ?_)
    · have h := (if_pos c2).symm.trans h
      exact k_sub [] rfl (t_Mo_isLetter_30 C q m h)
    · have h := (if_neg c2).symm.trans h
      refine k_iload_n C d_Mo_isLetter_12 0 rfl ?_
      refine k_bipush C 111 d_Mo_isLetter_13 bp_111 ?_
      refine k_icmp_eq C 30 d_Mo_isLetter_15 (by decide) (fun c3 => ?_) (fun c3 => ?_)
      · have h := (if_pos c3).symm.trans h
        exact k_sub [] rfl (t_Mo_isLetter_30 C q m h)
      · have h := (if_neg c3).symm.trans h
        refine k_iload_n C d_Mo_isLetter_18 0 rfl ?_
        refine k_bipush C 100 d_Mo_isLetter_19 bp_100 ?_
        refine k_icmp_eq C 30 d_Mo_isLetter_21 (by decide) (fun c4 => ?_) (fun c4 => ?_)
        · have h := (if_pos c4).symm.trans h
          exact k_sub [] rfl (t_Mo_isLetter_30 C q m h)
        · have h := (if_neg c4).symm.trans h
          refine k_iload_n C d_Mo_isLetter_24 0 rfl ?_
          refine k_bipush C 108 d_Mo_isLetter_25 bp_108 ?_
          refine k_icmp_ne C 34 d_Mo_isLetter_27 (by decide) (fun c5 => ?_) (fun c5 => ?_)
          · have h := (if_neg c5).symm.trans h
            refine k_iconst C 0 d_Mo_isLetter_34 ic_0 ?_
            obtain rfl := Option.some.inj h
            exact k_zret C q (Or.inl rfl) d_Mo_isLetter_35
          · have h := (if_pos c5).symm.trans h
            exact k_sub [] rfl (t_Mo_isLetter_30 C q m h)

def f_Mo_least (v0 : Int32) (v1 : Int32) (m : MD) : Option (Int32 × MD) := (if v1 ≤ v0 then some (v1, m) else some (v0, m))
theorem m_Mo_least {g : GC} (hg : gOk g) (l : Launch)  (v0 : Int32) (v1 : Int32) (m : MD) (xx : XD) (oo : Nat → Int64) (r : Int32 × MD) (h : f_Mo_least v0 v1 m = some r) : Mi g l y_Mo_least c_Mo_least 2 (some .int) 0 [.int v0, .int v1] (xx, m, oo) r.1 (xx, r.2, oo) := by
  refine m_i hg pn_Mo rfl fun X q C => ?_
  refine k_sub (lv' := [(0, .int v0), (1, .int v1)]) [0, 1] rfl ?_
  unfold f_Mo_least at h
  refine k_iload_n C d_Mo_least_0 0 rfl ?_
  refine k_iload_n C d_Mo_least_1 1 rfl ?_
  refine k_icmp_ge C 9 d_Mo_least_2 (by decide) (fun c1 => ?_) (fun c1 => ?_)
  · have h := (if_pos c1).symm.trans h
    refine k_iload_n C d_Mo_least_9 1 rfl ?_
    obtain rfl := Option.some.inj h
    exact k_iret C q d_Mo_least_10
  · have h := (if_neg c1).symm.trans h
    refine k_iload_n C d_Mo_least_5 0 rfl ?_
    refine k_goto C 10 d_Mo_least_6 (by decide) ?_
    obtain rfl := Option.some.inj h
    exact k_iret C q d_Mo_least_10

def f_Mo_narrowed (v0 : Int32) (v1 : Int32) (m : MD) : Option (Int64 × MD) := (if v1 = 0 then some (v0.toInt8.toInt32.toInt64, m) else (if v1 = 1 then some (v0.toInt16.toInt32.toInt64, m) else some (v0.toInt64, m)))
theorem m_Mo_narrowed {g : GC} (hg : gOk g) (l : Launch)  (v0 : Int32) (v1 : Int32) (m : MD) (xx : XD) (oo : Nat → Int64) (r : Int64 × MD) (h : f_Mo_narrowed v0 v1 m = some r) : Ml g l y_Mo_narrowed c_Mo_narrowed 2 (some .long) 0 [.int v0, .int v1] (xx, m, oo) r.1 (xx, r.2, oo) := by
  refine m_l hg pn_Mo rfl fun X q C => ?_
  refine k_sub (lv' := [(0, .int v0), (1, .int v1)]) [0, 1] rfl ?_
  unfold f_Mo_narrowed at h
  refine k_iload_n C d_Mo_narrowed_0 1 rfl ?_
  refine k_if_ne C 10 d_Mo_narrowed_1 (by decide) (fun c1 => ?_) (fun c1 => ?_)
  · have h := (if_neg c1).symm.trans h
    refine k_iload_n C d_Mo_narrowed_10 1 rfl ?_
    refine k_iconst C 1 d_Mo_narrowed_11 ic_1 ?_
    refine k_icmp_ne C 21 d_Mo_narrowed_12 (by decide) (fun c2 => ?_) (fun c2 => ?_)
    · have h := (if_neg c2).symm.trans h
      refine k_iload_n C d_Mo_narrowed_21 0 rfl ?_
      refine k_i2l C d_Mo_narrowed_22 ?_
      obtain rfl := Option.some.inj h
      exact k_lret C q d_Mo_narrowed_23
    · have h := (if_pos c2).symm.trans h
      refine k_iload_n C d_Mo_narrowed_15 0 rfl ?_
      refine k_i2s C d_Mo_narrowed_16 ?_
      refine k_i2l C d_Mo_narrowed_17 ?_
      refine k_goto C 23 d_Mo_narrowed_18 (by decide) ?_
      obtain rfl := Option.some.inj h
      exact k_lret C q d_Mo_narrowed_23
  · have h := (if_pos c1).symm.trans h
    refine k_iload_n C d_Mo_narrowed_4 0 rfl ?_
    refine k_i2b C d_Mo_narrowed_5 ?_
    refine k_i2l C d_Mo_narrowed_6 ?_
    refine k_goto C 23 d_Mo_narrowed_7 (by decide) ?_
    obtain rfl := Option.some.inj h
    exact k_lret C q d_Mo_narrowed_23

def f_Mo_paceOf (v1 : Int32) (m : MD) : Option (Int32 × MD) := gI v1 7 (gI v1 7 (lt (m.1 84 v1.toNatClampNeg) fun (y3 : Int32) => (if y3 = 1 then some (2, m) else (if y3 = 2 then gI v1 7 (some (1 + ((m.1 88 v1.toNatClampNeg) / 2), m)) else (if y3 = 3 then some (1 + ((m.1 88 v1.toNatClampNeg) / 4), m) else (if y3 = 4 then some (1 + ((m.1 88 v1.toNatClampNeg) / 4), m) else (if y3 = 5 then some ((1 + ((m.1 88 v1.toNatClampNeg) / 4)) + 1, m) else (if y3 = 6 then gI v1 7 (some ((1 + ((m.1 88 v1.toNatClampNeg) / 4)) + ((m.1 85 v1.toNatClampNeg) / 3), m)) else (if y3 = 7 then some (3, m) else (some (1 + ((m.1 88 v1.toNatClampNeg) / 4), m)))))))))))
theorem m_Mo_paceOf {g : GC} (hg : gOk g) (l : Launch)  (v1 : Int32) (m : MD) (xx : XD) (oo : Nat → Int64) (r : Int32 × MD) (h : f_Mo_paceOf v1 m = some r) : Mi g l y_Mo_paceOf c_Mo_paceOf 3 (some .int) 0 [.ref (g_a g 83), .int v1] (xx, m, oo) r.1 (xx, r.2, oo) := by
  refine m_i hg pn_Mo rfl fun X q C => ?_
  refine k_sub (lv' := [(0, .ref (g_a g 83)), (1, .int v1)]) [0, 1] rfl ?_
  unfold f_Mo_paceOf at h
  refine k_iconst C 1 d_Mo_paceOf_0 ic_1 ?_
  refine k_aload_n C d_Mo_paceOf_1 0 rfl ?_
  refine kg_Mo_22 C d_Mo_paceOf_2 ?_
  refine k_iload_n C d_Mo_paceOf_5 1 rfl ?_
  obtain ⟨i1, h⟩ := gI_some h
  refine k_ialdM C (by decide) (by decide) i1 d_Mo_paceOf_6 ?_
  refine k_iconst C 4 d_Mo_paceOf_7 ic_4 ?_
  refine k_idiv C nz_4 d_Mo_paceOf_8 ?_
  refine k_iadd C d_Mo_paceOf_9 ?_
  refine k_istore_n C (lv' := [(2, .int (1 + ((m.1 88 v1.toNatClampNeg) / 4))), (0, .ref (g_a g 83)), (1, .int v1)]) d_Mo_paceOf_10 rfl rfl ?_
  refine k_aload_n C d_Mo_paceOf_11 1 rfl ?_
  refine kg_Mo_7 C d_Mo_paceOf_12 ?_
  refine k_iload_n C d_Mo_paceOf_15 2 rfl ?_
  obtain ⟨i2, h⟩ := gI_some h
  refine k_ialdM C (by decide) (by decide) i2 d_Mo_paceOf_16 ?_
  obtain ⟨y3, ey3, h⟩ := lt_some h
  refine k_nmI ey3 ?_
  by_cases c4 : y3 = 1
  · have h := (if_pos c4).symm.trans h
    refine k_tabin C (43) 60 d_Mo_paceOf_17 (by rw [c4]; decide) (by rw [c4]; decide) (by rw [c4]; decide) (by decide) ?_
    refine k_iconst C 2 d_Mo_paceOf_60 ic_2 ?_
    obtain rfl := Option.some.inj h
    exact k_iret C q d_Mo_paceOf_61
  have h := (if_neg c4).symm.trans h
  by_cases c5 : y3 = 2
  · have h := (if_pos c5).symm.trans h
    refine k_tabin C (45) 62 d_Mo_paceOf_17 (by rw [c5]; decide) (by rw [c5]; decide) (by rw [c5]; decide) (by decide) ?_
    refine k_iconst C 1 d_Mo_paceOf_62 ic_1 ?_
    refine k_aload_n C d_Mo_paceOf_63 1 rfl ?_
    refine kg_Mo_22 C d_Mo_paceOf_64 ?_
    refine k_iload_n C d_Mo_paceOf_67 2 rfl ?_
    obtain ⟨i6, h⟩ := gI_some h
    refine k_ialdM C (by decide) (by decide) i6 d_Mo_paceOf_68 ?_
    refine k_iconst C 2 d_Mo_paceOf_69 ic_2 ?_
    refine k_idiv C nz_2 d_Mo_paceOf_70 ?_
    refine k_iadd C d_Mo_paceOf_71 ?_
    obtain rfl := Option.some.inj h
    exact k_iret C q d_Mo_paceOf_72
  have h := (if_neg c5).symm.trans h
  by_cases c7 : y3 = 3
  · have h := (if_pos c7).symm.trans h
    refine k_tabin C (73) 90 d_Mo_paceOf_17 (by rw [c7]; decide) (by rw [c7]; decide) (by rw [c7]; decide) (by decide) ?_
    refine k_iload_n C d_Mo_paceOf_90 0 rfl ?_
    obtain rfl := Option.some.inj h
    exact k_iret C q d_Mo_paceOf_91
  have h := (if_neg c7).symm.trans h
  by_cases c8 : y3 = 4
  · have h := (if_pos c8).symm.trans h
    refine k_tabin C (73) 90 d_Mo_paceOf_17 (by rw [c8]; decide) (by rw [c8]; decide) (by rw [c8]; decide) (by decide) ?_
    refine k_iload_n C d_Mo_paceOf_90 0 rfl ?_
    obtain rfl := Option.some.inj h
    exact k_iret C q d_Mo_paceOf_91
  have h := (if_neg c8).symm.trans h
  by_cases c9 : y3 = 5
  · have h := (if_pos c9).symm.trans h
    refine k_tabin C (56) 73 d_Mo_paceOf_17 (by rw [c9]; decide) (by rw [c9]; decide) (by rw [c9]; decide) (by decide) ?_
    refine k_iload_n C d_Mo_paceOf_73 0 rfl ?_
    refine k_iconst C 1 d_Mo_paceOf_74 ic_1 ?_
    refine k_iadd C d_Mo_paceOf_75 ?_
    obtain rfl := Option.some.inj h
    exact k_iret C q d_Mo_paceOf_76
  have h := (if_neg c9).symm.trans h
  by_cases c10 : y3 = 6
  · have h := (if_pos c10).symm.trans h
    refine k_tabin C (60) 77 d_Mo_paceOf_17 (by rw [c10]; decide) (by rw [c10]; decide) (by rw [c10]; decide) (by decide) ?_
    refine k_iload_n C d_Mo_paceOf_77 0 rfl ?_
    refine k_aload_n C d_Mo_paceOf_78 1 rfl ?_
    refine kg_Mo_13 C d_Mo_paceOf_79 ?_
    refine k_iload_n C d_Mo_paceOf_82 2 rfl ?_
    obtain ⟨i11, h⟩ := gI_some h
    refine k_ialdM C (by decide) (by decide) i11 d_Mo_paceOf_83 ?_
    refine k_iconst C 3 d_Mo_paceOf_84 ic_3 ?_
    refine k_idiv C nz_3 d_Mo_paceOf_85 ?_
    refine k_iadd C d_Mo_paceOf_86 ?_
    obtain rfl := Option.some.inj h
    exact k_iret C q d_Mo_paceOf_87
  have h := (if_neg c10).symm.trans h
  by_cases c12 : y3 = 7
  · have h := (if_pos c12).symm.trans h
    refine k_tabin C (71) 88 d_Mo_paceOf_17 (by rw [c12]; decide) (by rw [c12]; decide) (by rw [c12]; decide) (by decide) ?_
    refine k_iconst C 3 d_Mo_paceOf_88 ic_3 ?_
    obtain rfl := Option.some.inj h
    exact k_iret C q d_Mo_paceOf_89
  have h := (if_neg c12).symm.trans h
  have ac4 : ¬ y3.toInt = 1 := nti c4
  have ac5 : ¬ y3.toInt = 2 := nti c5
  have ac7 : ¬ y3.toInt = 3 := nti c7
  have ac8 : ¬ y3.toInt = 4 := nti c8
  have ac9 : ¬ y3.toInt = 5 := nti c9
  have ac10 : ¬ y3.toInt = 6 := nti c10
  have ac12 : ¬ y3.toInt = 7 := nti c12
  refine k_tabout C 90 d_Mo_paceOf_17 (by omega) (by decide) ?_
  refine k_iload_n C d_Mo_paceOf_90 0 rfl ?_
  obtain rfl := Option.some.inj h
  exact k_iret C q d_Mo_paceOf_91

def f_Mo_skipped (v1 : Int32) (m : MD) : Option (Int64 × MD) := gI v1 8 ((if m.1 92 v1.toNatClampNeg = 0 then some ((-128), m) else gI v1 8 ((if m.1 92 v1.toNatClampNeg = 1 then some ((-32768), m) else some ((-2147483648), m)))))
theorem m_Mo_skipped {g : GC} (hg : gOk g) (l : Launch)  (v1 : Int32) (m : MD) (xx : XD) (oo : Nat → Int64) (r : Int64 × MD) (h : f_Mo_skipped v1 m = some r) : Ml g l y_Mo_skipped c_Mo_skipped 2 (some .long) 0 [.ref (g_a g 83), .int v1] (xx, m, oo) r.1 (xx, r.2, oo) := by
  refine m_l hg pn_Mo rfl fun X q C => ?_
  refine k_sub (lv' := [(0, .ref (g_a g 83)), (1, .int v1)]) [0, 1] rfl ?_
  unfold f_Mo_skipped at h
  refine k_aload_n C d_Mo_skipped_0 0 rfl ?_
  refine kg_Mo_34 C d_Mo_skipped_1 ?_
  refine k_iload_n C d_Mo_skipped_4 1 rfl ?_
  obtain ⟨i1, h⟩ := gI_some h
  refine k_ialdM C (by decide) (by decide) i1 d_Mo_skipped_5 ?_
  refine k_if_ne C 15 d_Mo_skipped_6 (by decide) (fun c2 => ?_) (fun c2 => ?_)
  · have h := (if_neg c2).symm.trans h
    refine k_aload_n C d_Mo_skipped_15 0 rfl ?_
    refine kg_Mo_34 C d_Mo_skipped_16 ?_
    refine k_iload_n C d_Mo_skipped_19 1 rfl ?_
    obtain ⟨i3, h⟩ := gI_some h
    refine k_ialdM C (by decide) (by decide) i3 d_Mo_skipped_20 ?_
    refine k_iconst C 1 d_Mo_skipped_21 ic_1 ?_
    refine k_icmp_ne C 31 d_Mo_skipped_22 (by decide) (fun c4 => ?_) (fun c4 => ?_)
    · have h := (if_neg c4).symm.trans h
      refine k_ldc2 C (-2147483648) l_1307 d_Mo_skipped_31 ?_
      obtain rfl := Option.some.inj h
      exact k_lret C q d_Mo_skipped_34
    · have h := (if_pos c4).symm.trans h
      refine k_ldc2 C (-32768) l_1306 d_Mo_skipped_25 ?_
      refine k_goto C 34 d_Mo_skipped_28 (by decide) ?_
      obtain rfl := Option.some.inj h
      exact k_lret C q d_Mo_skipped_34
  · have h := (if_pos c2).symm.trans h
    refine k_ldc2 C (-128) l_1305 d_Mo_skipped_9 ?_
    refine k_goto C 34 d_Mo_skipped_12 (by decide) ?_
    obtain rfl := Option.some.inj h
    exact k_lret C q d_Mo_skipped_34

def b_Mo_takeChain_15 (v1 : Int32) (v2 : Int32) (m : MD) : Option (Unit × MD) := lt ((x_up m.1 83 30 v1, m.2)) fun (m1 : MD) => lt ((x_up m1.1 83 31 v2, m1.2)) fun (m2 : MD) => some ((), m2)
theorem t_Mo_takeChain_15 {g : GC} {X : MX} (C : Cx g X c_Mo_takeChain 3 n_Mo 0) {r : Unit × MD} {xx : XD} {oo : Nat → Int64} (q : RtV g X none (xx, r.2, oo)) (v1 : Int32) (v2 : Int32) (m : MD) (h : b_Mo_takeChain_15 v1 v2 m = some r) : Wk g X 3 15 [(0, .ref (g_a g 83)), (1, .int v1), (2, .int v2)] [] (xx, m, oo) := by
  unfold b_Mo_takeChain_15 at h
  refine k_aload_n C d_Mo_takeChain_15 0 rfl ?_
  refine k_iload_n C d_Mo_takeChain_16 1 rfl ?_
  obtain ⟨m1, em1, h⟩ := lt_some h
  refine kp_Mo_218 C em1 d_Mo_takeChain_17 ?_
  refine k_aload_n C d_Mo_takeChain_20 0 rfl ?_
  refine k_iload_n C d_Mo_takeChain_21 2 rfl ?_
  obtain ⟨m2, em2, h⟩ := lt_some h
  refine kp_Mo_221 C em2 d_Mo_takeChain_22 ?_
  obtain rfl := Option.some.inj h
  exact k_vret C q d_Mo_takeChain_25

def f_Mo_takeChain (v1 : Int32) (v2 : Int32) (m : MD) : Option (Unit × MD) := (if m.1 83 30 < 0 then b_Mo_takeChain_15 v1 v2 m else (if m.1 83 30 ≤ v1 then some ((), m) else b_Mo_takeChain_15 v1 v2 m))
theorem m_Mo_takeChain {g : GC} (hg : gOk g) (l : Launch)  (v1 : Int32) (v2 : Int32) (m : MD) (xx : XD) (oo : Nat → Int64) (r : Unit × MD) (h : f_Mo_takeChain v1 v2 m = some r) : Mv g l y_Mo_takeChain c_Mo_takeChain 3 none 0 [.ref (g_a g 83), .int v1, .int v2] (xx, m, oo) (xx, r.2, oo) := by
  refine m_v hg pn_Mo rfl fun X q C => ?_
  refine k_sub (lv' := [(0, .ref (g_a g 83)), (1, .int v1), (2, .int v2)]) [0, 1, 2] rfl ?_
  unfold f_Mo_takeChain at h
  refine k_aload_n C d_Mo_takeChain_0 0 rfl ?_
  refine kg_Mo_218 C d_Mo_takeChain_1 ?_
  refine k_if_lt C 15 d_Mo_takeChain_4 (by decide) (fun c1 => ?_) (fun c1 => ?_)
  · have h := (if_pos c1).symm.trans h
    exact k_sub [0, 1, 2] rfl (t_Mo_takeChain_15 C q v1 v2 m h)
  · have h := (if_neg c1).symm.trans h
    refine k_iload_n C d_Mo_takeChain_7 1 rfl ?_
    refine k_aload_n C d_Mo_takeChain_8 0 rfl ?_
    refine kg_Mo_218 C d_Mo_takeChain_9 ?_
    refine k_icmp_ge C 25 d_Mo_takeChain_12 (by decide) (fun c2 => ?_) (fun c2 => ?_)
    · have h := (if_pos c2).symm.trans h
      obtain rfl := Option.some.inj h
      exact k_vret C q d_Mo_takeChain_25
    · have h := (if_neg c2).symm.trans h
      exact k_sub [0, 1, 2] rfl (t_Mo_takeChain_15 C q v1 v2 m h)

def f_Mo_thrown (m : MD) : Option (Int32 × MD) := some (m.1 83 14, m)
theorem m_Mo_thrown {g : GC} (hg : gOk g) (l : Launch)  (m : MD) (xx : XD) (oo : Nat → Int64) (r : Int32 × MD) (h : f_Mo_thrown m = some r) : Mi g l y_Mo_thrown c_Mo_thrown 1 (some .int) 0 [.ref (g_a g 83)] (xx, m, oo) r.1 (xx, r.2, oo) := by
  refine m_i hg pn_Mo rfl fun X q C => ?_
  refine k_sub (lv' := [(0, .ref (g_a g 83))]) [0] rfl ?_
  unfold f_Mo_thrown at h
  refine k_aload_n C d_Mo_thrown_0 0 rfl ?_
  refine kg_Mo_71 C d_Mo_thrown_1 ?_
  obtain rfl := Option.some.inj h
  exact k_iret C q d_Mo_thrown_4

def b_Mo_walkOf_36 (m : MD) : Option (Int32 × MD) := some (2, m)
theorem t_Mo_walkOf_36 {g : GC} {X : MX} (C : Cx g X c_Mo_walkOf 2 n_Mo 0) {r : Int32 × MD} {xx : XD} {oo : Nat → Int64} (q : RtI g X (some .int) r.1 (xx, r.2, oo)) (m : MD) (h : b_Mo_walkOf_36 m = some r) : Wk g X 2 36 [] [] (xx, m, oo) := by
  unfold b_Mo_walkOf_36 at h
  refine k_iconst C 2 d_Mo_walkOf_36 ic_2 ?_
  refine k_goto C 41 d_Mo_walkOf_37 (by decide) ?_
  obtain rfl := Option.some.inj h
  exact k_iret C q d_Mo_walkOf_41

def f_Mo_walkOf (v1 : Int32) (m : MD) : Option (Int32 × MD) := gI v1 7 ((if m.1 84 v1.toNatClampNeg = 7 then some (3, m) else gI v1 7 ((if m.1 84 v1.toNatClampNeg = 1 then b_Mo_walkOf_36 m else gI v1 7 ((if m.1 84 v1.toNatClampNeg = 6 then b_Mo_walkOf_36 m else some (1, m)))))))
theorem m_Mo_walkOf {g : GC} (hg : gOk g) (l : Launch)  (v1 : Int32) (m : MD) (xx : XD) (oo : Nat → Int64) (r : Int32 × MD) (h : f_Mo_walkOf v1 m = some r) : Mi g l y_Mo_walkOf c_Mo_walkOf 2 (some .int) 0 [.ref (g_a g 83), .int v1] (xx, m, oo) r.1 (xx, r.2, oo) := by
  refine m_i hg pn_Mo rfl fun X q C => ?_
  refine k_sub (lv' := [(0, .ref (g_a g 83)), (1, .int v1)]) [0, 1] rfl ?_
  unfold f_Mo_walkOf at h
  refine k_aload_n C d_Mo_walkOf_0 0 rfl ?_
  refine kg_Mo_7 C d_Mo_walkOf_1 ?_
  refine k_iload_n C d_Mo_walkOf_4 1 rfl ?_
  obtain ⟨i1, h⟩ := gI_some h
  refine k_ialdM C (by decide) (by decide) i1 d_Mo_walkOf_5 ?_
  refine k_bipush C 7 d_Mo_walkOf_6 bp_7 ?_
  refine k_icmp_ne C 15 d_Mo_walkOf_8 (by decide) (fun c2 => ?_) (fun c2 => ?_)
  · have h := (if_neg c2).symm.trans h
    refine k_aload_n C d_Mo_walkOf_15 0 rfl ?_
    refine kg_Mo_7 C d_Mo_walkOf_16 ?_
    refine k_iload_n C d_Mo_walkOf_19 1 rfl ?_
    obtain ⟨i3, h⟩ := gI_some h
    refine k_ialdM C (by decide) (by decide) i3 d_Mo_walkOf_20 ?_
    refine k_iconst C 1 d_Mo_walkOf_21 ic_1 ?_
    refine k_icmp_eq C 36 d_Mo_walkOf_22 (by decide) (fun c4 => ?_) (fun c4 => ?_)
    · have h := (if_pos c4).symm.trans h
      exact k_sub [] rfl (t_Mo_walkOf_36 C q m h)
    · have h := (if_neg c4).symm.trans h
      refine k_aload_n C d_Mo_walkOf_25 0 rfl ?_
      refine kg_Mo_7 C d_Mo_walkOf_26 ?_
      refine k_iload_n C d_Mo_walkOf_29 1 rfl ?_
      obtain ⟨i5, h⟩ := gI_some h
      refine k_ialdM C (by decide) (by decide) i5 d_Mo_walkOf_30 ?_
      refine k_bipush C 6 d_Mo_walkOf_31 bp_6 ?_
      refine k_icmp_ne C 40 d_Mo_walkOf_33 (by decide) (fun c6 => ?_) (fun c6 => ?_)
      · have h := (if_neg c6).symm.trans h
        refine k_iconst C 1 d_Mo_walkOf_40 ic_1 ?_
        obtain rfl := Option.some.inj h
        exact k_iret C q d_Mo_walkOf_41
      · have h := (if_pos c6).symm.trans h
        exact k_sub [] rfl (t_Mo_walkOf_36 C q m h)
  · have h := (if_pos c2).symm.trans h
    refine k_iconst C 3 d_Mo_walkOf_11 ic_3 ?_
    refine k_goto C 41 d_Mo_walkOf_12 (by decide) ?_
    obtain rfl := Option.some.inj h
    exact k_iret C q d_Mo_walkOf_41

def b_Mo_carryAll_53 : Nat → Int32 → MD → Option (Unit × MD)
  | 0, _, _ => none
  | n + 1, v3, m => (if 7 ≤ v3 then some ((), m) else gI v3 7 ((f_Mo_carry (m.1 84 v3.toNatClampNeg) m).bind fun p3 => (gI v3 7 (lt ((x_up p3.2.1 84 v3.toNatClampNeg p3.1, p3.2.2)) fun (m4 : MD) => gI v3 7 ((f_Mo_carry (m4.1 85 v3.toNatClampNeg) m4).bind fun p7 => (gI v3 7 (lt ((x_up p7.2.1 85 v3.toNatClampNeg p7.1, p7.2.2)) fun (m8 : MD) => gI v3 7 ((f_Mo_carry (m8.1 86 v3.toNatClampNeg) m8).bind fun p11 => (gI v3 7 (lt ((x_up p11.2.1 86 v3.toNatClampNeg p11.1, p11.2.2)) fun (m12 : MD) => gI v3 7 ((f_Mo_carry (m12.1 87 v3.toNatClampNeg) m12).bind fun p15 => (gI v3 7 (lt ((x_up p15.2.1 87 v3.toNatClampNeg p15.1, p15.2.2)) fun (m16 : MD) => gI v3 7 ((f_Mo_carry (m16.1 88 v3.toNatClampNeg) m16).bind fun p19 => (gI v3 7 (lt ((x_up p19.2.1 88 v3.toNatClampNeg p19.1, p19.2.2)) fun (m20 : MD) => b_Mo_carryAll_53 n (v3 + 1) m20))))))))))))))))
theorem t_Mo_carryAll_53 {g : GC} {X : MX} (C : Cx g X c_Mo_carryAll 4 n_Mo 1) {r : Unit × MD} {xx : XD} {oo : Nat → Int64} (q : RtV g X none (xx, r.2, oo)) : ∀ (n : Nat) (v3 : Int32) (m : MD) (h : b_Mo_carryAll_53 n v3 m = some r), Wk g X 4 53 [(0, .ref (g_a g 83)), (3, .int v3)] [] (xx, m, oo) := by
  intro n
  induction n with
  | zero =>
    intro v3 m h
    rw [b_Mo_carryAll_53] at h
    cases h
  | succ n ih =>
    intro v3 m h
    rw [b_Mo_carryAll_53] at h
    refine k_iload_n C d_Mo_carryAll_53 1 rfl ?_
    refine k_bipush C 7 d_Mo_carryAll_54 bp_7 ?_
    refine k_icmp_ge C 145 d_Mo_carryAll_56 (by decide) (fun c1 => ?_) (fun c1 => ?_)
    · have h := (if_pos c1).symm.trans h
      obtain rfl := Option.some.inj h
      exact k_vret C q d_Mo_carryAll_145
    · have h := (if_neg c1).symm.trans h
      refine k_aload_n C d_Mo_carryAll_59 0 rfl ?_
      refine kg_Mo_7 C d_Mo_carryAll_60 ?_
      refine k_iload_n C d_Mo_carryAll_63 1 rfl ?_
      refine k_aload_n C d_Mo_carryAll_64 0 rfl ?_
      refine k_aload_n C d_Mo_carryAll_65 0 rfl ?_
      refine kg_Mo_7 C d_Mo_carryAll_66 ?_
      refine k_iload_n C d_Mo_carryAll_69 1 rfl ?_
      obtain ⟨i2, h⟩ := gI_some h
      refine k_ialdM C (by decide) (by decide) i2 d_Mo_carryAll_70 ?_
      obtain ⟨p3, ep3, h⟩ := bd_some h
      refine k_callVi C q_Mo_195 (fun l => m_Mo_carry (cx_g C) l (m.1 84 v3.toNatClampNeg) m xx oo p3 ep3) rfl rfl (rtV_c q) (by decide) sh_Mo rfl rfl rfl rfl d_Mo_carryAll_71 ?_
      obtain ⟨i5, h⟩ := gI_some h
      obtain ⟨m4, em4, h⟩ := lt_some h
      refine k_iastM C (by decide) (by decide) i5 em4 d_Mo_carryAll_74 ?_
      refine k_aload_n C d_Mo_carryAll_75 0 rfl ?_
      refine kg_Mo_13 C d_Mo_carryAll_76 ?_
      refine k_iload_n C d_Mo_carryAll_79 1 rfl ?_
      refine k_aload_n C d_Mo_carryAll_80 0 rfl ?_
      refine k_aload_n C d_Mo_carryAll_81 0 rfl ?_
      refine kg_Mo_13 C d_Mo_carryAll_82 ?_
      refine k_iload_n C d_Mo_carryAll_85 1 rfl ?_
      obtain ⟨i6, h⟩ := gI_some h
      refine k_ialdM C (by decide) (by decide) i6 d_Mo_carryAll_86 ?_
      obtain ⟨p7, ep7, h⟩ := bd_some h
      refine k_callVi C q_Mo_195 (fun l => m_Mo_carry (cx_g C) l (m4.1 85 v3.toNatClampNeg) m4 xx oo p7 ep7) rfl rfl (rtV_c q) (by decide) sh_Mo rfl rfl rfl rfl d_Mo_carryAll_87 ?_
      obtain ⟨i9, h⟩ := gI_some h
      obtain ⟨m8, em8, h⟩ := lt_some h
      refine k_iastM C (by decide) (by decide) i9 em8 d_Mo_carryAll_90 ?_
      refine k_aload_n C d_Mo_carryAll_91 0 rfl ?_
      refine kg_Mo_16 C d_Mo_carryAll_92 ?_
      refine k_iload_n C d_Mo_carryAll_95 1 rfl ?_
      refine k_aload_n C d_Mo_carryAll_96 0 rfl ?_
      refine k_aload_n C d_Mo_carryAll_97 0 rfl ?_
      refine kg_Mo_16 C d_Mo_carryAll_98 ?_
      refine k_iload_n C d_Mo_carryAll_101 1 rfl ?_
      obtain ⟨i10, h⟩ := gI_some h
      refine k_ialdM C (by decide) (by decide) i10 d_Mo_carryAll_102 ?_
      obtain ⟨p11, ep11, h⟩ := bd_some h
      refine k_callVi C q_Mo_195 (fun l => m_Mo_carry (cx_g C) l (m8.1 86 v3.toNatClampNeg) m8 xx oo p11 ep11) rfl rfl (rtV_c q) (by decide) sh_Mo rfl rfl rfl rfl d_Mo_carryAll_103 ?_
      obtain ⟨i13, h⟩ := gI_some h
      obtain ⟨m12, em12, h⟩ := lt_some h
      refine k_iastM C (by decide) (by decide) i13 em12 d_Mo_carryAll_106 ?_
      refine k_aload_n C d_Mo_carryAll_107 0 rfl ?_
      refine kg_Mo_19 C d_Mo_carryAll_108 ?_
      refine k_iload_n C d_Mo_carryAll_111 1 rfl ?_
      refine k_aload_n C d_Mo_carryAll_112 0 rfl ?_
      refine k_aload_n C d_Mo_carryAll_113 0 rfl ?_
      refine kg_Mo_19 C d_Mo_carryAll_114 ?_
      refine k_iload_n C d_Mo_carryAll_117 1 rfl ?_
      obtain ⟨i14, h⟩ := gI_some h
      refine k_ialdM C (by decide) (by decide) i14 d_Mo_carryAll_118 ?_
      obtain ⟨p15, ep15, h⟩ := bd_some h
      refine k_callVi C q_Mo_195 (fun l => m_Mo_carry (cx_g C) l (m12.1 87 v3.toNatClampNeg) m12 xx oo p15 ep15) rfl rfl (rtV_c q) (by decide) sh_Mo rfl rfl rfl rfl d_Mo_carryAll_119 ?_
      obtain ⟨i17, h⟩ := gI_some h
      obtain ⟨m16, em16, h⟩ := lt_some h
      refine k_iastM C (by decide) (by decide) i17 em16 d_Mo_carryAll_122 ?_
      refine k_aload_n C d_Mo_carryAll_123 0 rfl ?_
      refine kg_Mo_22 C d_Mo_carryAll_124 ?_
      refine k_iload_n C d_Mo_carryAll_127 1 rfl ?_
      refine k_aload_n C d_Mo_carryAll_128 0 rfl ?_
      refine k_aload_n C d_Mo_carryAll_129 0 rfl ?_
      refine kg_Mo_22 C d_Mo_carryAll_130 ?_
      refine k_iload_n C d_Mo_carryAll_133 1 rfl ?_
      obtain ⟨i18, h⟩ := gI_some h
      refine k_ialdM C (by decide) (by decide) i18 d_Mo_carryAll_134 ?_
      obtain ⟨p19, ep19, h⟩ := bd_some h
      refine k_callVi C q_Mo_195 (fun l => m_Mo_carry (cx_g C) l (m16.1 88 v3.toNatClampNeg) m16 xx oo p19 ep19) rfl rfl (rtV_c q) (by decide) sh_Mo rfl rfl rfl rfl d_Mo_carryAll_135 ?_
      obtain ⟨i21, h⟩ := gI_some h
      obtain ⟨m20, em20, h⟩ := lt_some h
      refine k_iastM C (by decide) (by decide) i21 em20 d_Mo_carryAll_138 ?_
      refine k_inc C (lv' := [(3, .int (v3 + 1)), (0, .ref (g_a g 83))]) d_Mo_carryAll_139 1 rfl ic_1 rfl rfl ?_
      refine k_goto C 53 d_Mo_carryAll_142 (by decide) ?_
      exact k_sub [1, 0] rfl (ih (v3 + 1) m20 h)

def f_Mo_carryAll (o1 : Nat) (v2 : Int32) (m : MD) : Option (Unit × MD) := lt ((m.1, m.2.1, o1)) fun (m1 : MD) => gB v2 (lt ((x_up m1.1 83 28 v2, m1.2)) fun (m3 : MD) => lt ((x_up m3.1 83 27 0, m3.2)) fun (m4 : MD) => (f_Mo_carry (m4.1 83 0) m4).bind fun p5 => (lt ((x_up p5.2.1 83 0 p5.1, p5.2.2)) fun (m6 : MD) => (f_Mo_carry (m6.1 83 6) m6).bind fun p7 => (lt ((x_up p7.2.1 83 6 p7.1, p7.2.2)) fun (m8 : MD) => (f_Mo_carry (m8.1 83 7) m8).bind fun p9 => (lt ((x_up p9.2.1 83 7 p9.1, p9.2.2)) fun (m10 : MD) => b_Mo_carryAll_53 fu 0 m10))))
theorem m_Mo_carryAll {g : GC} (hg : gOk g) (l : Launch)  (o1 : Nat) (h_o1 : 98 ≤ o1 ∧ o1 < 102) (v2 : Int32) (m : MD) (xx : XD) (oo : Nat → Int64) (r : Unit × MD) (h : f_Mo_carryAll o1 v2 m = some r) : Mv g l y_Mo_carryAll c_Mo_carryAll 4 none 1 [.ref (g_a g 83), .ref (g_a g o1), .int v2] (xx, m, oo) (xx, r.2, oo) := by
  refine m_v hg pn_Mo rfl fun X q C => ?_
  refine k_sub (lv' := [(0, .ref (g_a g 83)), (1, .ref (g_a g o1)), (2, .int v2)]) [0, 1, 2] rfl ?_
  unfold f_Mo_carryAll at h
  refine k_aload_n C d_Mo_carryAll_0 0 rfl ?_
  refine k_aload_n C d_Mo_carryAll_1 1 rfl ?_
  obtain ⟨m1, em1, h⟩ := lt_some h
  refine kp_Mo_189 C h_o1 em1 d_Mo_carryAll_2 ?_
  refine k_aload_n C d_Mo_carryAll_5 0 rfl ?_
  refine k_iload_n C d_Mo_carryAll_6 2 rfl ?_
  obtain ⟨i2, h⟩ := gB_some h
  obtain ⟨m3, em3, h⟩ := lt_some h
  refine kp_Mo_186 C i2 em3 d_Mo_carryAll_7 ?_
  refine k_aload_n C d_Mo_carryAll_10 0 rfl ?_
  refine k_iconst C 0 d_Mo_carryAll_11 ic_0 ?_
  obtain ⟨m4, em4, h⟩ := lt_some h
  refine kp_Mo_192 C em4 d_Mo_carryAll_12 ?_
  refine k_aload_n C d_Mo_carryAll_15 0 rfl ?_
  refine k_aload_n C d_Mo_carryAll_16 0 rfl ?_
  refine k_aload_n C d_Mo_carryAll_17 0 rfl ?_
  refine kg_Mo_81 C d_Mo_carryAll_18 ?_
  obtain ⟨p5, ep5, h⟩ := bd_some h
  refine k_callVi C q_Mo_195 (fun l => m_Mo_carry (cx_g C) l (m4.1 83 0) m4 xx oo p5 ep5) rfl rfl (rtV_c q) (by decide) sh_Mo rfl rfl rfl rfl d_Mo_carryAll_21 ?_
  obtain ⟨m6, em6, h⟩ := lt_some h
  refine kp_Mo_81 C em6 d_Mo_carryAll_24 ?_
  refine k_aload_n C d_Mo_carryAll_27 0 rfl ?_
  refine k_aload_n C d_Mo_carryAll_28 0 rfl ?_
  refine k_aload_n C d_Mo_carryAll_29 0 rfl ?_
  refine kg_Mo_88 C d_Mo_carryAll_30 ?_
  obtain ⟨p7, ep7, h⟩ := bd_some h
  refine k_callVi C q_Mo_195 (fun l => m_Mo_carry (cx_g C) l (m6.1 83 6) m6 xx oo p7 ep7) rfl rfl (rtV_c q) (by decide) sh_Mo rfl rfl rfl rfl d_Mo_carryAll_33 ?_
  obtain ⟨m8, em8, h⟩ := lt_some h
  refine kp_Mo_88 C em8 d_Mo_carryAll_36 ?_
  refine k_aload_n C d_Mo_carryAll_39 0 rfl ?_
  refine k_aload_n C d_Mo_carryAll_40 0 rfl ?_
  refine k_aload_n C d_Mo_carryAll_41 0 rfl ?_
  refine kg_Mo_95 C d_Mo_carryAll_42 ?_
  obtain ⟨p9, ep9, h⟩ := bd_some h
  refine k_callVi C q_Mo_195 (fun l => m_Mo_carry (cx_g C) l (m8.1 83 7) m8 xx oo p9 ep9) rfl rfl (rtV_c q) (by decide) sh_Mo rfl rfl rfl rfl d_Mo_carryAll_45 ?_
  obtain ⟨m10, em10, h⟩ := lt_some h
  refine kp_Mo_95 C em10 d_Mo_carryAll_48 ?_
  refine k_iconst C 0 d_Mo_carryAll_51 ic_0 ?_
  refine k_istore_n C (lv' := [(3, .int 0), (0, .ref (g_a g 83)), (1, .ref (g_a g o1)), (2, .int v2)]) d_Mo_carryAll_52 rfl rfl ?_
  exact k_sub [1, 0] rfl (t_Mo_carryAll_53 C q fu 0 m10 h)

def b_Mo_copy_174 (v3 : Int32) (v4 : Int32) (v5 : Int32) : Nat → Int32 → MD → Option (Int32 × MD)
  | 0, _, _ => none
  | n + 1, v6, m => (if v5 ≤ v6 then some (v5, m) else gI v6 100 (gI (((100 * v3) + v4) + v6) 800 (lt ((m.1, x_up m.2.1 94 (((100 * v3) + v4) + v6).toNatClampNeg (m.2.1 103 v6.toNatClampNeg), m.2.2)) fun (m3 : MD) => b_Mo_copy_174 v3 v4 v5 n (v6 + 1) m3)))
theorem t_Mo_copy_174 {g : GC} {X : MX} (C : Cx g X c_Mo_copy 7 n_Mo 1) {r : Int32 × MD} {xx : XD} {oo : Nat → Int64} (q : RtI g X (some .int) r.1 (xx, r.2, oo)) (v3 : Int32) (v4 : Int32) (v5 : Int32) : ∀ (n : Nat) (v6 : Int32) (m : MD) (h : b_Mo_copy_174 v3 v4 v5 n v6 m = some r), Wk g X 7 174 [(0, .ref (g_a g 83)), (3, .int v3), (4, .int v4), (5, .int v5), (6, .int v6)] [] (xx, m, oo) := by
  intro n
  induction n with
  | zero =>
    intro v6 m h
    rw [b_Mo_copy_174] at h
    cases h
  | succ n ih =>
    intro v6 m h
    rw [b_Mo_copy_174] at h
    refine k_iload C d_Mo_copy_174 4 rfl ?_
    refine k_iload C d_Mo_copy_176 3 rfl ?_
    refine k_icmp_ge C 209 d_Mo_copy_178 (by decide) (fun c1 => ?_) (fun c1 => ?_)
    · have h := (if_pos c1).symm.trans h
      refine k_iload C d_Mo_copy_209 3 rfl ?_
      obtain rfl := Option.some.inj h
      exact k_iret C q d_Mo_copy_211
    · have h := (if_neg c1).symm.trans h
      refine k_aload_n C d_Mo_copy_181 0 rfl ?_
      refine kg_Mo_40 C d_Mo_copy_182 ?_
      refine k_bipush C 100 d_Mo_copy_185 bp_100 ?_
      refine k_iload_n C d_Mo_copy_187 1 rfl ?_
      refine k_imul C d_Mo_copy_188 ?_
      refine k_iload C d_Mo_copy_189 2 rfl ?_
      refine k_iadd C d_Mo_copy_191 ?_
      refine k_iload C d_Mo_copy_192 4 rfl ?_
      refine k_iadd C d_Mo_copy_194 ?_
      refine k_aload_n C d_Mo_copy_195 0 rfl ?_
      refine kg_Mo_68 C d_Mo_copy_196 ?_
      refine k_iload C d_Mo_copy_199 4 rfl ?_
      obtain ⟨i2, h⟩ := gI_some h
      refine k_lald103 C i2 d_Mo_copy_201 ?_
      obtain ⟨i4, h⟩ := gI_some h
      obtain ⟨m3, em3, h⟩ := lt_some h
      refine k_last94 C i4 em3 d_Mo_copy_202 ?_
      refine k_inc C (lv' := [(6, .int (v6 + 1)), (0, .ref (g_a g 83)), (3, .int v3), (4, .int v4), (5, .int v5)]) d_Mo_copy_203 4 rfl ic_1 rfl rfl ?_
      refine k_goto C 174 d_Mo_copy_206 (by decide) ?_
      exact k_sub [1, 2, 3, 4, 0] rfl (ih (v6 + 1) m3 h)

def b_Mo_copy_137 (v1 : Int32) (v2 : Int32) (v3 : Int32) (v4 : Int32) (v5 : Int32) : Nat → Int32 → MD → Option (Int32 × MD)
  | 0, _, _ => none
  | n + 1, v6, m => (if v5 ≤ v6 then b_Mo_copy_174 v3 v4 v5 fu 0 m else gI (((100 * v1) + v2) + v6) 800 (gI v6 100 (lt ((m.1, x_up m.2.1 103 v6.toNatClampNeg (m.2.1 94 (((100 * v1) + v2) + v6).toNatClampNeg), m.2.2)) fun (m3 : MD) => b_Mo_copy_137 v1 v2 v3 v4 v5 n (v6 + 1) m3)))
theorem t_Mo_copy_137 {g : GC} {X : MX} (C : Cx g X c_Mo_copy 7 n_Mo 1) {r : Int32 × MD} {xx : XD} {oo : Nat → Int64} (q : RtI g X (some .int) r.1 (xx, r.2, oo)) (v1 : Int32) (v2 : Int32) (v3 : Int32) (v4 : Int32) (v5 : Int32) : ∀ (n : Nat) (v6 : Int32) (m : MD) (h : b_Mo_copy_137 v1 v2 v3 v4 v5 n v6 m = some r), Wk g X 7 137 [(0, .ref (g_a g 83)), (1, .int v1), (2, .int v2), (3, .int v3), (4, .int v4), (5, .int v5), (6, .int v6)] [] (xx, m, oo) := by
  intro n
  induction n with
  | zero =>
    intro v6 m h
    rw [b_Mo_copy_137] at h
    cases h
  | succ n ih =>
    intro v6 m h
    rw [b_Mo_copy_137] at h
    refine k_iload C d_Mo_copy_137 6 rfl ?_
    refine k_iload C d_Mo_copy_139 5 rfl ?_
    refine k_icmp_ge C 171 d_Mo_copy_141 (by decide) (fun c1 => ?_) (fun c1 => ?_)
    · have h := (if_pos c1).symm.trans h
      refine k_iconst C 0 d_Mo_copy_171 ic_0 ?_
      refine k_istore C (lv' := [(6, .int 0), (0, .ref (g_a g 83)), (1, .int v1), (2, .int v2), (3, .int v3), (4, .int v4), (5, .int v5)]) d_Mo_copy_172 rfl rfl ?_
      exact k_sub [1, 4, 5, 6, 0] rfl (t_Mo_copy_174 C q v3 v4 v5 fu 0 m h)
    · have h := (if_neg c1).symm.trans h
      refine k_aload_n C d_Mo_copy_144 0 rfl ?_
      refine kg_Mo_68 C d_Mo_copy_145 ?_
      refine k_iload C d_Mo_copy_148 6 rfl ?_
      refine k_aload_n C d_Mo_copy_150 0 rfl ?_
      refine kg_Mo_40 C d_Mo_copy_151 ?_
      refine k_bipush C 100 d_Mo_copy_154 bp_100 ?_
      refine k_iload_n C d_Mo_copy_156 1 rfl ?_
      refine k_imul C d_Mo_copy_157 ?_
      refine k_iload_n C d_Mo_copy_158 2 rfl ?_
      refine k_iadd C d_Mo_copy_159 ?_
      refine k_iload C d_Mo_copy_160 6 rfl ?_
      refine k_iadd C d_Mo_copy_162 ?_
      obtain ⟨i2, h⟩ := gI_some h
      refine k_lald94 C i2 d_Mo_copy_163 ?_
      obtain ⟨i4, h⟩ := gI_some h
      obtain ⟨m3, em3, h⟩ := lt_some h
      refine k_last103 C i4 em3 d_Mo_copy_164 ?_
      refine k_inc C (lv' := [(6, .int (v6 + 1)), (0, .ref (g_a g 83)), (1, .int v1), (2, .int v2), (3, .int v3), (4, .int v4), (5, .int v5)]) d_Mo_copy_165 6 rfl ic_1 rfl rfl ?_
      refine k_goto C 137 d_Mo_copy_168 (by decide) ?_
      exact k_sub [1, 2, 3, 4, 5, 6, 0] rfl (ih (v6 + 1) m3 h)

def f_Mo_copy (v1 : Int32) (v2 : Int32) (v3 : Int32) (v4 : Int32) (v5 : Int32) (m : MD) : Option (Int32 × MD) := lt ((x_up m.1 83 14 0, m.2)) fun (m1 : MD) => (f_Mo_in v1.toInt64 0 7 m1).bind fun p2 => ((if p2.1 = 0 then some ((-1), p2.2) else (f_Mo_in v3.toInt64 0 7 p2.2).bind fun p4 => ((if p4.1 = 0 then some ((-1), p4.2) else gI v1 8 ((if p4.2.1 89 v1.toNatClampNeg = 0 then some ((-11), p4.2) else gI v3 8 ((if p4.2.1 89 v3.toNatClampNeg = 0 then some ((-11), p4.2) else gI v1 8 ((if p4.2.1 89 v1.toNatClampNeg = 2 then gI v3 8 ((if p4.2.1 89 v3.toNatClampNeg = 2 then gI v1 8 (gI v3 8 ((if p4.2.1 92 v1.toNatClampNeg = p4.2.1 92 v3.toNatClampNeg then (if v5 < 0 then some ((-13), p4.2) else (if v2 < 0 then some ((-13), p4.2) else (if v4 < 0 then some ((-13), p4.2) else gI v1 8 ((if (p4.2.1 93 v1.toNatClampNeg) - v5 < v2 then some ((-13), p4.2) else gI v3 8 ((if v4 ≤ (p4.2.1 93 v3.toNatClampNeg) - v5 then b_Mo_copy_137 v1 v2 v3 v4 v5 fu 0 p4.2 else some ((-13), p4.2)))))))) else some ((-12), p4.2)))) else some ((-12), p4.2))) else some ((-12), p4.2)))))))))))
theorem m_Mo_copy {g : GC} (hg : gOk g) (l : Launch)  (v1 : Int32) (v2 : Int32) (v3 : Int32) (v4 : Int32) (v5 : Int32) (m : MD) (xx : XD) (oo : Nat → Int64) (r : Int32 × MD) (h : f_Mo_copy v1 v2 v3 v4 v5 m = some r) : Mi g l y_Mo_copy c_Mo_copy 7 (some .int) 1 [.ref (g_a g 83), .int v1, .int v2, .int v3, .int v4, .int v5] (xx, m, oo) r.1 (xx, r.2, oo) := by
  refine m_i hg pn_Mo rfl fun X q C => ?_
  refine k_sub (lv' := [(0, .ref (g_a g 83)), (1, .int v1), (2, .int v2), (3, .int v3), (4, .int v4), (5, .int v5)]) [0, 1, 2, 3, 4, 5] rfl ?_
  unfold f_Mo_copy at h
  refine k_aload_n C d_Mo_copy_0 0 rfl ?_
  refine k_iconst C 0 d_Mo_copy_1 ic_0 ?_
  obtain ⟨m1, em1, h⟩ := lt_some h
  refine kp_Mo_71 C em1 d_Mo_copy_2 ?_
  refine k_iload_n C d_Mo_copy_5 1 rfl ?_
  refine k_i2l C d_Mo_copy_6 ?_
  refine k_lconst C 0 d_Mo_copy_7 rfl ?_
  refine k_ldc2 C 7 l_1063 d_Mo_copy_8 ?_
  obtain ⟨p2, ep2, h⟩ := bd_some h
  refine k_callSi C q_Mo_77 (fun l => m_Mo_in (cx_g C) l v1.toInt64 0 7 m1 xx oo p2 ep2) rfl rfl (rtI_c q) rfl rfl rfl d_Mo_copy_11 ?_
  refine k_if_eq C 29 d_Mo_copy_14 (by decide) (fun c3 => ?_) (fun c3 => ?_)
  · have h := (if_pos c3).symm.trans h
    refine k_iconst C (-1) d_Mo_copy_29 ic_m1 ?_
    obtain rfl := Option.some.inj h
    exact k_iret C q d_Mo_copy_30
  · have h := (if_neg c3).symm.trans h
    refine k_iload_n C d_Mo_copy_17 3 rfl ?_
    refine k_i2l C d_Mo_copy_18 ?_
    refine k_lconst C 0 d_Mo_copy_19 rfl ?_
    refine k_ldc2 C 7 l_1063 d_Mo_copy_20 ?_
    obtain ⟨p4, ep4, h⟩ := bd_some h
    refine k_callSi C q_Mo_77 (fun l => m_Mo_in (cx_g C) l v3.toInt64 0 7 p2.2 xx oo p4 ep4) rfl rfl (rtI_c q) rfl rfl rfl d_Mo_copy_23 ?_
    refine k_if_ne C 31 d_Mo_copy_26 (by decide) (fun c5 => ?_) (fun c5 => ?_)
    · have h := (if_neg c5).symm.trans h
      refine k_aload_n C d_Mo_copy_31 0 rfl ?_
      refine kg_Mo_25 C d_Mo_copy_32 ?_
      refine k_iload_n C d_Mo_copy_35 1 rfl ?_
      obtain ⟨i6, h⟩ := gI_some h
      refine k_ialdM C (by decide) (by decide) i6 d_Mo_copy_36 ?_
      refine k_if_eq C 49 d_Mo_copy_37 (by decide) (fun c7 => ?_) (fun c7 => ?_)
      · have h := (if_pos c7).symm.trans h
        refine k_bipush C (-11) d_Mo_copy_49 bp_m11 ?_
        obtain rfl := Option.some.inj h
        exact k_iret C q d_Mo_copy_51
      · have h := (if_neg c7).symm.trans h
        refine k_aload_n C d_Mo_copy_40 0 rfl ?_
        refine kg_Mo_25 C d_Mo_copy_41 ?_
        refine k_iload_n C d_Mo_copy_44 3 rfl ?_
        obtain ⟨i8, h⟩ := gI_some h
        refine k_ialdM C (by decide) (by decide) i8 d_Mo_copy_45 ?_
        refine k_if_ne C 52 d_Mo_copy_46 (by decide) (fun c9 => ?_) (fun c9 => ?_)
        · have h := (if_neg c9).symm.trans h
          refine k_aload_n C d_Mo_copy_52 0 rfl ?_
          refine kg_Mo_25 C d_Mo_copy_53 ?_
          refine k_iload_n C d_Mo_copy_56 1 rfl ?_
          obtain ⟨i10, h⟩ := gI_some h
          refine k_ialdM C (by decide) (by decide) i10 d_Mo_copy_57 ?_
          refine k_iconst C 2 d_Mo_copy_58 ic_2 ?_
          refine k_icmp_ne C 87 d_Mo_copy_59 (by decide) (fun c11 => ?_) (fun c11 => ?_)
          · have h := (if_neg c11).symm.trans h
            refine k_bipush C (-12) d_Mo_copy_87 bp_m12 ?_
            obtain rfl := Option.some.inj h
            exact k_iret C q d_Mo_copy_89
          · have h := (if_pos c11).symm.trans h
            refine k_aload_n C d_Mo_copy_62 0 rfl ?_
            refine kg_Mo_25 C d_Mo_copy_63 ?_
            refine k_iload_n C d_Mo_copy_66 3 rfl ?_
            obtain ⟨i12, h⟩ := gI_some h
            refine k_ialdM C (by decide) (by decide) i12 d_Mo_copy_67 ?_
            refine k_iconst C 2 d_Mo_copy_68 ic_2 ?_
            refine k_icmp_ne C 87 d_Mo_copy_69 (by decide) (fun c13 => ?_) (fun c13 => ?_)
            · have h := (if_neg c13).symm.trans h
              refine k_bipush C (-12) d_Mo_copy_87 bp_m12 ?_
              obtain rfl := Option.some.inj h
              exact k_iret C q d_Mo_copy_89
            · have h := (if_pos c13).symm.trans h
              refine k_aload_n C d_Mo_copy_72 0 rfl ?_
              refine kg_Mo_34 C d_Mo_copy_73 ?_
              refine k_iload_n C d_Mo_copy_76 1 rfl ?_
              obtain ⟨i14, h⟩ := gI_some h
              refine k_ialdM C (by decide) (by decide) i14 d_Mo_copy_77 ?_
              refine k_aload_n C d_Mo_copy_78 0 rfl ?_
              refine kg_Mo_34 C d_Mo_copy_79 ?_
              refine k_iload_n C d_Mo_copy_82 3 rfl ?_
              obtain ⟨i15, h⟩ := gI_some h
              refine k_ialdM C (by decide) (by decide) i15 d_Mo_copy_83 ?_
              refine k_icmp_eq C 90 d_Mo_copy_84 (by decide) (fun c16 => ?_) (fun c16 => ?_)
              · have h := (if_pos c16).symm.trans h
                refine k_iload C d_Mo_copy_90 5 rfl ?_
                refine k_if_lt C 131 d_Mo_copy_92 (by decide) (fun c17 => ?_) (fun c17 => ?_)
                · have h := (if_pos c17).symm.trans h
                  refine k_bipush C (-13) d_Mo_copy_131 bp_m13 ?_
                  obtain rfl := Option.some.inj h
                  exact k_iret C q d_Mo_copy_133
                · have h := (if_neg c17).symm.trans h
                  refine k_iload_n C d_Mo_copy_95 2 rfl ?_
                  refine k_if_lt C 131 d_Mo_copy_96 (by decide) (fun c18 => ?_) (fun c18 => ?_)
                  · have h := (if_pos c18).symm.trans h
                    refine k_bipush C (-13) d_Mo_copy_131 bp_m13 ?_
                    obtain rfl := Option.some.inj h
                    exact k_iret C q d_Mo_copy_133
                  · have h := (if_neg c18).symm.trans h
                    refine k_iload C d_Mo_copy_99 4 rfl ?_
                    refine k_if_lt C 131 d_Mo_copy_101 (by decide) (fun c19 => ?_) (fun c19 => ?_)
                    · have h := (if_pos c19).symm.trans h
                      refine k_bipush C (-13) d_Mo_copy_131 bp_m13 ?_
                      obtain rfl := Option.some.inj h
                      exact k_iret C q d_Mo_copy_133
                    · have h := (if_neg c19).symm.trans h
                      refine k_iload_n C d_Mo_copy_104 2 rfl ?_
                      refine k_aload_n C d_Mo_copy_105 0 rfl ?_
                      refine kg_Mo_37 C d_Mo_copy_106 ?_
                      refine k_iload_n C d_Mo_copy_109 1 rfl ?_
                      obtain ⟨i20, h⟩ := gI_some h
                      refine k_ialdM C (by decide) (by decide) i20 d_Mo_copy_110 ?_
                      refine k_iload C d_Mo_copy_111 5 rfl ?_
                      refine k_isub C d_Mo_copy_113 ?_
                      refine k_icmp_gt C 131 d_Mo_copy_114 (by decide) (fun c21 => ?_) (fun c21 => ?_)
                      · have h := (if_pos c21).symm.trans h
                        refine k_bipush C (-13) d_Mo_copy_131 bp_m13 ?_
                        obtain rfl := Option.some.inj h
                        exact k_iret C q d_Mo_copy_133
                      · have h := (if_neg c21).symm.trans h
                        refine k_iload C d_Mo_copy_117 4 rfl ?_
                        refine k_aload_n C d_Mo_copy_119 0 rfl ?_
                        refine kg_Mo_37 C d_Mo_copy_120 ?_
                        refine k_iload_n C d_Mo_copy_123 3 rfl ?_
                        obtain ⟨i22, h⟩ := gI_some h
                        refine k_ialdM C (by decide) (by decide) i22 d_Mo_copy_124 ?_
                        refine k_iload C d_Mo_copy_125 5 rfl ?_
                        refine k_isub C d_Mo_copy_127 ?_
                        refine k_icmp_le C 134 d_Mo_copy_128 (by decide) (fun c23 => ?_) (fun c23 => ?_)
                        · have h := (if_pos c23).symm.trans h
                          refine k_iconst C 0 d_Mo_copy_134 ic_0 ?_
                          refine k_istore C (lv' := [(6, .int 0), (0, .ref (g_a g 83)), (1, .int v1), (2, .int v2), (3, .int v3), (4, .int v4), (5, .int v5)]) d_Mo_copy_135 rfl rfl ?_
                          exact k_sub [1, 2, 3, 4, 5, 6, 0] rfl (t_Mo_copy_137 C q v1 v2 v3 v4 v5 fu 0 p4.2 h)
                        · have h := (if_neg c23).symm.trans h
                          refine k_bipush C (-13) d_Mo_copy_131 bp_m13 ?_
                          obtain rfl := Option.some.inj h
                          exact k_iret C q d_Mo_copy_133
              · have h := (if_neg c16).symm.trans h
                refine k_bipush C (-12) d_Mo_copy_87 bp_m12 ?_
                obtain rfl := Option.some.inj h
                exact k_iret C q d_Mo_copy_89
        · have h := (if_pos c9).symm.trans h
          refine k_bipush C (-11) d_Mo_copy_49 bp_m11 ?_
          obtain rfl := Option.some.inj h
          exact k_iret C q d_Mo_copy_51
    · have h := (if_pos c5).symm.trans h
      refine k_iconst C (-1) d_Mo_copy_29 ic_m1 ?_
      obtain rfl := Option.some.inj h
      exact k_iret C q d_Mo_copy_30

def b_Mo_goalOf_84 (v1 : Int32) (m : MD) : Option (Int32 × MD) := gI v1 7 (some (m.1 87 v1.toNatClampNeg, m))
theorem t_Mo_goalOf_84 {g : GC} {X : MX} (C : Cx g X c_Mo_goalOf 6 n_Mo 1) {r : Int32 × MD} {xx : XD} {oo : Nat → Int64} (q : RtI g X (some .int) r.1 (xx, r.2, oo)) (v1 : Int32) (m : MD) (h : b_Mo_goalOf_84 v1 m = some r) : Wk g X 6 84 [(0, .ref (g_a g 83)), (1, .int v1)] [] (xx, m, oo) := by
  unfold b_Mo_goalOf_84 at h
  refine k_aload_n C d_Mo_goalOf_84 0 rfl ?_
  refine kg_Mo_19 C d_Mo_goalOf_85 ?_
  refine k_iload_n C d_Mo_goalOf_88 1 rfl ?_
  obtain ⟨i1, h⟩ := gI_some h
  refine k_ialdM C (by decide) (by decide) i1 d_Mo_goalOf_89 ?_
  obtain rfl := Option.some.inj h
  exact k_iret C q d_Mo_goalOf_90

def f_Mo_goalOf (v1 : Int32) (m : MD) : Option (Int32 × MD) := gI v1 7 (gI v1 7 ((f_Mo_apart (m.1 87 v1.toNatClampNeg) (m.1 86 v1.toNatClampNeg) m).bind fun p3 => (gI v1 7 ((f_Mo_apart (p3.2.1 87 v1.toNatClampNeg) (20 - (m.1 86 v1.toNatClampNeg)) p3.2).bind fun p5 => (gI v1 7 (lt (p5.2.1 84 v1.toNatClampNeg) fun (y7 : Int32) => (if y7 = 1 then b_Mo_goalOf_84 v1 p5.2 else (if y7 = 2 then some (20 - (m.1 86 v1.toNatClampNeg), p5.2) else (if y7 = 3 then (if p3.1 ≤ p5.1 then some (m.1 86 v1.toNatClampNeg, p5.2) else some (20 - (m.1 86 v1.toNatClampNeg), p5.2)) else (if y7 = 4 then some (m.1 86 v1.toNatClampNeg, p5.2) else (if y7 = 5 then some (p5.2.1 83 6, p5.2) else (if y7 = 6 then (if p5.1 ≤ p3.1 then some (m.1 86 v1.toNatClampNeg, p5.2) else some (20 - (m.1 86 v1.toNatClampNeg), p5.2)) else (if y7 = 7 then b_Mo_goalOf_84 v1 p5.2 else (some (m.1 86 v1.toNatClampNeg, p5.2)))))))))))))))
theorem m_Mo_goalOf {g : GC} (hg : gOk g) (l : Launch)  (v1 : Int32) (m : MD) (xx : XD) (oo : Nat → Int64) (r : Int32 × MD) (h : f_Mo_goalOf v1 m = some r) : Mi g l y_Mo_goalOf c_Mo_goalOf 6 (some .int) 1 [.ref (g_a g 83), .int v1] (xx, m, oo) r.1 (xx, r.2, oo) := by
  refine m_i hg pn_Mo rfl fun X q C => ?_
  refine k_sub (lv' := [(0, .ref (g_a g 83)), (1, .int v1)]) [0, 1] rfl ?_
  unfold f_Mo_goalOf at h
  refine k_aload_n C d_Mo_goalOf_0 0 rfl ?_
  refine kg_Mo_16 C d_Mo_goalOf_1 ?_
  refine k_iload_n C d_Mo_goalOf_4 1 rfl ?_
  obtain ⟨i1, h⟩ := gI_some h
  refine k_ialdM C (by decide) (by decide) i1 d_Mo_goalOf_5 ?_
  refine k_istore_n C (lv' := [(2, .int (m.1 86 v1.toNatClampNeg)), (0, .ref (g_a g 83)), (1, .int v1)]) d_Mo_goalOf_6 rfl rfl ?_
  refine k_bipush C 20 d_Mo_goalOf_7 bp_20 ?_
  refine k_iload_n C d_Mo_goalOf_9 0 rfl ?_
  refine k_isub C d_Mo_goalOf_10 ?_
  refine k_istore_n C (lv' := [(3, .int (20 - (m.1 86 v1.toNatClampNeg))), (2, .int (m.1 86 v1.toNatClampNeg)), (0, .ref (g_a g 83)), (1, .int v1)]) d_Mo_goalOf_11 rfl rfl ?_
  refine k_aload_n C d_Mo_goalOf_12 2 rfl ?_
  refine kg_Mo_19 C d_Mo_goalOf_13 ?_
  refine k_iload_n C d_Mo_goalOf_16 3 rfl ?_
  obtain ⟨i2, h⟩ := gI_some h
  refine k_ialdM C (by decide) (by decide) i2 d_Mo_goalOf_17 ?_
  refine k_iload_n C d_Mo_goalOf_18 1 rfl ?_
  obtain ⟨p3, ep3, h⟩ := bd_some h
  refine k_callSi C q_Mo_84 (fun l => m_Mo_apart (cx_g C) l (m.1 87 v1.toNatClampNeg) (m.1 86 v1.toNatClampNeg) m xx oo p3 ep3) rfl rfl (rtI_c q) rfl rfl rfl d_Mo_goalOf_19 ?_
  refine k_istore C (lv' := [(4, .int p3.1), (3, .int (20 - (m.1 86 v1.toNatClampNeg))), (2, .int (m.1 86 v1.toNatClampNeg)), (0, .ref (g_a g 83)), (1, .int v1)]) d_Mo_goalOf_22 rfl rfl ?_
  refine k_aload_n C d_Mo_goalOf_24 3 rfl ?_
  refine kg_Mo_19 C d_Mo_goalOf_25 ?_
  refine k_iload_n C d_Mo_goalOf_28 4 rfl ?_
  obtain ⟨i4, h⟩ := gI_some h
  refine k_ialdM C (by decide) (by decide) i4 d_Mo_goalOf_29 ?_
  refine k_iload_n C d_Mo_goalOf_30 1 rfl ?_
  obtain ⟨p5, ep5, h⟩ := bd_some h
  refine k_callSi C q_Mo_84 (fun l => m_Mo_apart (cx_g C) l (p3.2.1 87 v1.toNatClampNeg) (20 - (m.1 86 v1.toNatClampNeg)) p3.2 xx oo p5 ep5) rfl rfl (rtI_c q) rfl rfl rfl d_Mo_goalOf_31 ?_
  refine k_istore C (lv' := [(5, .int p5.1), (4, .int p3.1), (3, .int (20 - (m.1 86 v1.toNatClampNeg))), (2, .int (m.1 86 v1.toNatClampNeg)), (0, .ref (g_a g 83)), (1, .int v1)]) d_Mo_goalOf_34 rfl rfl ?_
  refine k_aload_n C d_Mo_goalOf_36 4 rfl ?_
  refine kg_Mo_7 C d_Mo_goalOf_37 ?_
  refine k_iload_n C d_Mo_goalOf_40 5 rfl ?_
  obtain ⟨i6, h⟩ := gI_some h
  refine k_ialdM C (by decide) (by decide) i6 d_Mo_goalOf_41 ?_
  obtain ⟨y7, ey7, h⟩ := lt_some h
  refine k_nmI ey7 ?_
  by_cases c8 : y7 = 1
  · have h := (if_pos c8).symm.trans h
    refine k_tabin C (42) 84 d_Mo_goalOf_42 (by rw [c8]; decide) (by rw [c8]; decide) (by rw [c8]; decide) (by decide) ?_
    exact k_sub [4, 5] rfl (t_Mo_goalOf_84 C q v1 p5.2 h)
  have h := (if_neg c8).symm.trans h
  by_cases c9 : y7 = 2
  · have h := (if_pos c9).symm.trans h
    refine k_tabin C (49) 91 d_Mo_goalOf_42 (by rw [c9]; decide) (by rw [c9]; decide) (by rw [c9]; decide) (by decide) ?_
    refine k_iload_n C d_Mo_goalOf_91 2 rfl ?_
    obtain rfl := Option.some.inj h
    exact k_iret C q d_Mo_goalOf_92
  have h := (if_neg c9).symm.trans h
  by_cases c10 : y7 = 3
  · have h := (if_pos c10).symm.trans h
    refine k_tabin C (51) 93 d_Mo_goalOf_42 (by rw [c10]; decide) (by rw [c10]; decide) (by rw [c10]; decide) (by decide) ?_
    refine k_iload C d_Mo_goalOf_93 0 rfl ?_
    refine k_iload C d_Mo_goalOf_95 1 rfl ?_
    refine k_icmp_ge C 104 d_Mo_goalOf_97 (by decide) (fun c11 => ?_) (fun c11 => ?_)
    · have h := (if_pos c11).symm.trans h
      refine k_iload_n C d_Mo_goalOf_104 3 rfl ?_
      obtain rfl := Option.some.inj h
      exact k_iret C q d_Mo_goalOf_105
    · have h := (if_neg c11).symm.trans h
      refine k_iload_n C d_Mo_goalOf_100 2 rfl ?_
      refine k_goto C 105 d_Mo_goalOf_101 (by decide) ?_
      obtain rfl := Option.some.inj h
      exact k_iret C q d_Mo_goalOf_105
  have h := (if_neg c10).symm.trans h
  by_cases c12 : y7 = 4
  · have h := (if_pos c12).symm.trans h
    refine k_tabin C (82) 124 d_Mo_goalOf_42 (by rw [c12]; decide) (by rw [c12]; decide) (by rw [c12]; decide) (by decide) ?_
    refine k_iload_n C d_Mo_goalOf_124 3 rfl ?_
    obtain rfl := Option.some.inj h
    exact k_iret C q d_Mo_goalOf_125
  have h := (if_neg c12).symm.trans h
  by_cases c13 : y7 = 5
  · have h := (if_pos c13).symm.trans h
    refine k_tabin C (64) 106 d_Mo_goalOf_42 (by rw [c13]; decide) (by rw [c13]; decide) (by rw [c13]; decide) (by decide) ?_
    refine k_aload_n C d_Mo_goalOf_106 4 rfl ?_
    refine kg_Mo_88 C d_Mo_goalOf_107 ?_
    obtain rfl := Option.some.inj h
    exact k_iret C q d_Mo_goalOf_110
  have h := (if_neg c13).symm.trans h
  by_cases c14 : y7 = 6
  · have h := (if_pos c14).symm.trans h
    refine k_tabin C (69) 111 d_Mo_goalOf_42 (by rw [c14]; decide) (by rw [c14]; decide) (by rw [c14]; decide) (by decide) ?_
    refine k_iload C d_Mo_goalOf_111 0 rfl ?_
    refine k_iload C d_Mo_goalOf_113 1 rfl ?_
    refine k_icmp_le C 122 d_Mo_goalOf_115 (by decide) (fun c15 => ?_) (fun c15 => ?_)
    · have h := (if_pos c15).symm.trans h
      refine k_iload_n C d_Mo_goalOf_122 3 rfl ?_
      obtain rfl := Option.some.inj h
      exact k_iret C q d_Mo_goalOf_123
    · have h := (if_neg c15).symm.trans h
      refine k_iload_n C d_Mo_goalOf_118 2 rfl ?_
      refine k_goto C 123 d_Mo_goalOf_119 (by decide) ?_
      obtain rfl := Option.some.inj h
      exact k_iret C q d_Mo_goalOf_123
  have h := (if_neg c14).symm.trans h
  by_cases c16 : y7 = 7
  · have h := (if_pos c16).symm.trans h
    refine k_tabin C (42) 84 d_Mo_goalOf_42 (by rw [c16]; decide) (by rw [c16]; decide) (by rw [c16]; decide) (by decide) ?_
    exact k_sub [4, 5] rfl (t_Mo_goalOf_84 C q v1 p5.2 h)
  have h := (if_neg c16).symm.trans h
  have ac8 : ¬ y7.toInt = 1 := nti c8
  have ac9 : ¬ y7.toInt = 2 := nti c9
  have ac10 : ¬ y7.toInt = 3 := nti c10
  have ac12 : ¬ y7.toInt = 4 := nti c12
  have ac13 : ¬ y7.toInt = 5 := nti c13
  have ac14 : ¬ y7.toInt = 6 := nti c14
  have ac16 : ¬ y7.toInt = 7 := nti c16
  refine k_tabout C 124 d_Mo_goalOf_42 (by omega) (by decide) ?_
  refine k_iload_n C d_Mo_goalOf_124 3 rfl ?_
  obtain rfl := Option.some.inj h
  exact k_iret C q d_Mo_goalOf_125

def f_Mo_isHorse (v1 : Int32) (m : MD) : Option (Int32 × MD) := (f_Mo_in v1.toInt64 0 (((m.1 83 0) - 1).toInt64) m).bind fun p1 => (gB p1.1 (some (p1.1, p1.2)))
theorem m_Mo_isHorse {g : GC} (hg : gOk g) (l : Launch)  (v1 : Int32) (m : MD) (xx : XD) (oo : Nat → Int64) (r : Int32 × MD) (h : f_Mo_isHorse v1 m = some r) : Mi g l y_Mo_isHorse c_Mo_isHorse 2 (some .boolean) 1 [.ref (g_a g 83), .int v1] (xx, m, oo) r.1 (xx, r.2, oo) := by
  refine m_i hg pn_Mo rfl fun X q C => ?_
  refine k_sub (lv' := [(0, .ref (g_a g 83)), (1, .int v1)]) [0, 1] rfl ?_
  unfold f_Mo_isHorse at h
  refine k_iload_n C d_Mo_isHorse_0 1 rfl ?_
  refine k_i2l C d_Mo_isHorse_1 ?_
  refine k_lconst C 0 d_Mo_isHorse_2 rfl ?_
  refine k_aload_n C d_Mo_isHorse_3 0 rfl ?_
  refine kg_Mo_81 C d_Mo_isHorse_4 ?_
  refine k_iconst C 1 d_Mo_isHorse_7 ic_1 ?_
  refine k_isub C d_Mo_isHorse_8 ?_
  refine k_i2l C d_Mo_isHorse_9 ?_
  obtain ⟨p1, ep1, h⟩ := bd_some h
  refine k_callSi C q_Mo_77 (fun l => m_Mo_in (cx_g C) l v1.toInt64 0 (((m.1 83 0) - 1).toInt64) m xx oo p1 ep1) rfl rfl (rtI_c q) rfl rfl rfl d_Mo_isHorse_10 ?_
  obtain ⟨i2, h⟩ := gB_some h
  obtain rfl := Option.some.inj h
  exact k_zret C q i2 d_Mo_isHorse_13

def f_Mo_isYard (v0 : Int32) (m : MD) : Option (Int32 × MD) := (f_Mo_in v0.toInt64 0 20 m).bind fun p1 => (gB p1.1 (some (p1.1, p1.2)))
theorem m_Mo_isYard {g : GC} (hg : gOk g) (l : Launch)  (v0 : Int32) (m : MD) (xx : XD) (oo : Nat → Int64) (r : Int32 × MD) (h : f_Mo_isYard v0 m = some r) : Mi g l y_Mo_isYard c_Mo_isYard 1 (some .boolean) 1 [.int v0] (xx, m, oo) r.1 (xx, r.2, oo) := by
  refine m_i hg pn_Mo rfl fun X q C => ?_
  refine k_sub (lv' := [(0, .int v0)]) [0] rfl ?_
  unfold f_Mo_isYard at h
  refine k_iload_n C d_Mo_isYard_0 0 rfl ?_
  refine k_i2l C d_Mo_isYard_1 ?_
  refine k_lconst C 0 d_Mo_isYard_2 rfl ?_
  refine k_ldc2 C 20 l_1111 d_Mo_isYard_3 ?_
  obtain ⟨p1, ep1, h⟩ := bd_some h
  refine k_callSi C q_Mo_77 (fun l => m_Mo_in (cx_g C) l v0.toInt64 0 20 m xx oo p1 ep1) rfl rfl (rtI_c q) rfl rfl rfl d_Mo_isYard_6 ?_
  obtain ⟨i2, h⟩ := gB_some h
  obtain rfl := Option.some.inj h
  exact k_zret C q i2 d_Mo_isYard_9

def b_Mo_keep_98 (vt1 : Int32) (vt2 : Int32) (m : MD) : Option (Int32 × MD) := gI vt1 8 (lt ((x_up m.1 91 vt1.toNatClampNeg vt2, m.2)) fun (m1 : MD) => some (0, m1))
theorem t_Mo_keep_98 {g : GC} {X : MX} (C : Cx g X c_Mo_keep 5 n_Mo 1) {r : Int32 × MD} {xx : XD} {oo : Nat → Int64} (q : RtI g X (some .int) r.1 (xx, r.2, oo)) (vt1 : Int32) (vt2 : Int32) (m : MD) (h : b_Mo_keep_98 vt1 vt2 m = some r) : Wk g X 5 98 [] [.int vt2, .int vt1, .ref (g_a g 91)] (xx, m, oo) := by
  unfold b_Mo_keep_98 at h
  obtain ⟨i2, h⟩ := gI_some h
  obtain ⟨m1, em1, h⟩ := lt_some h
  refine k_iastM C (by decide) (by decide) i2 em1 d_Mo_keep_98 ?_
  refine k_iconst C 0 d_Mo_keep_99 ic_0 ?_
  obtain rfl := Option.some.inj h
  exact k_iret C q d_Mo_keep_100

def b_Mo_keep_81 (v1 : Int32) (v2 : Int32) (v4 : Int32) (vt1 : Int32) (vt2 : Int32) (m : MD) : Option (Int32 × MD) := gI vt1 8 (lt ((x_up m.1 90 vt1.toNatClampNeg vt2, m.2)) fun (m1 : MD) => (if v2 = 1 then b_Mo_keep_98 v1 v4 m1 else b_Mo_keep_98 v1 0 m1))
theorem t_Mo_keep_81 {g : GC} {X : MX} (C : Cx g X c_Mo_keep 5 n_Mo 1) {r : Int32 × MD} {xx : XD} {oo : Nat → Int64} (q : RtI g X (some .int) r.1 (xx, r.2, oo)) (v1 : Int32) (v2 : Int32) (v4 : Int32) (vt1 : Int32) (vt2 : Int32) (m : MD) (h : b_Mo_keep_81 v1 v2 v4 vt1 vt2 m = some r) : Wk g X 5 81 [(0, .ref (g_a g 83)), (1, .int v1), (2, .int v2), (4, .int v4)] [.int vt2, .int vt1, .ref (g_a g 90)] (xx, m, oo) := by
  unfold b_Mo_keep_81 at h
  obtain ⟨i2, h⟩ := gI_some h
  obtain ⟨m1, em1, h⟩ := lt_some h
  refine k_iastM C (by decide) (by decide) i2 em1 d_Mo_keep_81 ?_
  refine k_aload_n C d_Mo_keep_82 0 rfl ?_
  refine kg_Mo_31 C d_Mo_keep_83 ?_
  refine k_iload_n C d_Mo_keep_86 1 rfl ?_
  refine k_iload_n C d_Mo_keep_87 2 rfl ?_
  refine k_iconst C 1 d_Mo_keep_88 ic_1 ?_
  refine k_icmp_ne C 97 d_Mo_keep_89 (by decide) (fun c3 => ?_) (fun c3 => ?_)
  · have h := (if_neg c3).symm.trans h
    refine k_iconst C 0 d_Mo_keep_97 ic_0 ?_
    exact k_sub [] rfl (t_Mo_keep_98 C q v1 0 m1 h)
  · have h := (if_pos c3).symm.trans h
    refine k_iload C d_Mo_keep_92 3 rfl ?_
    refine k_goto C 98 d_Mo_keep_94 (by decide) ?_
    exact k_sub [] rfl (t_Mo_keep_98 C q v1 v4 m1 h)

def b_Mo_keep_59 (v1 : Int32) (v2 : Int32) (v3 : Int32) (v4 : Int32) (m : MD) : Option (Int32 × MD) := gI v1 8 (lt ((x_up m.1 89 v1.toNatClampNeg v2, m.2)) fun (m1 : MD) => (if v2 = 1 then b_Mo_keep_81 v1 v2 v4 v1 v3 m1 else b_Mo_keep_81 v1 v2 v4 v1 0 m1))
theorem t_Mo_keep_59 {g : GC} {X : MX} (C : Cx g X c_Mo_keep 5 n_Mo 1) {r : Int32 × MD} {xx : XD} {oo : Nat → Int64} (q : RtI g X (some .int) r.1 (xx, r.2, oo)) (v1 : Int32) (v2 : Int32) (v3 : Int32) (v4 : Int32) (m : MD) (h : b_Mo_keep_59 v1 v2 v3 v4 m = some r) : Wk g X 5 59 [(0, .ref (g_a g 83)), (1, .int v1), (2, .int v2), (3, .int v3), (4, .int v4)] [] (xx, m, oo) := by
  unfold b_Mo_keep_59 at h
  refine k_aload_n C d_Mo_keep_59 0 rfl ?_
  refine kg_Mo_25 C d_Mo_keep_60 ?_
  refine k_iload_n C d_Mo_keep_63 1 rfl ?_
  refine k_iload_n C d_Mo_keep_64 2 rfl ?_
  obtain ⟨i2, h⟩ := gI_some h
  obtain ⟨m1, em1, h⟩ := lt_some h
  refine k_iastM C (by decide) (by decide) i2 em1 d_Mo_keep_65 ?_
  refine k_aload_n C d_Mo_keep_66 0 rfl ?_
  refine kg_Mo_28 C d_Mo_keep_67 ?_
  refine k_iload_n C d_Mo_keep_70 1 rfl ?_
  refine k_iload_n C d_Mo_keep_71 2 rfl ?_
  refine k_iconst C 1 d_Mo_keep_72 ic_1 ?_
  refine k_icmp_ne C 80 d_Mo_keep_73 (by decide) (fun c3 => ?_) (fun c3 => ?_)
  · have h := (if_neg c3).symm.trans h
    refine k_iconst C 0 d_Mo_keep_80 ic_0 ?_
    exact k_sub [0, 1, 2, 4] rfl (t_Mo_keep_81 C q v1 v2 v4 v1 0 m1 h)
  · have h := (if_pos c3).symm.trans h
    refine k_iload_n C d_Mo_keep_76 3 rfl ?_
    refine k_goto C 81 d_Mo_keep_77 (by decide) ?_
    exact k_sub [0, 1, 2, 4] rfl (t_Mo_keep_81 C q v1 v2 v4 v1 v3 m1 h)

def f_Mo_keep (v1 : Int32) (v2 : Int32) (v3 : Int32) (v4 : Int32) (m : MD) : Option (Int32 × MD) := lt ((x_up m.1 83 14 0, m.2)) fun (m1 : MD) => (f_Mo_in v1.toInt64 0 7 m1).bind fun p2 => ((if p2.1 = 0 then some ((-1), p2.2) else (f_Mo_in v2.toInt64 0 1 p2.2).bind fun p4 => ((if p4.1 = 0 then some ((-1), p4.2) else (if v2 = 1 then (f_Mo_in v3.toInt64 0 7 p4.2).bind fun p7 => ((if p7.1 = 0 then some ((-1), p7.2) else (f_Mo_in v4.toInt64 0 9 p7.2).bind fun p9 => ((if p9.1 = 0 then some ((-1), p9.2) else b_Mo_keep_59 v1 v2 v3 v4 p9.2)))) else b_Mo_keep_59 v1 v2 v3 v4 p4.2)))))
theorem m_Mo_keep {g : GC} (hg : gOk g) (l : Launch)  (v1 : Int32) (v2 : Int32) (v3 : Int32) (v4 : Int32) (m : MD) (xx : XD) (oo : Nat → Int64) (r : Int32 × MD) (h : f_Mo_keep v1 v2 v3 v4 m = some r) : Mi g l y_Mo_keep c_Mo_keep 5 (some .int) 1 [.ref (g_a g 83), .int v1, .int v2, .int v3, .int v4] (xx, m, oo) r.1 (xx, r.2, oo) := by
  refine m_i hg pn_Mo rfl fun X q C => ?_
  refine k_sub (lv' := [(0, .ref (g_a g 83)), (1, .int v1), (2, .int v2), (3, .int v3), (4, .int v4)]) [0, 1, 2, 3, 4] rfl ?_
  unfold f_Mo_keep at h
  refine k_aload_n C d_Mo_keep_0 0 rfl ?_
  refine k_iconst C 0 d_Mo_keep_1 ic_0 ?_
  obtain ⟨m1, em1, h⟩ := lt_some h
  refine kp_Mo_71 C em1 d_Mo_keep_2 ?_
  refine k_iload_n C d_Mo_keep_5 1 rfl ?_
  refine k_i2l C d_Mo_keep_6 ?_
  refine k_lconst C 0 d_Mo_keep_7 rfl ?_
  refine k_ldc2 C 7 l_1063 d_Mo_keep_8 ?_
  obtain ⟨p2, ep2, h⟩ := bd_some h
  refine k_callSi C q_Mo_77 (fun l => m_Mo_in (cx_g C) l v1.toInt64 0 7 m1 xx oo p2 ep2) rfl rfl (rtI_c q) rfl rfl rfl d_Mo_keep_11 ?_
  refine k_if_eq C 57 d_Mo_keep_14 (by decide) (fun c3 => ?_) (fun c3 => ?_)
  · have h := (if_pos c3).symm.trans h
    refine k_iconst C (-1) d_Mo_keep_57 ic_m1 ?_
    obtain rfl := Option.some.inj h
    exact k_iret C q d_Mo_keep_58
  · have h := (if_neg c3).symm.trans h
    refine k_iload_n C d_Mo_keep_17 2 rfl ?_
    refine k_i2l C d_Mo_keep_18 ?_
    refine k_lconst C 0 d_Mo_keep_19 rfl ?_
    refine k_lconst C 1 d_Mo_keep_20 rfl ?_
    obtain ⟨p4, ep4, h⟩ := bd_some h
    refine k_callSi C q_Mo_77 (fun l => m_Mo_in (cx_g C) l v2.toInt64 0 1 p2.2 xx oo p4 ep4) rfl rfl (rtI_c q) rfl rfl rfl d_Mo_keep_21 ?_
    refine k_if_eq C 57 d_Mo_keep_24 (by decide) (fun c5 => ?_) (fun c5 => ?_)
    · have h := (if_pos c5).symm.trans h
      refine k_iconst C (-1) d_Mo_keep_57 ic_m1 ?_
      obtain rfl := Option.some.inj h
      exact k_iret C q d_Mo_keep_58
    · have h := (if_neg c5).symm.trans h
      refine k_iload_n C d_Mo_keep_27 2 rfl ?_
      refine k_iconst C 1 d_Mo_keep_28 ic_1 ?_
      refine k_icmp_ne C 59 d_Mo_keep_29 (by decide) (fun c6 => ?_) (fun c6 => ?_)
      · have h := (if_neg c6).symm.trans h
        exact k_sub [0, 1, 2, 3, 4] rfl (t_Mo_keep_59 C q v1 v2 v3 v4 p4.2 h)
      · have h := (if_pos c6).symm.trans h
        refine k_iload_n C d_Mo_keep_32 3 rfl ?_
        refine k_i2l C d_Mo_keep_33 ?_
        refine k_lconst C 0 d_Mo_keep_34 rfl ?_
        refine k_ldc2 C 7 l_1063 d_Mo_keep_35 ?_
        obtain ⟨p7, ep7, h⟩ := bd_some h
        refine k_callSi C q_Mo_77 (fun l => m_Mo_in (cx_g C) l v3.toInt64 0 7 p4.2 xx oo p7 ep7) rfl rfl (rtI_c q) rfl rfl rfl d_Mo_keep_38 ?_
        refine k_if_eq C 57 d_Mo_keep_41 (by decide) (fun c8 => ?_) (fun c8 => ?_)
        · have h := (if_pos c8).symm.trans h
          refine k_iconst C (-1) d_Mo_keep_57 ic_m1 ?_
          obtain rfl := Option.some.inj h
          exact k_iret C q d_Mo_keep_58
        · have h := (if_neg c8).symm.trans h
          refine k_iload C d_Mo_keep_44 4 rfl ?_
          refine k_i2l C d_Mo_keep_46 ?_
          refine k_lconst C 0 d_Mo_keep_47 rfl ?_
          refine k_ldc2 C 9 l_1374 d_Mo_keep_48 ?_
          obtain ⟨p9, ep9, h⟩ := bd_some h
          refine k_callSi C q_Mo_77 (fun l => m_Mo_in (cx_g C) l v4.toInt64 0 9 p7.2 xx oo p9 ep9) rfl rfl (rtI_c q) rfl rfl rfl d_Mo_keep_51 ?_
          refine k_if_ne C 59 d_Mo_keep_54 (by decide) (fun c10 => ?_) (fun c10 => ?_)
          · have h := (if_neg c10).symm.trans h
            exact k_sub [0, 1, 2, 3, 4] rfl (t_Mo_keep_59 C q v1 v2 v3 v4 p9.2 h)
          · have h := (if_pos c10).symm.trans h
            refine k_iconst C (-1) d_Mo_keep_57 ic_m1 ?_
            obtain rfl := Option.some.inj h
            exact k_iret C q d_Mo_keep_58

def f_Mo_partOf (v0 : Int64) (v2 : Int64) (v4 : Int32) (m : MD) : Option (Int64 × MD) := (if lg_cmp v0 0 = 0 then some (v4.toInt64, m) else (f_Mo_divisor v0 v2 m).bind fun p2 => ((if v4 = 0 then if p2.1 = 0 then none else some (v0 / p2.1, p2.2) else if p2.1 = 0 then none else some (v2 / p2.1, p2.2))))
theorem m_Mo_partOf {g : GC} (hg : gOk g) (l : Launch)  (v0 : Int64) (v2 : Int64) (v4 : Int32) (m : MD) (xx : XD) (oo : Nat → Int64) (r : Int64 × MD) (h : f_Mo_partOf v0 v2 v4 m = some r) : Ml g l y_Mo_partOf c_Mo_partOf 7 (some .long) 1 [.long v0, .long v2, .int v4] (xx, m, oo) r.1 (xx, r.2, oo) := by
  refine m_l hg pn_Mo rfl fun X q C => ?_
  refine k_sub (lv' := [(0, .long v0), (2, .long v2), (4, .int v4)]) [0, 1, 2] rfl ?_
  unfold f_Mo_partOf at h
  refine k_lload_n C d_Mo_partOf_0 0 rfl ?_
  refine k_lconst C 0 d_Mo_partOf_1 rfl ?_
  refine k_lcmp C d_Mo_partOf_2 ?_
  refine k_if_ne C 10 d_Mo_partOf_3 (by decide) (fun c1 => ?_) (fun c1 => ?_)
  · have h := (if_neg c1).symm.trans h
    refine k_lload_n C d_Mo_partOf_10 0 rfl ?_
    refine k_lload_n C d_Mo_partOf_11 1 rfl ?_
    obtain ⟨p2, ep2, h⟩ := bd_some h
    refine k_callSl C q_Mo_266 (fun l => m_Mo_divisor (cx_g C) l v0 v2 m xx oo p2 ep2) rfl rfl (rtL_c q) rfl rfl rfl d_Mo_partOf_12 ?_
    refine k_lstore C (lv' := [(5, .long p2.1), (0, .long v0), (2, .long v2), (4, .int v4)]) d_Mo_partOf_15 rfl rfl ?_
    refine k_iload C d_Mo_partOf_17 3 rfl ?_
    refine k_if_ne C 29 d_Mo_partOf_19 (by decide) (fun c3 => ?_) (fun c3 => ?_)
    · have h := (if_neg c3).symm.trans h
      refine k_lload_n C d_Mo_partOf_29 2 rfl ?_
      refine k_lload C d_Mo_partOf_30 0 rfl ?_
      by_cases c4 : p2.1 = 0
      · rw [if_pos c4] at h; cases h
      have h := (if_neg c4).symm.trans h
      refine k_ldiv C c4 d_Mo_partOf_32 ?_
      obtain rfl := Option.some.inj h
      exact k_lret C q d_Mo_partOf_33
    · have h := (if_pos c3).symm.trans h
      refine k_lload_n C d_Mo_partOf_22 1 rfl ?_
      refine k_lload C d_Mo_partOf_23 0 rfl ?_
      by_cases c5 : p2.1 = 0
      · rw [if_pos c5] at h; cases h
      have h := (if_neg c5).symm.trans h
      refine k_ldiv C c5 d_Mo_partOf_25 ?_
      refine k_goto C 33 d_Mo_partOf_26 (by decide) ?_
      obtain rfl := Option.some.inj h
      exact k_lret C q d_Mo_partOf_33
  · have h := (if_pos c1).symm.trans h
    refine k_iload C d_Mo_partOf_6 2 rfl ?_
    refine k_i2l C d_Mo_partOf_8 ?_
    obtain rfl := Option.some.inj h
    exact k_lret C q d_Mo_partOf_9

def b_Mo_readDigits_83 (K4 : Int32 → Int32 → MD → Option (Int32 × MD)) (v1 : Int32) (v2 : Int32) (v3 : Int32) (vt1 : Int32) (vt2 : Int32) (m : MD) : Option (Int32 × MD) := lt ((x_up m.1 83 16 (vt1 + vt2), m.2)) fun (m1 : MD) => K4 v2 (v3 + 1) m1
theorem t_Mo_readDigits_83 {g : GC} {X : MX} (C : Cx g X c_Mo_readDigits 4 n_Mo 1) {r : Int32 × MD} {xx : XD} {oo : Nat → Int64} (q : RtI g X (some .int) r.1 (xx, r.2, oo)) (v1 : Int32) (v2 : Int32) (v3 : Int32) (vt1 : Int32) (vt2 : Int32) (K4 : Int32 → Int32 → MD → Option (Int32 × MD)) (hK4 : ∀ (v2 : Int32) (v3 : Int32) (m : MD), K4 v2 v3 m = some r → Wk g X 4 4 [(0, .ref (g_a g 83)), (1, .int v1), (2, .int v2), (3, .int v3)] [] (xx, m, oo)) (m : MD) (h : b_Mo_readDigits_83 K4 v1 v2 v3 vt1 vt2 m = some r) : Wk g X 4 83 [(0, .ref (g_a g 83)), (1, .int v1), (2, .int v2), (3, .int v3)] [.int vt2, .int vt1, .ref (g_a g 83)] (xx, m, oo) := by
  unfold b_Mo_readDigits_83 at h
  refine k_iadd C d_Mo_readDigits_83 ?_
  obtain ⟨m1, em1, h⟩ := lt_some h
  refine kp_Mo_118 C em1 d_Mo_readDigits_84 ?_
  refine k_inc C (lv' := [(3, .int (v3 + 1)), (0, .ref (g_a g 83)), (1, .int v1), (2, .int v2)]) d_Mo_readDigits_87 3 rfl ic_1 rfl rfl ?_
  refine k_goto C 4 d_Mo_readDigits_90 (by decide) ?_
  exact k_sub [1, 2, 3, 0] rfl (hK4 v2 (v3 + 1) m1 h)

def b_Mo_readDigits_65 (K4 : Int32 → Int32 → MD → Option (Int32 × MD)) (v1 : Int32) (v3 : Int32) (vt0 : Int32) (m : MD) : Option (Int32 × MD) := (if m.1 83 17 = 0 then b_Mo_readDigits_83 K4 v1 vt0 v3 (m.1 83 16) 1 m else b_Mo_readDigits_83 K4 v1 vt0 v3 (m.1 83 16) 0 m)
theorem t_Mo_readDigits_65 {g : GC} {X : MX} (C : Cx g X c_Mo_readDigits 4 n_Mo 1) {r : Int32 × MD} {xx : XD} {oo : Nat → Int64} (q : RtI g X (some .int) r.1 (xx, r.2, oo)) (v1 : Int32) (v3 : Int32) (vt0 : Int32) (K4 : Int32 → Int32 → MD → Option (Int32 × MD)) (hK4 : ∀ (v2 : Int32) (v3 : Int32) (m : MD), K4 v2 v3 m = some r → Wk g X 4 4 [(0, .ref (g_a g 83)), (1, .int v1), (2, .int v2), (3, .int v3)] [] (xx, m, oo)) (m : MD) (h : b_Mo_readDigits_65 K4 v1 v3 vt0 m = some r) : Wk g X 4 65 [(0, .ref (g_a g 83)), (1, .int v1), (3, .int v3)] [.int vt0] (xx, m, oo) := by
  unfold b_Mo_readDigits_65 at h
  refine k_istore_n C (lv' := [(2, .int vt0), (0, .ref (g_a g 83)), (1, .int v1), (3, .int v3)]) d_Mo_readDigits_65 rfl rfl ?_
  refine k_aload_n C d_Mo_readDigits_66 1 rfl ?_
  refine k_dup C d_Mo_readDigits_67 rfl ?_
  refine kg_Mo_118 C d_Mo_readDigits_68 ?_
  refine k_aload_n C d_Mo_readDigits_71 1 rfl ?_
  refine kg_Mo_124 C d_Mo_readDigits_72 ?_
  refine k_if_eq C 82 d_Mo_readDigits_75 (by decide) (fun c1 => ?_) (fun c1 => ?_)
  · have h := (if_pos c1).symm.trans h
    refine k_iconst C 1 d_Mo_readDigits_82 ic_1 ?_
    exact k_sub [1, 2, 0, 3] rfl (t_Mo_readDigits_83 C q v1 vt0 v3 (m.1 83 16) 1 K4 hK4 m h)
  · have h := (if_neg c1).symm.trans h
    refine k_iconst C 0 d_Mo_readDigits_78 ic_0 ?_
    refine k_goto C 83 d_Mo_readDigits_79 (by decide) ?_
    exact k_sub [1, 2, 0, 3] rfl (t_Mo_readDigits_83 C q v1 vt0 v3 (m.1 83 16) 0 K4 hK4 m h)

def b_Mo_readDigits_39 (K4 : Int32 → Int32 → MD → Option (Int32 × MD)) (v1 : Int32) (v2 : Int32) (v3 : Int32) (vt1 : Int32) (m : MD) : Option (Int32 × MD) := gB vt1 (lt ((x_up m.1 83 17 vt1, m.2)) fun (m2 : MD) => (if m2.1 83 17 = 0 then (f_Mo_here m2).bind fun p4 => (b_Mo_readDigits_65 K4 v1 v3 (((10 * v2) + p4.1) - 48) p4.2) else b_Mo_readDigits_65 K4 v1 v3 0 m2))
theorem t_Mo_readDigits_39 {g : GC} {X : MX} (C : Cx g X c_Mo_readDigits 4 n_Mo 1) {r : Int32 × MD} {xx : XD} {oo : Nat → Int64} (q : RtI g X (some .int) r.1 (xx, r.2, oo)) (v1 : Int32) (v2 : Int32) (v3 : Int32) (vt1 : Int32) (K4 : Int32 → Int32 → MD → Option (Int32 × MD)) (hK4 : ∀ (v2 : Int32) (v3 : Int32) (m : MD), K4 v2 v3 m = some r → Wk g X 4 4 [(0, .ref (g_a g 83)), (1, .int v1), (2, .int v2), (3, .int v3)] [] (xx, m, oo)) (m : MD) (h : b_Mo_readDigits_39 K4 v1 v2 v3 vt1 m = some r) : Wk g X 4 39 [(0, .ref (g_a g 83)), (1, .int v1), (2, .int v2), (3, .int v3)] [.int vt1, .ref (g_a g 83)] (xx, m, oo) := by
  unfold b_Mo_readDigits_39 at h
  obtain ⟨i1, h⟩ := gB_some h
  obtain ⟨m2, em2, h⟩ := lt_some h
  refine kp_Mo_124 C i1 em2 d_Mo_readDigits_39 ?_
  refine k_aload_n C d_Mo_readDigits_42 0 rfl ?_
  refine kg_Mo_124 C d_Mo_readDigits_43 ?_
  refine k_if_eq C 53 d_Mo_readDigits_46 (by decide) (fun c3 => ?_) (fun c3 => ?_)
  · have h := (if_pos c3).symm.trans h
    refine k_bipush C 10 d_Mo_readDigits_53 bp_10 ?_
    refine k_iload_n C d_Mo_readDigits_55 2 rfl ?_
    refine k_imul C d_Mo_readDigits_56 ?_
    refine k_aload_n C d_Mo_readDigits_57 0 rfl ?_
    obtain ⟨p4, ep4, h⟩ := bd_some h
    refine k_callVi C q_Mo_128 (fun l => m_Mo_here (cx_g C) l m2 xx oo p4 ep4) rfl rfl (rtI_c q) (by decide) sh_Mo rfl rfl rfl rfl d_Mo_readDigits_58 ?_
    refine k_iadd C d_Mo_readDigits_61 ?_
    refine k_bipush C 48 d_Mo_readDigits_62 bp_48 ?_
    refine k_isub C d_Mo_readDigits_64 ?_
    exact k_sub [0, 1, 3] rfl (t_Mo_readDigits_65 C q v1 v3 (((10 * v2) + p4.1) - 48) K4 hK4 p4.2 h)
  · have h := (if_neg c3).symm.trans h
    refine k_iconst C 0 d_Mo_readDigits_49 ic_0 ?_
    refine k_goto C 65 d_Mo_readDigits_50 (by decide) ?_
    exact k_sub [0, 1, 3] rfl (t_Mo_readDigits_65 C q v1 v3 0 K4 hK4 m2 h)

def b_Mo_readDigits_34 (K4 : Int32 → Int32 → MD → Option (Int32 × MD)) (v1 : Int32) (v2 : Int32) (v3 : Int32) (m : MD) : Option (Int32 × MD) := b_Mo_readDigits_39 K4 v1 v2 v3 1 m
theorem t_Mo_readDigits_34 {g : GC} {X : MX} (C : Cx g X c_Mo_readDigits 4 n_Mo 1) {r : Int32 × MD} {xx : XD} {oo : Nat → Int64} (q : RtI g X (some .int) r.1 (xx, r.2, oo)) (v1 : Int32) (v2 : Int32) (v3 : Int32) (K4 : Int32 → Int32 → MD → Option (Int32 × MD)) (hK4 : ∀ (v2 : Int32) (v3 : Int32) (m : MD), K4 v2 v3 m = some r → Wk g X 4 4 [(0, .ref (g_a g 83)), (1, .int v1), (2, .int v2), (3, .int v3)] [] (xx, m, oo)) (m : MD) (h : b_Mo_readDigits_34 K4 v1 v2 v3 m = some r) : Wk g X 4 34 [(0, .ref (g_a g 83)), (1, .int v1), (2, .int v2), (3, .int v3)] [.ref (g_a g 83)] (xx, m, oo) := by
  unfold b_Mo_readDigits_34 at h
  refine k_iconst C 1 d_Mo_readDigits_34 ic_1 ?_
  refine k_goto C 39 d_Mo_readDigits_35 (by decide) ?_
  exact k_sub [0, 1, 2, 3] rfl (t_Mo_readDigits_39 C q v1 v2 v3 1 K4 hK4 m h)

def b_Mo_readDigits_4 (v1 : Int32) : Nat → Int32 → Int32 → MD → Option (Int32 × MD)
  | 0, _, _, _ => none
  | n + 1, v2, v3, m => (if v1 ≤ v3 then some (v2, m) else (if m.1 83 17 = 0 then (f_Mo_here m).bind fun p3 => ((f_Mo_in p3.1.toInt64 48 57 p3.2).bind fun p4 => ((if p4.1 = 0 then b_Mo_readDigits_34 (b_Mo_readDigits_4 v1 n) v1 v2 v3 p4.2 else b_Mo_readDigits_39 (b_Mo_readDigits_4 v1 n) v1 v2 v3 0 p4.2))) else b_Mo_readDigits_34 (b_Mo_readDigits_4 v1 n) v1 v2 v3 m))
theorem t_Mo_readDigits_4 {g : GC} {X : MX} (C : Cx g X c_Mo_readDigits 4 n_Mo 1) {r : Int32 × MD} {xx : XD} {oo : Nat → Int64} (q : RtI g X (some .int) r.1 (xx, r.2, oo)) (v1 : Int32) : ∀ (n : Nat) (v2 : Int32) (v3 : Int32) (m : MD) (h : b_Mo_readDigits_4 v1 n v2 v3 m = some r), Wk g X 4 4 [(0, .ref (g_a g 83)), (1, .int v1), (2, .int v2), (3, .int v3)] [] (xx, m, oo) := by
  intro n
  induction n with
  | zero =>
    intro v2 v3 m h
    rw [b_Mo_readDigits_4] at h
    cases h
  | succ n ih =>
    intro v2 v3 m h
    rw [b_Mo_readDigits_4] at h
    refine k_iload_n C d_Mo_readDigits_4 3 rfl ?_
    refine k_iload_n C d_Mo_readDigits_5 1 rfl ?_
    refine k_icmp_ge C 93 d_Mo_readDigits_6 (by decide) (fun c1 => ?_) (fun c1 => ?_)
    · have h := (if_pos c1).symm.trans h
      refine k_iload_n C d_Mo_readDigits_93 2 rfl ?_
      obtain rfl := Option.some.inj h
      exact k_iret C q d_Mo_readDigits_94
    · have h := (if_neg c1).symm.trans h
      refine k_aload_n C d_Mo_readDigits_9 0 rfl ?_
      refine k_aload_n C d_Mo_readDigits_10 0 rfl ?_
      refine kg_Mo_124 C d_Mo_readDigits_11 ?_
      refine k_if_ne C 34 d_Mo_readDigits_14 (by decide) (fun c2 => ?_) (fun c2 => ?_)
      · have h := (if_neg c2).symm.trans h
        exact k_sub [0, 1, 2, 3] rfl (t_Mo_readDigits_34 C q v1 v2 v3 (b_Mo_readDigits_4 v1 n) ih m h)
      · have h := (if_pos c2).symm.trans h
        refine k_aload_n C d_Mo_readDigits_17 0 rfl ?_
        obtain ⟨p3, ep3, h⟩ := bd_some h
        refine k_callVi C q_Mo_128 (fun l => m_Mo_here (cx_g C) l m xx oo p3 ep3) rfl rfl (rtI_c q) (by decide) sh_Mo rfl rfl rfl rfl d_Mo_readDigits_18 ?_
        refine k_i2l C d_Mo_readDigits_21 ?_
        refine k_ldc2 C 48 l_1086 d_Mo_readDigits_22 ?_
        refine k_ldc2 C 57 l_1087 d_Mo_readDigits_25 ?_
        obtain ⟨p4, ep4, h⟩ := bd_some h
        refine k_callSi C q_Mo_77 (fun l => m_Mo_in (cx_g C) l p3.1.toInt64 48 57 p3.2 xx oo p4 ep4) rfl rfl (rtI_c q) rfl rfl rfl d_Mo_readDigits_28 ?_
        refine k_if_ne C 38 d_Mo_readDigits_31 (by decide) (fun c5 => ?_) (fun c5 => ?_)
        · have h := (if_neg c5).symm.trans h
          refine k_iconst C 0 d_Mo_readDigits_38 ic_0 ?_
          exact k_sub [0, 1, 2, 3] rfl (t_Mo_readDigits_39 C q v1 v2 v3 0 (b_Mo_readDigits_4 v1 n) ih p4.2 h)
        · have h := (if_pos c5).symm.trans h
          exact k_sub [0, 1, 2, 3] rfl (t_Mo_readDigits_34 C q v1 v2 v3 (b_Mo_readDigits_4 v1 n) ih p4.2 h)

def f_Mo_readDigits (v1 : Int32) (m : MD) : Option (Int32 × MD) := b_Mo_readDigits_4 v1 fu 0 0 m
theorem m_Mo_readDigits {g : GC} (hg : gOk g) (l : Launch)  (v1 : Int32) (m : MD) (xx : XD) (oo : Nat → Int64) (r : Int32 × MD) (h : f_Mo_readDigits v1 m = some r) : Mi g l y_Mo_readDigits c_Mo_readDigits 4 (some .int) 1 [.ref (g_a g 83), .int v1] (xx, m, oo) r.1 (xx, r.2, oo) := by
  refine m_i hg pn_Mo rfl fun X q C => ?_
  refine k_sub (lv' := [(0, .ref (g_a g 83)), (1, .int v1)]) [0, 1] rfl ?_
  unfold f_Mo_readDigits at h
  refine k_iconst C 0 d_Mo_readDigits_0 ic_0 ?_
  refine k_istore_n C (lv' := [(2, .int 0), (0, .ref (g_a g 83)), (1, .int v1)]) d_Mo_readDigits_1 rfl rfl ?_
  refine k_iconst C 0 d_Mo_readDigits_2 ic_0 ?_
  refine k_istore_n C (lv' := [(3, .int 0), (2, .int 0), (0, .ref (g_a g 83)), (1, .int v1)]) d_Mo_readDigits_3 rfl rfl ?_
  exact k_sub [2, 3, 1, 0] rfl (t_Mo_readDigits_4 C q v1 fu 0 0 m h)

def b_Mo_row_68 (v1 : Int32) : Nat → Int32 → MD → Option (Int32 × MD)
  | 0, _, _ => none
  | n + 1, v4, m => (if 100 ≤ v4 then some (0, m) else gI ((100 * v1) + v4) 800 (lt ((m.1, x_up m.2.1 94 ((100 * v1) + v4).toNatClampNeg 0, m.2.2)) fun (m2 : MD) => b_Mo_row_68 v1 n (v4 + 1) m2))
theorem t_Mo_row_68 {g : GC} {X : MX} (C : Cx g X c_Mo_row 5 n_Mo 1) {r : Int32 × MD} {xx : XD} {oo : Nat → Int64} (q : RtI g X (some .int) r.1 (xx, r.2, oo)) (v1 : Int32) : ∀ (n : Nat) (v4 : Int32) (m : MD) (h : b_Mo_row_68 v1 n v4 m = some r), Wk g X 5 68 [(0, .ref (g_a g 83)), (1, .int v1), (4, .int v4)] [] (xx, m, oo) := by
  intro n
  induction n with
  | zero =>
    intro v4 m h
    rw [b_Mo_row_68] at h
    cases h
  | succ n ih =>
    intro v4 m h
    rw [b_Mo_row_68] at h
    refine k_iload C d_Mo_row_68 2 rfl ?_
    refine k_bipush C 100 d_Mo_row_70 bp_100 ?_
    refine k_icmp_ge C 94 d_Mo_row_72 (by decide) (fun c1 => ?_) (fun c1 => ?_)
    · have h := (if_pos c1).symm.trans h
      refine k_iconst C 0 d_Mo_row_94 ic_0 ?_
      obtain rfl := Option.some.inj h
      exact k_iret C q d_Mo_row_95
    · have h := (if_neg c1).symm.trans h
      refine k_aload_n C d_Mo_row_75 0 rfl ?_
      refine kg_Mo_40 C d_Mo_row_76 ?_
      refine k_bipush C 100 d_Mo_row_79 bp_100 ?_
      refine k_iload_n C d_Mo_row_81 1 rfl ?_
      refine k_imul C d_Mo_row_82 ?_
      refine k_iload C d_Mo_row_83 2 rfl ?_
      refine k_iadd C d_Mo_row_85 ?_
      refine k_lconst C 0 d_Mo_row_86 rfl ?_
      obtain ⟨i3, h⟩ := gI_some h
      obtain ⟨m2, em2, h⟩ := lt_some h
      refine k_last94 C i3 em2 d_Mo_row_87 ?_
      refine k_inc C (lv' := [(4, .int (v4 + 1)), (0, .ref (g_a g 83)), (1, .int v1)]) d_Mo_row_88 2 rfl ic_1 rfl rfl ?_
      refine k_goto C 68 d_Mo_row_91 (by decide) ?_
      exact k_sub [1, 2, 0] rfl (ih (v4 + 1) m2 h)

def f_Mo_row (v1 : Int32) (v2 : Int32) (v3 : Int32) (m : MD) : Option (Int32 × MD) := lt ((x_up m.1 83 14 0, m.2)) fun (m1 : MD) => (f_Mo_in v1.toInt64 0 7 m1).bind fun p2 => ((if p2.1 = 0 then some ((-1), p2.2) else (f_Mo_in v2.toInt64 0 2 p2.2).bind fun p4 => ((if p4.1 = 0 then some ((-1), p4.2) else (if v3 ≤ 100 then (if 0 ≤ v3 then gI v1 8 (lt ((x_up p4.2.1 89 v1.toNatClampNeg 2, p4.2.2)) fun (m8 : MD) => gI v1 8 (lt ((x_up m8.1 92 v1.toNatClampNeg v2, m8.2)) fun (m10 : MD) => gI v1 8 (lt ((x_up m10.1 93 v1.toNatClampNeg v3, m10.2)) fun (m12 : MD) => b_Mo_row_68 v1 fu 0 m12))) else some ((-14), p4.2)) else some ((-1), p4.2))))))
theorem m_Mo_row {g : GC} (hg : gOk g) (l : Launch)  (v1 : Int32) (v2 : Int32) (v3 : Int32) (m : MD) (xx : XD) (oo : Nat → Int64) (r : Int32 × MD) (h : f_Mo_row v1 v2 v3 m = some r) : Mi g l y_Mo_row c_Mo_row 5 (some .int) 1 [.ref (g_a g 83), .int v1, .int v2, .int v3] (xx, m, oo) r.1 (xx, r.2, oo) := by
  refine m_i hg pn_Mo rfl fun X q C => ?_
  refine k_sub (lv' := [(0, .ref (g_a g 83)), (1, .int v1), (2, .int v2), (3, .int v3)]) [0, 1, 2, 3] rfl ?_
  unfold f_Mo_row at h
  refine k_aload_n C d_Mo_row_0 0 rfl ?_
  refine k_iconst C 0 d_Mo_row_1 ic_0 ?_
  obtain ⟨m1, em1, h⟩ := lt_some h
  refine kp_Mo_71 C em1 d_Mo_row_2 ?_
  refine k_iload_n C d_Mo_row_5 1 rfl ?_
  refine k_i2l C d_Mo_row_6 ?_
  refine k_lconst C 0 d_Mo_row_7 rfl ?_
  refine k_ldc2 C 7 l_1063 d_Mo_row_8 ?_
  obtain ⟨p2, ep2, h⟩ := bd_some h
  refine k_callSi C q_Mo_77 (fun l => m_Mo_in (cx_g C) l v1.toInt64 0 7 m1 xx oo p2 ep2) rfl rfl (rtI_c q) rfl rfl rfl d_Mo_row_11 ?_
  refine k_if_eq C 35 d_Mo_row_14 (by decide) (fun c3 => ?_) (fun c3 => ?_)
  · have h := (if_pos c3).symm.trans h
    refine k_iconst C (-1) d_Mo_row_35 ic_m1 ?_
    obtain rfl := Option.some.inj h
    exact k_iret C q d_Mo_row_36
  · have h := (if_neg c3).symm.trans h
    refine k_iload_n C d_Mo_row_17 2 rfl ?_
    refine k_i2l C d_Mo_row_18 ?_
    refine k_lconst C 0 d_Mo_row_19 rfl ?_
    refine k_ldc2 C 2 l_1328 d_Mo_row_20 ?_
    obtain ⟨p4, ep4, h⟩ := bd_some h
    refine k_callSi C q_Mo_77 (fun l => m_Mo_in (cx_g C) l v2.toInt64 0 2 p2.2 xx oo p4 ep4) rfl rfl (rtI_c q) rfl rfl rfl d_Mo_row_23 ?_
    refine k_if_eq C 35 d_Mo_row_26 (by decide) (fun c5 => ?_) (fun c5 => ?_)
    · have h := (if_pos c5).symm.trans h
      refine k_iconst C (-1) d_Mo_row_35 ic_m1 ?_
      obtain rfl := Option.some.inj h
      exact k_iret C q d_Mo_row_36
    · have h := (if_neg c5).symm.trans h
      refine k_iload_n C d_Mo_row_29 3 rfl ?_
      refine k_bipush C 100 d_Mo_row_30 bp_100 ?_
      refine k_icmp_le C 37 d_Mo_row_32 (by decide) (fun c6 => ?_) (fun c6 => ?_)
      · have h := (if_pos c6).symm.trans h
        refine k_iload_n C d_Mo_row_37 3 rfl ?_
        refine k_if_ge C 44 d_Mo_row_38 (by decide) (fun c7 => ?_) (fun c7 => ?_)
        · have h := (if_pos c7).symm.trans h
          refine k_aload_n C d_Mo_row_44 0 rfl ?_
          refine kg_Mo_25 C d_Mo_row_45 ?_
          refine k_iload_n C d_Mo_row_48 1 rfl ?_
          refine k_iconst C 2 d_Mo_row_49 ic_2 ?_
          obtain ⟨i9, h⟩ := gI_some h
          obtain ⟨m8, em8, h⟩ := lt_some h
          refine k_iastM C (by decide) (by decide) i9 em8 d_Mo_row_50 ?_
          refine k_aload_n C d_Mo_row_51 0 rfl ?_
          refine kg_Mo_34 C d_Mo_row_52 ?_
          refine k_iload_n C d_Mo_row_55 1 rfl ?_
          refine k_iload_n C d_Mo_row_56 2 rfl ?_
          obtain ⟨i11, h⟩ := gI_some h
          obtain ⟨m10, em10, h⟩ := lt_some h
          refine k_iastM C (by decide) (by decide) i11 em10 d_Mo_row_57 ?_
          refine k_aload_n C d_Mo_row_58 0 rfl ?_
          refine kg_Mo_37 C d_Mo_row_59 ?_
          refine k_iload_n C d_Mo_row_62 1 rfl ?_
          refine k_iload_n C d_Mo_row_63 3 rfl ?_
          obtain ⟨i13, h⟩ := gI_some h
          obtain ⟨m12, em12, h⟩ := lt_some h
          refine k_iastM C (by decide) (by decide) i13 em12 d_Mo_row_64 ?_
          refine k_iconst C 0 d_Mo_row_65 ic_0 ?_
          refine k_istore C (lv' := [(4, .int 0), (0, .ref (g_a g 83)), (1, .int v1), (2, .int v2), (3, .int v3)]) d_Mo_row_66 rfl rfl ?_
          exact k_sub [1, 2, 0] rfl (t_Mo_row_68 C q v1 fu 0 m12 h)
        · have h := (if_neg c7).symm.trans h
          refine k_bipush C (-14) d_Mo_row_41 bp_m14 ?_
          obtain rfl := Option.some.inj h
          exact k_iret C q d_Mo_row_43
      · have h := (if_neg c6).symm.trans h
        refine k_iconst C (-1) d_Mo_row_35 ic_m1 ?_
        obtain rfl := Option.some.inj h
        exact k_iret C q d_Mo_row_36

def b_Mo_spread_82 (K12 : Int32 → Int32 → Int32 → MD → Option (Int32 × MD)) (K25 : Int32 → Int32 → Int32 → MD → Option (Int32 × MD)) (v1 : Int32) (v3 : Int32) (v4 : Int32) (vt0 : Int32) (m : MD) : Option (Int32 × MD) := K25 v1 vt0 (v4 + 1) m
theorem t_Mo_spread_82 {g : GC} {X : MX} (C : Cx g X c_Mo_spread 6 n_Mo 1) {r : Int32 × MD} {xx : XD} {oo : Nat → Int64} (q : RtI g X (some .int) r.1 (xx, r.2, oo)) (v1 : Int32) (v3 : Int32) (v4 : Int32) (vt0 : Int32) (K12 : Int32 → Int32 → Int32 → MD → Option (Int32 × MD)) (hK12 : ∀ (v1 : Int32) (v2 : Int32) (v3 : Int32) (m : MD), K12 v1 v2 v3 m = some r → Wk g X 6 12 [(0, .ref (g_a g 83)), (1, .int v1), (2, .int v2), (3, .int v3)] [] (xx, m, oo)) (K25 : Int32 → Int32 → Int32 → MD → Option (Int32 × MD)) (hK25 : ∀ (v1 : Int32) (v2 : Int32) (v4 : Int32) (m : MD), K25 v1 v2 v4 m = some r → Wk g X 6 25 [(0, .ref (g_a g 83)), (1, .int v1), (2, .int v2), (3, .int v3), (4, .int v4)] [] (xx, m, oo)) (m : MD) (h : b_Mo_spread_82 K12 K25 v1 v3 v4 vt0 m = some r) : Wk g X 6 82 [(0, .ref (g_a g 83)), (1, .int v1), (3, .int v3), (4, .int v4)] [.int vt0] (xx, m, oo) := by
  unfold b_Mo_spread_82 at h
  refine k_istore_n C (lv' := [(2, .int vt0), (0, .ref (g_a g 83)), (1, .int v1), (3, .int v3), (4, .int v4)]) d_Mo_spread_82 rfl rfl ?_
  refine k_inc C (lv' := [(4, .int (v4 + 1)), (2, .int vt0), (0, .ref (g_a g 83)), (1, .int v1), (3, .int v3)]) d_Mo_spread_83 4 rfl ic_1 rfl rfl ?_
  refine k_goto C 25 d_Mo_spread_86 (by decide) ?_
  exact k_sub [2, 3, 1, 4, 0] rfl (hK25 v1 vt0 (v4 + 1) m h)

def b_Mo_spread_69 (K12 : Int32 → Int32 → Int32 → MD → Option (Int32 × MD)) (K25 : Int32 → Int32 → Int32 → MD → Option (Int32 × MD)) (v2 : Int32) (v3 : Int32) (v4 : Int32) (v5 : Int32) (vt0 : Int32) (m : MD) : Option (Int32 × MD) := (if v5 ≤ v2 then b_Mo_spread_82 K12 K25 vt0 v3 v4 v2 m else b_Mo_spread_82 K12 K25 vt0 v3 v4 v5 m)
theorem t_Mo_spread_69 {g : GC} {X : MX} (C : Cx g X c_Mo_spread 6 n_Mo 1) {r : Int32 × MD} {xx : XD} {oo : Nat → Int64} (q : RtI g X (some .int) r.1 (xx, r.2, oo)) (v2 : Int32) (v3 : Int32) (v4 : Int32) (v5 : Int32) (vt0 : Int32) (K12 : Int32 → Int32 → Int32 → MD → Option (Int32 × MD)) (hK12 : ∀ (v1 : Int32) (v2 : Int32) (v3 : Int32) (m : MD), K12 v1 v2 v3 m = some r → Wk g X 6 12 [(0, .ref (g_a g 83)), (1, .int v1), (2, .int v2), (3, .int v3)] [] (xx, m, oo)) (K25 : Int32 → Int32 → Int32 → MD → Option (Int32 × MD)) (hK25 : ∀ (v1 : Int32) (v2 : Int32) (v4 : Int32) (m : MD), K25 v1 v2 v4 m = some r → Wk g X 6 25 [(0, .ref (g_a g 83)), (1, .int v1), (2, .int v2), (3, .int v3), (4, .int v4)] [] (xx, m, oo)) (m : MD) (h : b_Mo_spread_69 K12 K25 v2 v3 v4 v5 vt0 m = some r) : Wk g X 6 69 [(0, .ref (g_a g 83)), (2, .int v2), (3, .int v3), (4, .int v4), (5, .int v5)] [.int vt0] (xx, m, oo) := by
  unfold b_Mo_spread_69 at h
  refine k_istore_n C (lv' := [(1, .int vt0), (0, .ref (g_a g 83)), (2, .int v2), (3, .int v3), (4, .int v4), (5, .int v5)]) d_Mo_spread_69 rfl rfl ?_
  refine k_iload C d_Mo_spread_70 5 rfl ?_
  refine k_iload_n C d_Mo_spread_72 2 rfl ?_
  refine k_icmp_le C 81 d_Mo_spread_73 (by decide) (fun c1 => ?_) (fun c1 => ?_)
  · have h := (if_pos c1).symm.trans h
    refine k_iload_n C d_Mo_spread_81 2 rfl ?_
    exact k_sub [1, 0, 3, 4] rfl (t_Mo_spread_82 C q vt0 v3 v4 v2 K12 hK12 K25 hK25 m h)
  · have h := (if_neg c1).symm.trans h
    refine k_iload C d_Mo_spread_76 5 rfl ?_
    refine k_goto C 82 d_Mo_spread_78 (by decide) ?_
    exact k_sub [1, 0, 3, 4] rfl (t_Mo_spread_82 C q vt0 v3 v4 v5 K12 hK12 K25 hK25 m h)

def b_Mo_spread_25 (K12 : Int32 → Int32 → Int32 → MD → Option (Int32 × MD)) (v3 : Int32) : Nat → Int32 → Int32 → Int32 → MD → Option (Int32 × MD)
  | 0, _, _, _, _ => none
  | n + 1, v1, v2, v4, m => (if m.1 83 0 ≤ v4 then K12 v1 v2 (v3 + 1) m else gI v3 7 (gI v4 7 ((f_Mo_apart (m.1 87 v3.toNatClampNeg) (m.1 87 v4.toNatClampNeg) m).bind fun p4 => ((if p4.1 ≤ v2 then b_Mo_spread_69 K12 (b_Mo_spread_25 K12 v3 n) v2 v3 v4 p4.1 v1 p4.2 else b_Mo_spread_69 K12 (b_Mo_spread_25 K12 v3 n) v2 v3 v4 p4.1 ((10 * v3) + v4) p4.2)))))
theorem t_Mo_spread_25 {g : GC} {X : MX} (C : Cx g X c_Mo_spread 6 n_Mo 1) {r : Int32 × MD} {xx : XD} {oo : Nat → Int64} (q : RtI g X (some .int) r.1 (xx, r.2, oo)) (v3 : Int32) (K12 : Int32 → Int32 → Int32 → MD → Option (Int32 × MD)) (hK12 : ∀ (v1 : Int32) (v2 : Int32) (v3 : Int32) (m : MD), K12 v1 v2 v3 m = some r → Wk g X 6 12 [(0, .ref (g_a g 83)), (1, .int v1), (2, .int v2), (3, .int v3)] [] (xx, m, oo)) : ∀ (n : Nat) (v1 : Int32) (v2 : Int32) (v4 : Int32) (m : MD) (h : b_Mo_spread_25 K12 v3 n v1 v2 v4 m = some r), Wk g X 6 25 [(0, .ref (g_a g 83)), (1, .int v1), (2, .int v2), (3, .int v3), (4, .int v4)] [] (xx, m, oo) := by
  intro n
  induction n with
  | zero =>
    intro v1 v2 v4 m h
    rw [b_Mo_spread_25] at h
    cases h
  | succ n ih =>
    intro v1 v2 v4 m h
    rw [b_Mo_spread_25] at h
    refine k_iload C d_Mo_spread_25 4 rfl ?_
    refine k_aload_n C d_Mo_spread_27 0 rfl ?_
    refine kg_Mo_81 C d_Mo_spread_28 ?_
    refine k_icmp_ge C 89 d_Mo_spread_31 (by decide) (fun c1 => ?_) (fun c1 => ?_)
    · have h := (if_pos c1).symm.trans h
      refine k_inc C (lv' := [(3, .int (v3 + 1)), (0, .ref (g_a g 83)), (1, .int v1), (2, .int v2), (4, .int v4)]) d_Mo_spread_89 3 rfl ic_1 rfl rfl ?_
      refine k_goto C 12 d_Mo_spread_92 (by decide) ?_
      exact k_sub [1, 2, 3, 0] rfl (hK12 v1 v2 (v3 + 1) m h)
    · have h := (if_neg c1).symm.trans h
      refine k_aload_n C d_Mo_spread_34 0 rfl ?_
      refine kg_Mo_19 C d_Mo_spread_35 ?_
      refine k_iload_n C d_Mo_spread_38 3 rfl ?_
      obtain ⟨i2, h⟩ := gI_some h
      refine k_ialdM C (by decide) (by decide) i2 d_Mo_spread_39 ?_
      refine k_aload_n C d_Mo_spread_40 0 rfl ?_
      refine kg_Mo_19 C d_Mo_spread_41 ?_
      refine k_iload C d_Mo_spread_44 4 rfl ?_
      obtain ⟨i3, h⟩ := gI_some h
      refine k_ialdM C (by decide) (by decide) i3 d_Mo_spread_46 ?_
      obtain ⟨p4, ep4, h⟩ := bd_some h
      refine k_callSi C q_Mo_84 (fun l => m_Mo_apart (cx_g C) l (m.1 87 v3.toNatClampNeg) (m.1 87 v4.toNatClampNeg) m xx oo p4 ep4) rfl rfl (rtI_c q) rfl rfl rfl d_Mo_spread_47 ?_
      refine k_istore C (lv' := [(5, .int p4.1), (0, .ref (g_a g 83)), (1, .int v1), (2, .int v2), (3, .int v3), (4, .int v4)]) d_Mo_spread_50 rfl rfl ?_
      refine k_iload C d_Mo_spread_52 0 rfl ?_
      refine k_iload_n C d_Mo_spread_54 3 rfl ?_
      refine k_icmp_le C 68 d_Mo_spread_55 (by decide) (fun c5 => ?_) (fun c5 => ?_)
      · have h := (if_pos c5).symm.trans h
        refine k_iload_n C d_Mo_spread_68 2 rfl ?_
        exact k_sub [1, 3, 4, 5, 0] rfl (t_Mo_spread_69 C q v2 v3 v4 p4.1 v1 K12 hK12 (b_Mo_spread_25 K12 v3 n) ih p4.2 h)
      · have h := (if_neg c5).symm.trans h
        refine k_bipush C 10 d_Mo_spread_58 bp_10 ?_
        refine k_iload_n C d_Mo_spread_60 4 rfl ?_
        refine k_imul C d_Mo_spread_61 ?_
        refine k_iload C d_Mo_spread_62 5 rfl ?_
        refine k_iadd C d_Mo_spread_64 ?_
        refine k_goto C 69 d_Mo_spread_65 (by decide) ?_
        exact k_sub [1, 3, 4, 5, 0] rfl (t_Mo_spread_69 C q v2 v3 v4 p4.1 ((10 * v3) + v4) K12 hK12 (b_Mo_spread_25 K12 v3 n) ih p4.2 h)

def b_Mo_spread_12 : Nat → Int32 → Int32 → Int32 → MD → Option (Int32 × MD)
  | 0, _, _, _, _ => none
  | n + 1, v1, v2, v3, m => (if m.1 83 0 ≤ v3 then some (v1, m) else b_Mo_spread_25 (b_Mo_spread_12 n) v3 fu v1 v2 (v3 + 1) m)
theorem t_Mo_spread_12 {g : GC} {X : MX} (C : Cx g X c_Mo_spread 6 n_Mo 1) {r : Int32 × MD} {xx : XD} {oo : Nat → Int64} (q : RtI g X (some .int) r.1 (xx, r.2, oo)) : ∀ (n : Nat) (v1 : Int32) (v2 : Int32) (v3 : Int32) (m : MD) (h : b_Mo_spread_12 n v1 v2 v3 m = some r), Wk g X 6 12 [(0, .ref (g_a g 83)), (1, .int v1), (2, .int v2), (3, .int v3)] [] (xx, m, oo) := by
  intro n
  induction n with
  | zero =>
    intro v1 v2 v3 m h
    rw [b_Mo_spread_12] at h
    cases h
  | succ n ih =>
    intro v1 v2 v3 m h
    rw [b_Mo_spread_12] at h
    refine k_iload_n C d_Mo_spread_12 3 rfl ?_
    refine k_aload_n C d_Mo_spread_13 0 rfl ?_
    refine kg_Mo_81 C d_Mo_spread_14 ?_
    refine k_icmp_ge C 95 d_Mo_spread_17 (by decide) (fun c1 => ?_) (fun c1 => ?_)
    · have h := (if_pos c1).symm.trans h
      refine k_iload_n C d_Mo_spread_95 1 rfl ?_
      obtain rfl := Option.some.inj h
      exact k_iret C q d_Mo_spread_96
    · have h := (if_neg c1).symm.trans h
      refine k_iload_n C d_Mo_spread_20 3 rfl ?_
      refine k_iconst C 1 d_Mo_spread_21 ic_1 ?_
      refine k_iadd C d_Mo_spread_22 ?_
      refine k_istore C (lv' := [(4, .int (v3 + 1)), (0, .ref (g_a g 83)), (1, .int v1), (2, .int v2), (3, .int v3)]) d_Mo_spread_23 rfl rfl ?_
      exact k_sub [1, 2, 3, 4, 0] rfl (t_Mo_spread_25 C q v3 (b_Mo_spread_12 n) ih fu v1 v2 (v3 + 1) m h)

def f_Mo_spread (m : MD) : Option (Int32 × MD) := lt ((x_up m.1 83 14 0, m.2)) fun (m1 : MD) => b_Mo_spread_12 fu (-4) (-1) 0 m1
theorem m_Mo_spread {g : GC} (hg : gOk g) (l : Launch)  (m : MD) (xx : XD) (oo : Nat → Int64) (r : Int32 × MD) (h : f_Mo_spread m = some r) : Mi g l y_Mo_spread c_Mo_spread 6 (some .int) 1 [.ref (g_a g 83)] (xx, m, oo) r.1 (xx, r.2, oo) := by
  refine m_i hg pn_Mo rfl fun X q C => ?_
  refine k_sub (lv' := [(0, .ref (g_a g 83))]) [0] rfl ?_
  unfold f_Mo_spread at h
  refine k_aload_n C d_Mo_spread_0 0 rfl ?_
  refine k_iconst C 0 d_Mo_spread_1 ic_0 ?_
  obtain ⟨m1, em1, h⟩ := lt_some h
  refine kp_Mo_71 C em1 d_Mo_spread_2 ?_
  refine k_bipush C (-4) d_Mo_spread_5 bp_m4 ?_
  refine k_istore_n C (lv' := [(1, .int (-4)), (0, .ref (g_a g 83))]) d_Mo_spread_7 rfl rfl ?_
  refine k_iconst C (-1) d_Mo_spread_8 ic_m1 ?_
  refine k_istore_n C (lv' := [(2, .int (-1)), (1, .int (-4)), (0, .ref (g_a g 83))]) d_Mo_spread_9 rfl rfl ?_
  refine k_iconst C 0 d_Mo_spread_10 ic_0 ?_
  refine k_istore_n C (lv' := [(3, .int 0), (2, .int (-1)), (1, .int (-4)), (0, .ref (g_a g 83))]) d_Mo_spread_11 rfl rfl ?_
  exact k_sub [3, 2, 1, 0] rfl (t_Mo_spread_12 C q fu (-4) (-1) 0 m1 h)

def f_Mo_wrongKept (v1 : Int32) (m : MD) : Option (Int32 × MD) := (f_Mo_in v1.toInt64 0 7 m).bind fun p1 => ((if p1.1 = 0 then some ((-1), p1.2) else gI v1 8 ((if p1.2.1 89 v1.toNatClampNeg = 0 then some ((-11), p1.2) else gI v1 8 ((if p1.2.1 89 v1.toNatClampNeg = 1 then some (0, p1.2) else some ((-12), p1.2)))))))
theorem m_Mo_wrongKept {g : GC} (hg : gOk g) (l : Launch)  (v1 : Int32) (m : MD) (xx : XD) (oo : Nat → Int64) (r : Int32 × MD) (h : f_Mo_wrongKept v1 m = some r) : Mi g l y_Mo_wrongKept c_Mo_wrongKept 2 (some .int) 1 [.ref (g_a g 83), .int v1] (xx, m, oo) r.1 (xx, r.2, oo) := by
  refine m_i hg pn_Mo rfl fun X q C => ?_
  refine k_sub (lv' := [(0, .ref (g_a g 83)), (1, .int v1)]) [0, 1] rfl ?_
  unfold f_Mo_wrongKept at h
  refine k_iload_n C d_Mo_wrongKept_0 1 rfl ?_
  refine k_i2l C d_Mo_wrongKept_1 ?_
  refine k_lconst C 0 d_Mo_wrongKept_2 rfl ?_
  refine k_ldc2 C 7 l_1063 d_Mo_wrongKept_3 ?_
  obtain ⟨p1, ep1, h⟩ := bd_some h
  refine k_callSi C q_Mo_77 (fun l => m_Mo_in (cx_g C) l v1.toInt64 0 7 m xx oo p1 ep1) rfl rfl (rtI_c q) rfl rfl rfl d_Mo_wrongKept_6 ?_
  refine k_if_ne C 16 d_Mo_wrongKept_9 (by decide) (fun c2 => ?_) (fun c2 => ?_)
  · have h := (if_neg c2).symm.trans h
    refine k_aload_n C d_Mo_wrongKept_16 0 rfl ?_
    refine kg_Mo_25 C d_Mo_wrongKept_17 ?_
    refine k_iload_n C d_Mo_wrongKept_20 1 rfl ?_
    obtain ⟨i3, h⟩ := gI_some h
    refine k_ialdM C (by decide) (by decide) i3 d_Mo_wrongKept_21 ?_
    refine k_if_ne C 30 d_Mo_wrongKept_22 (by decide) (fun c4 => ?_) (fun c4 => ?_)
    · have h := (if_neg c4).symm.trans h
      refine k_aload_n C d_Mo_wrongKept_30 0 rfl ?_
      refine kg_Mo_25 C d_Mo_wrongKept_31 ?_
      refine k_iload_n C d_Mo_wrongKept_34 1 rfl ?_
      obtain ⟨i5, h⟩ := gI_some h
      refine k_ialdM C (by decide) (by decide) i5 d_Mo_wrongKept_35 ?_
      refine k_iconst C 1 d_Mo_wrongKept_36 ic_1 ?_
      refine k_icmp_eq C 45 d_Mo_wrongKept_37 (by decide) (fun c6 => ?_) (fun c6 => ?_)
      · have h := (if_pos c6).symm.trans h
        refine k_iconst C 0 d_Mo_wrongKept_45 ic_0 ?_
        obtain rfl := Option.some.inj h
        exact k_iret C q d_Mo_wrongKept_46
      · have h := (if_neg c6).symm.trans h
        refine k_bipush C (-12) d_Mo_wrongKept_40 bp_m12 ?_
        refine k_goto C 46 d_Mo_wrongKept_42 (by decide) ?_
        obtain rfl := Option.some.inj h
        exact k_iret C q d_Mo_wrongKept_46
    · have h := (if_pos c4).symm.trans h
      refine k_bipush C (-11) d_Mo_wrongKept_25 bp_m11 ?_
      refine k_goto C 46 d_Mo_wrongKept_27 (by decide) ?_
      obtain rfl := Option.some.inj h
      exact k_iret C q d_Mo_wrongKept_46
  · have h := (if_pos c2).symm.trans h
    refine k_iconst C (-1) d_Mo_wrongKept_12 ic_m1 ?_
    refine k_goto C 46 d_Mo_wrongKept_13 (by decide) ?_
    obtain rfl := Option.some.inj h
    exact k_iret C q d_Mo_wrongKept_46

def f_Mo_wrongRow (v1 : Int32) (m : MD) : Option (Int32 × MD) := (f_Mo_in v1.toInt64 0 7 m).bind fun p1 => ((if p1.1 = 0 then some ((-1), p1.2) else gI v1 8 ((if p1.2.1 89 v1.toNatClampNeg = 0 then some ((-11), p1.2) else gI v1 8 ((if p1.2.1 89 v1.toNatClampNeg = 2 then some (0, p1.2) else some ((-12), p1.2)))))))
theorem m_Mo_wrongRow {g : GC} (hg : gOk g) (l : Launch)  (v1 : Int32) (m : MD) (xx : XD) (oo : Nat → Int64) (r : Int32 × MD) (h : f_Mo_wrongRow v1 m = some r) : Mi g l y_Mo_wrongRow c_Mo_wrongRow 2 (some .int) 1 [.ref (g_a g 83), .int v1] (xx, m, oo) r.1 (xx, r.2, oo) := by
  refine m_i hg pn_Mo rfl fun X q C => ?_
  refine k_sub (lv' := [(0, .ref (g_a g 83)), (1, .int v1)]) [0, 1] rfl ?_
  unfold f_Mo_wrongRow at h
  refine k_iload_n C d_Mo_wrongRow_0 1 rfl ?_
  refine k_i2l C d_Mo_wrongRow_1 ?_
  refine k_lconst C 0 d_Mo_wrongRow_2 rfl ?_
  refine k_ldc2 C 7 l_1063 d_Mo_wrongRow_3 ?_
  obtain ⟨p1, ep1, h⟩ := bd_some h
  refine k_callSi C q_Mo_77 (fun l => m_Mo_in (cx_g C) l v1.toInt64 0 7 m xx oo p1 ep1) rfl rfl (rtI_c q) rfl rfl rfl d_Mo_wrongRow_6 ?_
  refine k_if_ne C 16 d_Mo_wrongRow_9 (by decide) (fun c2 => ?_) (fun c2 => ?_)
  · have h := (if_neg c2).symm.trans h
    refine k_aload_n C d_Mo_wrongRow_16 0 rfl ?_
    refine kg_Mo_25 C d_Mo_wrongRow_17 ?_
    refine k_iload_n C d_Mo_wrongRow_20 1 rfl ?_
    obtain ⟨i3, h⟩ := gI_some h
    refine k_ialdM C (by decide) (by decide) i3 d_Mo_wrongRow_21 ?_
    refine k_if_ne C 30 d_Mo_wrongRow_22 (by decide) (fun c4 => ?_) (fun c4 => ?_)
    · have h := (if_neg c4).symm.trans h
      refine k_aload_n C d_Mo_wrongRow_30 0 rfl ?_
      refine kg_Mo_25 C d_Mo_wrongRow_31 ?_
      refine k_iload_n C d_Mo_wrongRow_34 1 rfl ?_
      obtain ⟨i5, h⟩ := gI_some h
      refine k_ialdM C (by decide) (by decide) i5 d_Mo_wrongRow_35 ?_
      refine k_iconst C 2 d_Mo_wrongRow_36 ic_2 ?_
      refine k_icmp_eq C 45 d_Mo_wrongRow_37 (by decide) (fun c6 => ?_) (fun c6 => ?_)
      · have h := (if_pos c6).symm.trans h
        refine k_iconst C 0 d_Mo_wrongRow_45 ic_0 ?_
        obtain rfl := Option.some.inj h
        exact k_iret C q d_Mo_wrongRow_46
      · have h := (if_neg c6).symm.trans h
        refine k_bipush C (-12) d_Mo_wrongRow_40 bp_m12 ?_
        refine k_goto C 46 d_Mo_wrongRow_42 (by decide) ?_
        obtain rfl := Option.some.inj h
        exact k_iret C q d_Mo_wrongRow_46
    · have h := (if_pos c4).symm.trans h
      refine k_bipush C (-11) d_Mo_wrongRow_25 bp_m11 ?_
      refine k_goto C 46 d_Mo_wrongRow_27 (by decide) ?_
      obtain rfl := Option.some.inj h
      exact k_iret C q d_Mo_wrongRow_46
  · have h := (if_pos c2).symm.trans h
    refine k_iconst C (-1) d_Mo_wrongRow_12 ic_m1 ?_
    refine k_goto C 46 d_Mo_wrongRow_13 (by decide) ?_
    obtain rfl := Option.some.inj h
    exact k_iret C q d_Mo_wrongRow_46

def b_Mo_atGoals_32 (K4 : Int32 → Int32 → MD → Option (Int32 × MD)) (v2 : Int32) (vt0 : Int32) (vt1 : Int32) (m : MD) : Option (Int32 × MD) := K4 (vt0 + vt1) (v2 + 1) m
theorem t_Mo_atGoals_32 {g : GC} {X : MX} (C : Cx g X c_Mo_atGoals 3 n_Mo 2) {r : Int32 × MD} {xx : XD} {oo : Nat → Int64} (q : RtI g X (some .int) r.1 (xx, r.2, oo)) (v2 : Int32) (vt0 : Int32) (vt1 : Int32) (K4 : Int32 → Int32 → MD → Option (Int32 × MD)) (hK4 : ∀ (v1 : Int32) (v2 : Int32) (m : MD), K4 v1 v2 m = some r → Wk g X 3 4 [(0, .ref (g_a g 83)), (1, .int v1), (2, .int v2)] [] (xx, m, oo)) (m : MD) (h : b_Mo_atGoals_32 K4 v2 vt0 vt1 m = some r) : Wk g X 3 32 [(0, .ref (g_a g 83)), (2, .int v2)] [.int vt1, .int vt0] (xx, m, oo) := by
  unfold b_Mo_atGoals_32 at h
  refine k_iadd C d_Mo_atGoals_32 ?_
  refine k_istore_n C (lv' := [(1, .int (vt0 + vt1)), (0, .ref (g_a g 83)), (2, .int v2)]) d_Mo_atGoals_33 rfl rfl ?_
  refine k_inc C (lv' := [(2, .int (v2 + 1)), (1, .int (vt0 + vt1)), (0, .ref (g_a g 83))]) d_Mo_atGoals_34 2 rfl ic_1 rfl rfl ?_
  refine k_goto C 4 d_Mo_atGoals_37 (by decide) ?_
  exact k_sub [2, 1, 0] rfl (hK4 (vt0 + vt1) (v2 + 1) m h)

def b_Mo_atGoals_4 : Nat → Int32 → Int32 → MD → Option (Int32 × MD)
  | 0, _, _, _ => none
  | n + 1, v1, v2, m => (if m.1 83 0 ≤ v2 then some (v1, m) else gI v2 7 ((f_Mo_goalOf v2 m).bind fun p3 => ((if m.1 87 v2.toNatClampNeg = p3.1 then b_Mo_atGoals_32 (b_Mo_atGoals_4 n) v2 v1 1 p3.2 else b_Mo_atGoals_32 (b_Mo_atGoals_4 n) v2 v1 0 p3.2))))
theorem t_Mo_atGoals_4 {g : GC} {X : MX} (C : Cx g X c_Mo_atGoals 3 n_Mo 2) {r : Int32 × MD} {xx : XD} {oo : Nat → Int64} (q : RtI g X (some .int) r.1 (xx, r.2, oo)) : ∀ (n : Nat) (v1 : Int32) (v2 : Int32) (m : MD) (h : b_Mo_atGoals_4 n v1 v2 m = some r), Wk g X 3 4 [(0, .ref (g_a g 83)), (1, .int v1), (2, .int v2)] [] (xx, m, oo) := by
  intro n
  induction n with
  | zero =>
    intro v1 v2 m h
    rw [b_Mo_atGoals_4] at h
    cases h
  | succ n ih =>
    intro v1 v2 m h
    rw [b_Mo_atGoals_4] at h
    refine k_iload_n C d_Mo_atGoals_4 2 rfl ?_
    refine k_aload_n C d_Mo_atGoals_5 0 rfl ?_
    refine kg_Mo_81 C d_Mo_atGoals_6 ?_
    refine k_icmp_ge C 40 d_Mo_atGoals_9 (by decide) (fun c1 => ?_) (fun c1 => ?_)
    · have h := (if_pos c1).symm.trans h
      refine k_iload_n C d_Mo_atGoals_40 1 rfl ?_
      obtain rfl := Option.some.inj h
      exact k_iret C q d_Mo_atGoals_41
    · have h := (if_neg c1).symm.trans h
      refine k_iload_n C d_Mo_atGoals_12 1 rfl ?_
      refine k_aload_n C d_Mo_atGoals_13 0 rfl ?_
      refine kg_Mo_19 C d_Mo_atGoals_14 ?_
      refine k_iload_n C d_Mo_atGoals_17 2 rfl ?_
      obtain ⟨i2, h⟩ := gI_some h
      refine k_ialdM C (by decide) (by decide) i2 d_Mo_atGoals_18 ?_
      refine k_aload_n C d_Mo_atGoals_19 0 rfl ?_
      refine k_iload_n C d_Mo_atGoals_20 2 rfl ?_
      obtain ⟨p3, ep3, h⟩ := bd_some h
      refine k_callVi C q_Mo_91 (fun l => m_Mo_goalOf (cx_g C) l v2 m xx oo p3 ep3) rfl rfl (rtI_c q) (by decide) sh_Mo rfl rfl rfl rfl d_Mo_atGoals_21 ?_
      refine k_icmp_ne C 31 d_Mo_atGoals_24 (by decide) (fun c4 => ?_) (fun c4 => ?_)
      · have h := (if_neg c4).symm.trans h
        refine k_iconst C 0 d_Mo_atGoals_31 ic_0 ?_
        exact k_sub [0, 2] rfl (t_Mo_atGoals_32 C q v2 v1 0 (b_Mo_atGoals_4 n) ih p3.2 h)
      · have h := (if_pos c4).symm.trans h
        refine k_iconst C 1 d_Mo_atGoals_27 ic_1 ?_
        refine k_goto C 32 d_Mo_atGoals_28 (by decide) ?_
        exact k_sub [0, 2] rfl (t_Mo_atGoals_32 C q v2 v1 1 (b_Mo_atGoals_4 n) ih p3.2 h)

def f_Mo_atGoals (m : MD) : Option (Int32 × MD) := b_Mo_atGoals_4 fu 0 0 m
theorem m_Mo_atGoals {g : GC} (hg : gOk g) (l : Launch)  (m : MD) (xx : XD) (oo : Nat → Int64) (r : Int32 × MD) (h : f_Mo_atGoals m = some r) : Mi g l y_Mo_atGoals c_Mo_atGoals 3 (some .int) 2 [.ref (g_a g 83)] (xx, m, oo) r.1 (xx, r.2, oo) := by
  refine m_i hg pn_Mo rfl fun X q C => ?_
  refine k_sub (lv' := [(0, .ref (g_a g 83))]) [0] rfl ?_
  unfold f_Mo_atGoals at h
  refine k_iconst C 0 d_Mo_atGoals_0 ic_0 ?_
  refine k_istore_n C (lv' := [(1, .int 0), (0, .ref (g_a g 83))]) d_Mo_atGoals_1 rfl rfl ?_
  refine k_iconst C 0 d_Mo_atGoals_2 ic_0 ?_
  refine k_istore_n C (lv' := [(2, .int 0), (1, .int 0), (0, .ref (g_a g 83))]) d_Mo_atGoals_3 rfl rfl ?_
  exact k_sub [2, 1, 0] rfl (t_Mo_atGoals_4 C q fu 0 0 m h)

def b_Mo_away_39 (K9 : Int32 → Int32 → MD → Option (Int32 × MD)) (v2 : Int32) (vt0 : Int32) (vt1 : Int32) (m : MD) : Option (Int32 × MD) := K9 (vt0 ||| vt1) (v2 + 1) m
theorem t_Mo_away_39 {g : GC} {X : MX} (C : Cx g X c_Mo_away 3 n_Mo 2) {r : Int32 × MD} {xx : XD} {oo : Nat → Int64} (q : RtI g X (some .int) r.1 (xx, r.2, oo)) (v2 : Int32) (vt0 : Int32) (vt1 : Int32) (K9 : Int32 → Int32 → MD → Option (Int32 × MD)) (hK9 : ∀ (v1 : Int32) (v2 : Int32) (m : MD), K9 v1 v2 m = some r → Wk g X 3 9 [(0, .ref (g_a g 83)), (1, .int v1), (2, .int v2)] [] (xx, m, oo)) (m : MD) (h : b_Mo_away_39 K9 v2 vt0 vt1 m = some r) : Wk g X 3 39 [(0, .ref (g_a g 83)), (2, .int v2)] [.int vt1, .int vt0] (xx, m, oo) := by
  unfold b_Mo_away_39 at h
  refine k_ior C d_Mo_away_39 ?_
  refine k_istore_n C (lv' := [(1, .int (vt0 ||| vt1)), (0, .ref (g_a g 83)), (2, .int v2)]) d_Mo_away_40 rfl rfl ?_
  refine k_inc C (lv' := [(2, .int (v2 + 1)), (1, .int (vt0 ||| vt1)), (0, .ref (g_a g 83))]) d_Mo_away_41 2 rfl ic_1 rfl rfl ?_
  refine k_goto C 9 d_Mo_away_44 (by decide) ?_
  exact k_sub [2, 1, 0] rfl (hK9 (vt0 ||| vt1) (v2 + 1) m h)

def b_Mo_away_9 : Nat → Int32 → Int32 → MD → Option (Int32 × MD)
  | 0, _, _, _ => none
  | n + 1, v1, v2, m => (if m.1 83 0 ≤ v2 then some (v1, m) else gI v2 7 ((f_Mo_goalOf v2 m).bind fun p3 => ((if m.1 87 v2.toNatClampNeg = p3.1 then b_Mo_away_39 (b_Mo_away_9 n) v2 v1 0 p3.2 else b_Mo_away_39 (b_Mo_away_9 n) v2 v1 (1 <<< (v2 &&& 31)) p3.2))))
theorem t_Mo_away_9 {g : GC} {X : MX} (C : Cx g X c_Mo_away 3 n_Mo 2) {r : Int32 × MD} {xx : XD} {oo : Nat → Int64} (q : RtI g X (some .int) r.1 (xx, r.2, oo)) : ∀ (n : Nat) (v1 : Int32) (v2 : Int32) (m : MD) (h : b_Mo_away_9 n v1 v2 m = some r), Wk g X 3 9 [(0, .ref (g_a g 83)), (1, .int v1), (2, .int v2)] [] (xx, m, oo) := by
  intro n
  induction n with
  | zero =>
    intro v1 v2 m h
    rw [b_Mo_away_9] at h
    cases h
  | succ n ih =>
    intro v1 v2 m h
    rw [b_Mo_away_9] at h
    refine k_iload_n C d_Mo_away_9 2 rfl ?_
    refine k_aload_n C d_Mo_away_10 0 rfl ?_
    refine kg_Mo_81 C d_Mo_away_11 ?_
    refine k_icmp_ge C 47 d_Mo_away_14 (by decide) (fun c1 => ?_) (fun c1 => ?_)
    · have h := (if_pos c1).symm.trans h
      refine k_iload_n C d_Mo_away_47 1 rfl ?_
      obtain rfl := Option.some.inj h
      exact k_iret C q d_Mo_away_48
    · have h := (if_neg c1).symm.trans h
      refine k_iload_n C d_Mo_away_17 1 rfl ?_
      refine k_aload_n C d_Mo_away_18 0 rfl ?_
      refine kg_Mo_19 C d_Mo_away_19 ?_
      refine k_iload_n C d_Mo_away_22 2 rfl ?_
      obtain ⟨i2, h⟩ := gI_some h
      refine k_ialdM C (by decide) (by decide) i2 d_Mo_away_23 ?_
      refine k_aload_n C d_Mo_away_24 0 rfl ?_
      refine k_iload_n C d_Mo_away_25 2 rfl ?_
      obtain ⟨p3, ep3, h⟩ := bd_some h
      refine k_callVi C q_Mo_91 (fun l => m_Mo_goalOf (cx_g C) l v2 m xx oo p3 ep3) rfl rfl (rtI_c q) (by decide) sh_Mo rfl rfl rfl rfl d_Mo_away_26 ?_
      refine k_icmp_eq C 38 d_Mo_away_29 (by decide) (fun c4 => ?_) (fun c4 => ?_)
      · have h := (if_pos c4).symm.trans h
        refine k_iconst C 0 d_Mo_away_38 ic_0 ?_
        exact k_sub [0, 2] rfl (t_Mo_away_39 C q v2 v1 0 (b_Mo_away_9 n) ih p3.2 h)
      · have h := (if_neg c4).symm.trans h
        refine k_iconst C 1 d_Mo_away_32 ic_1 ?_
        refine k_iload_n C d_Mo_away_33 2 rfl ?_
        refine k_ishl C d_Mo_away_34 ?_
        refine k_goto C 39 d_Mo_away_35 (by decide) ?_
        exact k_sub [0, 2] rfl (t_Mo_away_39 C q v2 v1 (1 <<< (v2 &&& 31)) (b_Mo_away_9 n) ih p3.2 h)

def f_Mo_away (m : MD) : Option (Int32 × MD) := lt ((x_up m.1 83 14 0, m.2)) fun (m1 : MD) => b_Mo_away_9 fu 0 0 m1
theorem m_Mo_away {g : GC} (hg : gOk g) (l : Launch)  (m : MD) (xx : XD) (oo : Nat → Int64) (r : Int32 × MD) (h : f_Mo_away m = some r) : Mi g l y_Mo_away c_Mo_away 3 (some .int) 2 [.ref (g_a g 83)] (xx, m, oo) r.1 (xx, r.2, oo) := by
  refine m_i hg pn_Mo rfl fun X q C => ?_
  refine k_sub (lv' := [(0, .ref (g_a g 83))]) [0] rfl ?_
  unfold f_Mo_away at h
  refine k_aload_n C d_Mo_away_0 0 rfl ?_
  refine k_iconst C 0 d_Mo_away_1 ic_0 ?_
  obtain ⟨m1, em1, h⟩ := lt_some h
  refine kp_Mo_71 C em1 d_Mo_away_2 ?_
  refine k_iconst C 0 d_Mo_away_5 ic_0 ?_
  refine k_istore_n C (lv' := [(1, .int 0), (0, .ref (g_a g 83))]) d_Mo_away_6 rfl rfl ?_
  refine k_iconst C 0 d_Mo_away_7 ic_0 ?_
  refine k_istore_n C (lv' := [(2, .int 0), (1, .int 0), (0, .ref (g_a g 83))]) d_Mo_away_8 rfl rfl ?_
  exact k_sub [2, 1, 0] rfl (t_Mo_away_9 C q fu 0 0 m1 h)

def f_Mo_close (m : MD) : Option (Unit × MD) := (f_Mo_carryAll 98 0 m).bind fun p1 => (some ((), p1.2))
theorem m_Mo_close {g : GC} (hg : gOk g) (l : Launch)  (m : MD) (xx : XD) (oo : Nat → Int64) (r : Unit × MD) (h : f_Mo_close m = some r) : Mv g l y_Mo_close c_Mo_close 1 none 2 [.ref (g_a g 83)] (xx, m, oo) (xx, r.2, oo) := by
  refine m_v hg pn_Mo rfl fun X q C => ?_
  refine k_sub (lv' := [(0, .ref (g_a g 83))]) [0] rfl ?_
  unfold f_Mo_close at h
  refine k_aload_n C d_Mo_close_0 0 rfl ?_
  refine k_aload_n C d_Mo_close_1 0 rfl ?_
  refine kg_Mo_53 C d_Mo_close_2 ?_
  refine k_iconst C 0 d_Mo_close_5 ic_0 ?_
  obtain ⟨p1, ep1, h⟩ := bd_some h
  refine k_callVv C q_Mo_198 (fun l => m_Mo_carryAll (cx_g C) l 98 (by decide) 0 m xx oo p1 ep1) rfl rfl (rtV_c q) (by decide) sh_Mo rfl rfl rfl rfl d_Mo_close_6 ?_
  obtain rfl := Option.some.inj h
  exact k_vret C q d_Mo_close_9

def f_Mo_cost (v1 : Int32) (m : MD) : Option (Int32 × MD) := lt ((x_up m.1 83 14 0, m.2)) fun (m1 : MD) => (f_Mo_wrongKept v1 m1).bind fun p2 => ((if 0 ≤ p2.1 then gI v1 8 (gI v1 8 ((f_Mo_costOf (p2.2.1 90 v1.toNatClampNeg) (p2.2.1 91 v1.toNatClampNeg) p2.2).bind fun p6 => (some (p6.1, p6.2)))) else (f_Mo_wrongKept v1 p2.2).bind fun p7 => (some (p7.1, p7.2))))
theorem m_Mo_cost {g : GC} (hg : gOk g) (l : Launch)  (v1 : Int32) (m : MD) (xx : XD) (oo : Nat → Int64) (r : Int32 × MD) (h : f_Mo_cost v1 m = some r) : Mi g l y_Mo_cost c_Mo_cost 2 (some .int) 2 [.ref (g_a g 83), .int v1] (xx, m, oo) r.1 (xx, r.2, oo) := by
  refine m_i hg pn_Mo rfl fun X q C => ?_
  refine k_sub (lv' := [(0, .ref (g_a g 83)), (1, .int v1)]) [0, 1] rfl ?_
  unfold f_Mo_cost at h
  refine k_aload_n C d_Mo_cost_0 0 rfl ?_
  refine k_iconst C 0 d_Mo_cost_1 ic_0 ?_
  obtain ⟨m1, em1, h⟩ := lt_some h
  refine kp_Mo_71 C em1 d_Mo_cost_2 ?_
  refine k_aload_n C d_Mo_cost_5 0 rfl ?_
  refine k_iload_n C d_Mo_cost_6 1 rfl ?_
  obtain ⟨p2, ep2, h⟩ := bd_some h
  refine k_callVi C q_Mo_207 (fun l => m_Mo_wrongKept (cx_g C) l v1 m1 xx oo p2 ep2) rfl rfl (rtI_c q) (by decide) sh_Mo rfl rfl rfl rfl d_Mo_cost_7 ?_
  refine k_if_ge C 21 d_Mo_cost_10 (by decide) (fun c3 => ?_) (fun c3 => ?_)
  · have h := (if_pos c3).symm.trans h
    refine k_aload_n C d_Mo_cost_21 0 rfl ?_
    refine kg_Mo_28 C d_Mo_cost_22 ?_
    refine k_iload_n C d_Mo_cost_25 1 rfl ?_
    obtain ⟨i4, h⟩ := gI_some h
    refine k_ialdM C (by decide) (by decide) i4 d_Mo_cost_26 ?_
    refine k_aload_n C d_Mo_cost_27 0 rfl ?_
    refine kg_Mo_31 C d_Mo_cost_28 ?_
    refine k_iload_n C d_Mo_cost_31 1 rfl ?_
    obtain ⟨i5, h⟩ := gI_some h
    refine k_ialdM C (by decide) (by decide) i5 d_Mo_cost_32 ?_
    obtain ⟨p6, ep6, h⟩ := bd_some h
    refine k_callSi C q_Mo_237 (fun l => m_Mo_costOf (cx_g C) l (p2.2.1 90 v1.toNatClampNeg) (p2.2.1 91 v1.toNatClampNeg) p2.2 xx oo p6 ep6) rfl rfl (rtI_c q) rfl rfl rfl d_Mo_cost_33 ?_
    obtain rfl := Option.some.inj h
    exact k_iret C q d_Mo_cost_36
  · have h := (if_neg c3).symm.trans h
    refine k_aload_n C d_Mo_cost_13 0 rfl ?_
    refine k_iload_n C d_Mo_cost_14 1 rfl ?_
    obtain ⟨p7, ep7, h⟩ := bd_some h
    refine k_callVi C q_Mo_207 (fun l => m_Mo_wrongKept (cx_g C) l v1 p2.2 xx oo p7 ep7) rfl rfl (rtI_c q) (by decide) sh_Mo rfl rfl rfl rfl d_Mo_cost_15 ?_
    refine k_goto C 36 d_Mo_cost_18 (by decide) ?_
    obtain rfl := Option.some.inj h
    exact k_iret C q d_Mo_cost_36

def b_Mo_element_43 (v1 : Int32) (v2 : Int32) (vt1 : Int32) (m : MD) : Option (Int64 × MD) := lt ((x_up m.1 83 14 vt1, m.2)) fun (m1 : MD) => (if m1.1 83 14 ≤ 0 then gI ((100 * v1) + v2) 800 (some (m1.2.1 94 ((100 * v1) + v2).toNatClampNeg, m1)) else some (0, m1))
theorem t_Mo_element_43 {g : GC} {X : MX} (C : Cx g X c_Mo_element 4 n_Mo 2) {r : Int64 × MD} {xx : XD} {oo : Nat → Int64} (q : RtL g X (some .long) r.1 (xx, r.2, oo)) (v1 : Int32) (v2 : Int32) (vt1 : Int32) (m : MD) (h : b_Mo_element_43 v1 v2 vt1 m = some r) : Wk g X 4 43 [(0, .ref (g_a g 83)), (1, .int v1), (2, .int v2)] [.int vt1, .ref (g_a g 83)] (xx, m, oo) := by
  unfold b_Mo_element_43 at h
  obtain ⟨m1, em1, h⟩ := lt_some h
  refine kp_Mo_71 C em1 d_Mo_element_43 ?_
  refine k_aload_n C d_Mo_element_46 0 rfl ?_
  refine kg_Mo_71 C d_Mo_element_47 ?_
  refine k_if_le C 57 d_Mo_element_50 (by decide) (fun c2 => ?_) (fun c2 => ?_)
  · have h := (if_pos c2).symm.trans h
    refine k_aload_n C d_Mo_element_57 0 rfl ?_
    refine kg_Mo_40 C d_Mo_element_58 ?_
    refine k_bipush C 100 d_Mo_element_61 bp_100 ?_
    refine k_iload_n C d_Mo_element_63 1 rfl ?_
    refine k_imul C d_Mo_element_64 ?_
    refine k_iload_n C d_Mo_element_65 2 rfl ?_
    refine k_iadd C d_Mo_element_66 ?_
    obtain ⟨i3, h⟩ := gI_some h
    refine k_lald94 C i3 d_Mo_element_67 ?_
    obtain rfl := Option.some.inj h
    exact k_lret C q d_Mo_element_68
  · have h := (if_neg c2).symm.trans h
    refine k_lconst C 0 d_Mo_element_53 rfl ?_
    refine k_goto C 68 d_Mo_element_54 (by decide) ?_
    obtain rfl := Option.some.inj h
    exact k_lret C q d_Mo_element_68

def b_Mo_element_38 (v1 : Int32) (v2 : Int32) (m : MD) : Option (Int64 × MD) := b_Mo_element_43 v1 v2 2 m
theorem t_Mo_element_38 {g : GC} {X : MX} (C : Cx g X c_Mo_element 4 n_Mo 2) {r : Int64 × MD} {xx : XD} {oo : Nat → Int64} (q : RtL g X (some .long) r.1 (xx, r.2, oo)) (v1 : Int32) (v2 : Int32) (m : MD) (h : b_Mo_element_38 v1 v2 m = some r) : Wk g X 4 38 [(0, .ref (g_a g 83)), (1, .int v1), (2, .int v2)] [.ref (g_a g 83)] (xx, m, oo) := by
  unfold b_Mo_element_38 at h
  refine k_iconst C 2 d_Mo_element_38 ic_2 ?_
  refine k_goto C 43 d_Mo_element_39 (by decide) ?_
  exact k_sub [0, 1, 2] rfl (t_Mo_element_43 C q v1 v2 2 m h)

def f_Mo_element (v1 : Int32) (v2 : Int32) (m : MD) : Option (Int64 × MD) := (f_Mo_wrongRow v1 m).bind fun p1 => ((if p1.1 = (-1) then b_Mo_element_43 v1 v2 1 p1.2 else (if p1.1 < 0 then b_Mo_element_38 v1 v2 p1.2 else gI v1 8 ((f_Mo_in v2.toInt64 0 (((p1.2.1 93 v1.toNatClampNeg) - 1).toInt64) p1.2).bind fun p5 => ((if p5.1 = 0 then b_Mo_element_38 v1 v2 p5.2 else b_Mo_element_43 v1 v2 0 p5.2))))))
theorem m_Mo_element {g : GC} (hg : gOk g) (l : Launch)  (v1 : Int32) (v2 : Int32) (m : MD) (xx : XD) (oo : Nat → Int64) (r : Int64 × MD) (h : f_Mo_element v1 v2 m = some r) : Ml g l y_Mo_element c_Mo_element 4 (some .long) 2 [.ref (g_a g 83), .int v1, .int v2] (xx, m, oo) r.1 (xx, r.2, oo) := by
  refine m_l hg pn_Mo rfl fun X q C => ?_
  refine k_sub (lv' := [(0, .ref (g_a g 83)), (1, .int v1), (2, .int v2)]) [0, 1, 2] rfl ?_
  unfold f_Mo_element at h
  refine k_aload_n C d_Mo_element_0 0 rfl ?_
  refine k_iload_n C d_Mo_element_1 1 rfl ?_
  obtain ⟨p1, ep1, h⟩ := bd_some h
  refine k_callVi C q_Mo_171 (fun l => m_Mo_wrongRow (cx_g C) l v1 m xx oo p1 ep1) rfl rfl (rtL_c q) (by decide) sh_Mo rfl rfl rfl rfl d_Mo_element_2 ?_
  refine k_istore_n C (lv' := [(3, .int p1.1), (0, .ref (g_a g 83)), (1, .int v1), (2, .int v2)]) d_Mo_element_5 rfl rfl ?_
  refine k_aload_n C d_Mo_element_6 1 rfl ?_
  refine k_iload_n C d_Mo_element_7 0 rfl ?_
  refine k_iconst C (-1) d_Mo_element_8 ic_m1 ?_
  refine k_icmp_ne C 16 d_Mo_element_9 (by decide) (fun c2 => ?_) (fun c2 => ?_)
  · have h := (if_neg c2).symm.trans h
    refine k_iload_n C d_Mo_element_16 0 rfl ?_
    refine k_if_lt C 38 d_Mo_element_17 (by decide) (fun c3 => ?_) (fun c3 => ?_)
    · have h := (if_pos c3).symm.trans h
      exact k_sub [1, 2, 3] rfl (t_Mo_element_38 C q v1 v2 p1.2 h)
    · have h := (if_neg c3).symm.trans h
      refine k_iload_n C d_Mo_element_20 3 rfl ?_
      refine k_i2l C d_Mo_element_21 ?_
      refine k_lconst C 0 d_Mo_element_22 rfl ?_
      refine k_aload_n C d_Mo_element_23 1 rfl ?_
      refine kg_Mo_37 C d_Mo_element_24 ?_
      refine k_iload_n C d_Mo_element_27 2 rfl ?_
      obtain ⟨i4, h⟩ := gI_some h
      refine k_ialdM C (by decide) (by decide) i4 d_Mo_element_28 ?_
      refine k_iconst C 1 d_Mo_element_29 ic_1 ?_
      refine k_isub C d_Mo_element_30 ?_
      refine k_i2l C d_Mo_element_31 ?_
      obtain ⟨p5, ep5, h⟩ := bd_some h
      refine k_callSi C q_Mo_77 (fun l => m_Mo_in (cx_g C) l v2.toInt64 0 (((p1.2.1 93 v1.toNatClampNeg) - 1).toInt64) p1.2 xx oo p5 ep5) rfl rfl (rtL_c q) rfl rfl rfl d_Mo_element_32 ?_
      refine k_if_ne C 42 d_Mo_element_35 (by decide) (fun c6 => ?_) (fun c6 => ?_)
      · have h := (if_neg c6).symm.trans h
        refine k_iconst C 0 d_Mo_element_42 ic_0 ?_
        exact k_sub [1, 2, 3] rfl (t_Mo_element_43 C q v1 v2 0 p5.2 h)
      · have h := (if_pos c6).symm.trans h
        exact k_sub [1, 2, 3] rfl (t_Mo_element_38 C q v1 v2 p5.2 h)
  · have h := (if_pos c2).symm.trans h
    refine k_iconst C 1 d_Mo_element_12 ic_1 ?_
    refine k_goto C 43 d_Mo_element_13 (by decide) ?_
    exact k_sub [1, 2, 3] rfl (t_Mo_element_43 C q v1 v2 1 p1.2 h)

def f_Mo_hangs (v1 : Int32) (m : MD) : Option (Int32 × MD) := lt ((x_up m.1 83 14 0, m.2)) fun (m1 : MD) => (f_Mo_isYard v1 m1).bind fun p2 => ((if p2.1 = 0 then some ((-1), p2.2) else lt ((x_up p2.2.1 83 6 v1, p2.2.2)) fun (m4 : MD) => some (p2.2.1 83 6, m4)))
theorem m_Mo_hangs {g : GC} (hg : gOk g) (l : Launch)  (v1 : Int32) (m : MD) (xx : XD) (oo : Nat → Int64) (r : Int32 × MD) (h : f_Mo_hangs v1 m = some r) : Mi g l y_Mo_hangs c_Mo_hangs 3 (some .int) 2 [.ref (g_a g 83), .int v1] (xx, m, oo) r.1 (xx, r.2, oo) := by
  refine m_i hg pn_Mo rfl fun X q C => ?_
  refine k_sub (lv' := [(0, .ref (g_a g 83)), (1, .int v1)]) [0, 1] rfl ?_
  unfold f_Mo_hangs at h
  refine k_aload_n C d_Mo_hangs_0 0 rfl ?_
  refine k_iconst C 0 d_Mo_hangs_1 ic_0 ?_
  obtain ⟨m1, em1, h⟩ := lt_some h
  refine kp_Mo_71 C em1 d_Mo_hangs_2 ?_
  refine k_iload_n C d_Mo_hangs_5 1 rfl ?_
  obtain ⟨p2, ep2, h⟩ := bd_some h
  refine k_callSi C q_Mo_149 (fun l => m_Mo_isYard (cx_g C) l v1 m1 xx oo p2 ep2) rfl rfl (rtI_c q) rfl rfl rfl d_Mo_hangs_6 ?_
  refine k_if_ne C 14 d_Mo_hangs_9 (by decide) (fun c3 => ?_) (fun c3 => ?_)
  · have h := (if_neg c3).symm.trans h
    refine k_aload_n C d_Mo_hangs_14 0 rfl ?_
    refine kg_Mo_88 C d_Mo_hangs_15 ?_
    refine k_istore_n C (lv' := [(2, .int (p2.2.1 83 6)), (0, .ref (g_a g 83)), (1, .int v1)]) d_Mo_hangs_18 rfl rfl ?_
    refine k_aload_n C d_Mo_hangs_19 1 rfl ?_
    refine k_iload_n C d_Mo_hangs_20 2 rfl ?_
    obtain ⟨m4, em4, h⟩ := lt_some h
    refine kp_Mo_88 C em4 d_Mo_hangs_21 ?_
    refine k_iload_n C d_Mo_hangs_24 0 rfl ?_
    obtain rfl := Option.some.inj h
    exact k_iret C q d_Mo_hangs_25
  · have h := (if_pos c3).symm.trans h
    refine k_iconst C (-1) d_Mo_hangs_12 ic_m1 ?_
    obtain rfl := Option.some.inj h
    exact k_iret C q d_Mo_hangs_13

def f_Mo_horse (v1 : Int32) (v2 : Int32) (m : MD) : Option (Int32 × MD) := lt ((x_up m.1 83 14 0, m.2)) fun (m1 : MD) => (f_Mo_isHorse v1 m1).bind fun p2 => ((if p2.1 = 0 then some ((-1), p2.2) else (if v2 = 0 then gI v1 7 (some (p2.2.1 84 v1.toNatClampNeg, p2.2)) else (if v2 = 1 then gI v1 7 (some (p2.2.1 85 v1.toNatClampNeg, p2.2)) else (if v2 = 2 then gI v1 7 (some (p2.2.1 86 v1.toNatClampNeg, p2.2)) else (if v2 = 3 then gI v1 7 (some (p2.2.1 87 v1.toNatClampNeg, p2.2)) else (if v2 = 4 then gI v1 7 (some (p2.2.1 88 v1.toNatClampNeg, p2.2)) else (if v2 = 5 then (f_Mo_goalOf v1 p2.2).bind fun p15 => (some (p15.1, p15.2)) else (if v2 = 6 then (f_Mo_paceOf v1 p2.2).bind fun p17 => (some (p17.1, p17.2)) else (if v2 = 7 then (f_Mo_walkOf v1 p2.2).bind fun p19 => (some (p19.1, p19.2)) else (some ((-1), p2.2))))))))))))
theorem m_Mo_horse {g : GC} (hg : gOk g) (l : Launch)  (v1 : Int32) (v2 : Int32) (m : MD) (xx : XD) (oo : Nat → Int64) (r : Int32 × MD) (h : f_Mo_horse v1 v2 m = some r) : Mi g l y_Mo_horse c_Mo_horse 3 (some .int) 2 [.ref (g_a g 83), .int v1, .int v2] (xx, m, oo) r.1 (xx, r.2, oo) := by
  refine m_i hg pn_Mo rfl fun X q C => ?_
  refine k_sub (lv' := [(0, .ref (g_a g 83)), (1, .int v1), (2, .int v2)]) [0, 1, 2] rfl ?_
  unfold f_Mo_horse at h
  refine k_aload_n C d_Mo_horse_0 0 rfl ?_
  refine k_iconst C 0 d_Mo_horse_1 ic_0 ?_
  obtain ⟨m1, em1, h⟩ := lt_some h
  refine kp_Mo_71 C em1 d_Mo_horse_2 ?_
  refine k_aload_n C d_Mo_horse_5 0 rfl ?_
  refine k_iload_n C d_Mo_horse_6 1 rfl ?_
  obtain ⟨p2, ep2, h⟩ := bd_some h
  refine k_callVi C q_Mo_162 (fun l => m_Mo_isHorse (cx_g C) l v1 m1 xx oo p2 ep2) rfl rfl (rtI_c q) (by decide) sh_Mo rfl rfl rfl rfl d_Mo_horse_7 ?_
  refine k_if_ne C 15 d_Mo_horse_10 (by decide) (fun c3 => ?_) (fun c3 => ?_)
  · have h := (if_neg c3).symm.trans h
    refine k_iload_n C d_Mo_horse_15 2 rfl ?_
    by_cases c4 : v2 = 0
    · have h := (if_pos c4).symm.trans h
      refine k_tabin C (48) 64 d_Mo_horse_16 (by rw [c4]; decide) (by rw [c4]; decide) (by rw [c4]; decide) (by decide) ?_
      refine k_aload_n C d_Mo_horse_64 0 rfl ?_
      refine kg_Mo_7 C d_Mo_horse_65 ?_
      refine k_iload_n C d_Mo_horse_68 1 rfl ?_
      obtain ⟨i5, h⟩ := gI_some h
      refine k_ialdM C (by decide) (by decide) i5 d_Mo_horse_69 ?_
      obtain rfl := Option.some.inj h
      exact k_iret C q d_Mo_horse_70
    have h := (if_neg c4).symm.trans h
    by_cases c6 : v2 = 1
    · have h := (if_pos c6).symm.trans h
      refine k_tabin C (55) 71 d_Mo_horse_16 (by rw [c6]; decide) (by rw [c6]; decide) (by rw [c6]; decide) (by decide) ?_
      refine k_aload_n C d_Mo_horse_71 0 rfl ?_
      refine kg_Mo_13 C d_Mo_horse_72 ?_
      refine k_iload_n C d_Mo_horse_75 1 rfl ?_
      obtain ⟨i7, h⟩ := gI_some h
      refine k_ialdM C (by decide) (by decide) i7 d_Mo_horse_76 ?_
      obtain rfl := Option.some.inj h
      exact k_iret C q d_Mo_horse_77
    have h := (if_neg c6).symm.trans h
    by_cases c8 : v2 = 2
    · have h := (if_pos c8).symm.trans h
      refine k_tabin C (62) 78 d_Mo_horse_16 (by rw [c8]; decide) (by rw [c8]; decide) (by rw [c8]; decide) (by decide) ?_
      refine k_aload_n C d_Mo_horse_78 0 rfl ?_
      refine kg_Mo_16 C d_Mo_horse_79 ?_
      refine k_iload_n C d_Mo_horse_82 1 rfl ?_
      obtain ⟨i9, h⟩ := gI_some h
      refine k_ialdM C (by decide) (by decide) i9 d_Mo_horse_83 ?_
      obtain rfl := Option.some.inj h
      exact k_iret C q d_Mo_horse_84
    have h := (if_neg c8).symm.trans h
    by_cases c10 : v2 = 3
    · have h := (if_pos c10).symm.trans h
      refine k_tabin C (69) 85 d_Mo_horse_16 (by rw [c10]; decide) (by rw [c10]; decide) (by rw [c10]; decide) (by decide) ?_
      refine k_aload_n C d_Mo_horse_85 0 rfl ?_
      refine kg_Mo_19 C d_Mo_horse_86 ?_
      refine k_iload_n C d_Mo_horse_89 1 rfl ?_
      obtain ⟨i11, h⟩ := gI_some h
      refine k_ialdM C (by decide) (by decide) i11 d_Mo_horse_90 ?_
      obtain rfl := Option.some.inj h
      exact k_iret C q d_Mo_horse_91
    have h := (if_neg c10).symm.trans h
    by_cases c12 : v2 = 4
    · have h := (if_pos c12).symm.trans h
      refine k_tabin C (76) 92 d_Mo_horse_16 (by rw [c12]; decide) (by rw [c12]; decide) (by rw [c12]; decide) (by decide) ?_
      refine k_aload_n C d_Mo_horse_92 0 rfl ?_
      refine kg_Mo_22 C d_Mo_horse_93 ?_
      refine k_iload_n C d_Mo_horse_96 1 rfl ?_
      obtain ⟨i13, h⟩ := gI_some h
      refine k_ialdM C (by decide) (by decide) i13 d_Mo_horse_97 ?_
      obtain rfl := Option.some.inj h
      exact k_iret C q d_Mo_horse_98
    have h := (if_neg c12).symm.trans h
    by_cases c14 : v2 = 5
    · have h := (if_pos c14).symm.trans h
      refine k_tabin C (83) 99 d_Mo_horse_16 (by rw [c14]; decide) (by rw [c14]; decide) (by rw [c14]; decide) (by decide) ?_
      refine k_aload_n C d_Mo_horse_99 0 rfl ?_
      refine k_iload_n C d_Mo_horse_100 1 rfl ?_
      obtain ⟨p15, ep15, h⟩ := bd_some h
      refine k_callVi C q_Mo_91 (fun l => m_Mo_goalOf (cx_g C) l v1 p2.2 xx oo p15 ep15) rfl rfl (rtI_c q) (by decide) sh_Mo rfl rfl rfl rfl d_Mo_horse_101 ?_
      obtain rfl := Option.some.inj h
      exact k_iret C q d_Mo_horse_104
    have h := (if_neg c14).symm.trans h
    by_cases c16 : v2 = 6
    · have h := (if_pos c16).symm.trans h
      refine k_tabin C (89) 105 d_Mo_horse_16 (by rw [c16]; decide) (by rw [c16]; decide) (by rw [c16]; decide) (by decide) ?_
      refine k_aload_n C d_Mo_horse_105 0 rfl ?_
      refine k_iload_n C d_Mo_horse_106 1 rfl ?_
      obtain ⟨p17, ep17, h⟩ := bd_some h
      refine k_callVi C q_Mo_108 (fun l => m_Mo_paceOf (cx_g C) l v1 p2.2 xx oo p17 ep17) rfl rfl (rtI_c q) (by decide) sh_Mo rfl rfl rfl rfl d_Mo_horse_107 ?_
      obtain rfl := Option.some.inj h
      exact k_iret C q d_Mo_horse_110
    have h := (if_neg c16).symm.trans h
    by_cases c18 : v2 = 7
    · have h := (if_pos c18).symm.trans h
      refine k_tabin C (95) 111 d_Mo_horse_16 (by rw [c18]; decide) (by rw [c18]; decide) (by rw [c18]; decide) (by decide) ?_
      refine k_aload_n C d_Mo_horse_111 0 rfl ?_
      refine k_iload_n C d_Mo_horse_112 1 rfl ?_
      obtain ⟨p19, ep19, h⟩ := bd_some h
      refine k_callVi C q_Mo_111 (fun l => m_Mo_walkOf (cx_g C) l v1 p2.2 xx oo p19 ep19) rfl rfl (rtI_c q) (by decide) sh_Mo rfl rfl rfl rfl d_Mo_horse_113 ?_
      obtain rfl := Option.some.inj h
      exact k_iret C q d_Mo_horse_116
    have h := (if_neg c18).symm.trans h
    have ac4 : ¬ v2.toInt = 0 := nti c4
    have ac6 : ¬ v2.toInt = 1 := nti c6
    have ac8 : ¬ v2.toInt = 2 := nti c8
    have ac10 : ¬ v2.toInt = 3 := nti c10
    have ac12 : ¬ v2.toInt = 4 := nti c12
    have ac14 : ¬ v2.toInt = 5 := nti c14
    have ac16 : ¬ v2.toInt = 6 := nti c16
    have ac18 : ¬ v2.toInt = 7 := nti c18
    refine k_tabout C 117 d_Mo_horse_16 (by omega) (by decide) ?_
    refine k_iconst C (-1) d_Mo_horse_117 ic_m1 ?_
    obtain rfl := Option.some.inj h
    exact k_iret C q d_Mo_horse_118
  · have h := (if_pos c3).symm.trans h
    refine k_iconst C (-1) d_Mo_horse_13 ic_m1 ?_
    obtain rfl := Option.some.inj h
    exact k_iret C q d_Mo_horse_14

def b_Mo_horseComes_35 (v1 : Int32) (v2 : Int32) (v3 : Int32) (v4 : Int32) (vt0 : Int32) (m : MD) : Option (Int32 × MD) := (if vt0 = 0 then gB vt0 (some (vt0, m)) else gI (m.1 83 0) 7 (lt ((x_up m.1 84 (m.1 83 0).toNatClampNeg v1, m.2)) fun (m3 : MD) => gI (m3.1 83 0) 7 (lt ((x_up m3.1 85 (m3.1 83 0).toNatClampNeg v2, m3.2)) fun (m5 : MD) => gI (m5.1 83 0) 7 (lt ((x_up m5.1 86 (m5.1 83 0).toNatClampNeg v3, m5.2)) fun (m7 : MD) => gI (m7.1 83 0) 7 (lt ((x_up m7.1 87 (m7.1 83 0).toNatClampNeg v4, m7.2)) fun (m9 : MD) => gI (m9.1 83 0) 7 (lt ((x_up m9.1 88 (m9.1 83 0).toNatClampNeg 0, m9.2)) fun (m11 : MD) => lt ((x_up m11.1 83 0 ((m11.1 83 0) + 1), m11.2)) fun (m13 : MD) => gB vt0 (some (vt0, m13))))))))
theorem t_Mo_horseComes_35 {g : GC} {X : MX} (C : Cx g X c_Mo_horseComes 6 n_Mo 2) {r : Int32 × MD} {xx : XD} {oo : Nat → Int64} (q : RtI g X (some .boolean) r.1 (xx, r.2, oo)) (v1 : Int32) (v2 : Int32) (v3 : Int32) (v4 : Int32) (vt0 : Int32) (m : MD) (h : b_Mo_horseComes_35 v1 v2 v3 v4 vt0 m = some r) : Wk g X 6 35 [(0, .ref (g_a g 83)), (1, .int v1), (2, .int v2), (3, .int v3), (4, .int v4)] [.int vt0] (xx, m, oo) := by
  unfold b_Mo_horseComes_35 at h
  refine k_istore C (lv' := [(5, .int vt0), (0, .ref (g_a g 83)), (1, .int v1), (2, .int v2), (3, .int v3), (4, .int v4)]) d_Mo_horseComes_35 rfl rfl ?_
  refine k_iload C d_Mo_horseComes_37 0 rfl ?_
  refine k_if_eq C 103 d_Mo_horseComes_39 (by decide) (fun c1 => ?_) (fun c1 => ?_)
  · have h := (if_pos c1).symm.trans h
    refine k_iload C d_Mo_horseComes_103 0 rfl ?_
    obtain ⟨i2, h⟩ := gB_some h
    obtain rfl := Option.some.inj h
    exact k_zret C q i2 d_Mo_horseComes_105
  · have h := (if_neg c1).symm.trans h
    refine k_aload_n C d_Mo_horseComes_42 1 rfl ?_
    refine kg_Mo_7 C d_Mo_horseComes_43 ?_
    refine k_aload_n C d_Mo_horseComes_46 1 rfl ?_
    refine kg_Mo_81 C d_Mo_horseComes_47 ?_
    refine k_iload_n C d_Mo_horseComes_50 2 rfl ?_
    obtain ⟨i4, h⟩ := gI_some h
    obtain ⟨m3, em3, h⟩ := lt_some h
    refine k_iastM C (by decide) (by decide) i4 em3 d_Mo_horseComes_51 ?_
    refine k_aload_n C d_Mo_horseComes_52 1 rfl ?_
    refine kg_Mo_13 C d_Mo_horseComes_53 ?_
    refine k_aload_n C d_Mo_horseComes_56 1 rfl ?_
    refine kg_Mo_81 C d_Mo_horseComes_57 ?_
    refine k_iload_n C d_Mo_horseComes_60 3 rfl ?_
    obtain ⟨i6, h⟩ := gI_some h
    obtain ⟨m5, em5, h⟩ := lt_some h
    refine k_iastM C (by decide) (by decide) i6 em5 d_Mo_horseComes_61 ?_
    refine k_aload_n C d_Mo_horseComes_62 1 rfl ?_
    refine kg_Mo_16 C d_Mo_horseComes_63 ?_
    refine k_aload_n C d_Mo_horseComes_66 1 rfl ?_
    refine kg_Mo_81 C d_Mo_horseComes_67 ?_
    refine k_iload_n C d_Mo_horseComes_70 4 rfl ?_
    obtain ⟨i8, h⟩ := gI_some h
    obtain ⟨m7, em7, h⟩ := lt_some h
    refine k_iastM C (by decide) (by decide) i8 em7 d_Mo_horseComes_71 ?_
    refine k_aload_n C d_Mo_horseComes_72 1 rfl ?_
    refine kg_Mo_19 C d_Mo_horseComes_73 ?_
    refine k_aload_n C d_Mo_horseComes_76 1 rfl ?_
    refine kg_Mo_81 C d_Mo_horseComes_77 ?_
    refine k_iload C d_Mo_horseComes_80 5 rfl ?_
    obtain ⟨i10, h⟩ := gI_some h
    obtain ⟨m9, em9, h⟩ := lt_some h
    refine k_iastM C (by decide) (by decide) i10 em9 d_Mo_horseComes_82 ?_
    refine k_aload_n C d_Mo_horseComes_83 1 rfl ?_
    refine kg_Mo_22 C d_Mo_horseComes_84 ?_
    refine k_aload_n C d_Mo_horseComes_87 1 rfl ?_
    refine kg_Mo_81 C d_Mo_horseComes_88 ?_
    refine k_iconst C 0 d_Mo_horseComes_91 ic_0 ?_
    obtain ⟨i12, h⟩ := gI_some h
    obtain ⟨m11, em11, h⟩ := lt_some h
    refine k_iastM C (by decide) (by decide) i12 em11 d_Mo_horseComes_92 ?_
    refine k_aload_n C d_Mo_horseComes_93 1 rfl ?_
    refine k_dup C d_Mo_horseComes_94 rfl ?_
    refine kg_Mo_81 C d_Mo_horseComes_95 ?_
    refine k_iconst C 1 d_Mo_horseComes_98 ic_1 ?_
    refine k_iadd C d_Mo_horseComes_99 ?_
    obtain ⟨m13, em13, h⟩ := lt_some h
    refine kp_Mo_81 C em13 d_Mo_horseComes_100 ?_
    refine k_iload C d_Mo_horseComes_103 0 rfl ?_
    obtain ⟨i14, h⟩ := gB_some h
    obtain rfl := Option.some.inj h
    exact k_zret C q i14 d_Mo_horseComes_105

def b_Mo_horseComes_34 (v1 : Int32) (v2 : Int32) (v3 : Int32) (v4 : Int32) (m : MD) : Option (Int32 × MD) := b_Mo_horseComes_35 v1 v2 v3 v4 0 m
theorem t_Mo_horseComes_34 {g : GC} {X : MX} (C : Cx g X c_Mo_horseComes 6 n_Mo 2) {r : Int32 × MD} {xx : XD} {oo : Nat → Int64} (q : RtI g X (some .boolean) r.1 (xx, r.2, oo)) (v1 : Int32) (v2 : Int32) (v3 : Int32) (v4 : Int32) (m : MD) (h : b_Mo_horseComes_34 v1 v2 v3 v4 m = some r) : Wk g X 6 34 [(0, .ref (g_a g 83)), (1, .int v1), (2, .int v2), (3, .int v3), (4, .int v4)] [] (xx, m, oo) := by
  unfold b_Mo_horseComes_34 at h
  refine k_iconst C 0 d_Mo_horseComes_34 ic_0 ?_
  exact k_sub [0, 1, 2, 3, 4] rfl (t_Mo_horseComes_35 C q v1 v2 v3 v4 0 m h)

def f_Mo_horseComes (v1 : Int32) (v2 : Int32) (v3 : Int32) (v4 : Int32) (m : MD) : Option (Int32 × MD) := (if 8 ≤ v1 then b_Mo_horseComes_34 v1 v2 v3 v4 m else (f_Mo_isYard v3 m).bind fun p2 => ((if p2.1 = 0 then b_Mo_horseComes_34 v1 v2 v3 v4 p2.2 else (f_Mo_isYard v4 p2.2).bind fun p4 => ((if p4.1 = 0 then b_Mo_horseComes_34 v1 v2 v3 v4 p4.2 else (if 7 ≤ p4.2.1 83 0 then b_Mo_horseComes_34 v1 v2 v3 v4 p4.2 else b_Mo_horseComes_35 v1 v2 v3 v4 1 p4.2))))))
theorem m_Mo_horseComes {g : GC} (hg : gOk g) (l : Launch)  (v1 : Int32) (v2 : Int32) (v3 : Int32) (v4 : Int32) (m : MD) (xx : XD) (oo : Nat → Int64) (r : Int32 × MD) (h : f_Mo_horseComes v1 v2 v3 v4 m = some r) : Mi g l y_Mo_horseComes c_Mo_horseComes 6 (some .boolean) 2 [.ref (g_a g 83), .int v1, .int v2, .int v3, .int v4] (xx, m, oo) r.1 (xx, r.2, oo) := by
  refine m_i hg pn_Mo rfl fun X q C => ?_
  refine k_sub (lv' := [(0, .ref (g_a g 83)), (1, .int v1), (2, .int v2), (3, .int v3), (4, .int v4)]) [0, 1, 2, 3, 4] rfl ?_
  unfold f_Mo_horseComes at h
  refine k_iload_n C d_Mo_horseComes_0 1 rfl ?_
  refine k_bipush C 8 d_Mo_horseComes_1 bp_8 ?_
  refine k_icmp_ge C 34 d_Mo_horseComes_3 (by decide) (fun c1 => ?_) (fun c1 => ?_)
  · have h := (if_pos c1).symm.trans h
    exact k_sub [0, 1, 2, 3, 4] rfl (t_Mo_horseComes_34 C q v1 v2 v3 v4 m h)
  · have h := (if_neg c1).symm.trans h
    refine k_iload_n C d_Mo_horseComes_6 3 rfl ?_
    obtain ⟨p2, ep2, h⟩ := bd_some h
    refine k_callSi C q_Mo_149 (fun l => m_Mo_isYard (cx_g C) l v3 m xx oo p2 ep2) rfl rfl (rtI_c q) rfl rfl rfl d_Mo_horseComes_7 ?_
    refine k_if_eq C 34 d_Mo_horseComes_10 (by decide) (fun c3 => ?_) (fun c3 => ?_)
    · have h := (if_pos c3).symm.trans h
      exact k_sub [0, 1, 2, 3, 4] rfl (t_Mo_horseComes_34 C q v1 v2 v3 v4 p2.2 h)
    · have h := (if_neg c3).symm.trans h
      refine k_iload C d_Mo_horseComes_13 4 rfl ?_
      obtain ⟨p4, ep4, h⟩ := bd_some h
      refine k_callSi C q_Mo_149 (fun l => m_Mo_isYard (cx_g C) l v4 p2.2 xx oo p4 ep4) rfl rfl (rtI_c q) rfl rfl rfl d_Mo_horseComes_15 ?_
      refine k_if_eq C 34 d_Mo_horseComes_18 (by decide) (fun c5 => ?_) (fun c5 => ?_)
      · have h := (if_pos c5).symm.trans h
        exact k_sub [0, 1, 2, 3, 4] rfl (t_Mo_horseComes_34 C q v1 v2 v3 v4 p4.2 h)
      · have h := (if_neg c5).symm.trans h
        refine k_aload_n C d_Mo_horseComes_21 0 rfl ?_
        refine kg_Mo_81 C d_Mo_horseComes_22 ?_
        refine k_bipush C 7 d_Mo_horseComes_25 bp_7 ?_
        refine k_icmp_ge C 34 d_Mo_horseComes_27 (by decide) (fun c6 => ?_) (fun c6 => ?_)
        · have h := (if_pos c6).symm.trans h
          exact k_sub [0, 1, 2, 3, 4] rfl (t_Mo_horseComes_34 C q v1 v2 v3 v4 p4.2 h)
        · have h := (if_neg c6).symm.trans h
          refine k_iconst C 1 d_Mo_horseComes_30 ic_1 ?_
          refine k_goto C 35 d_Mo_horseComes_31 (by decide) ?_
          exact k_sub [0, 1, 2, 3, 4] rfl (t_Mo_horseComes_35 C q v1 v2 v3 v4 1 p4.2 h)

def f_Mo_image (m : MD) : Option (Int32 × MD) := lt ((x_up m.1 83 14 0, m.2)) fun (m1 : MD) => lt ((x_up m1.1 83 26 1, m1.2)) fun (m2 : MD) => (f_Mo_carryAll 101 1 m2).bind fun p3 => (some (p3.2.1 83 7, p3.2))
theorem m_Mo_image {g : GC} (hg : gOk g) (l : Launch)  (m : MD) (xx : XD) (oo : Nat → Int64) (r : Int32 × MD) (h : f_Mo_image m = some r) : Mi g l y_Mo_image c_Mo_image 1 (some .int) 2 [.ref (g_a g 83)] (xx, m, oo) r.1 (xx, r.2, oo) := by
  refine m_i hg pn_Mo rfl fun X q C => ?_
  refine k_sub (lv' := [(0, .ref (g_a g 83))]) [0] rfl ?_
  unfold f_Mo_image at h
  refine k_aload_n C d_Mo_image_0 0 rfl ?_
  refine k_iconst C 0 d_Mo_image_1 ic_0 ?_
  obtain ⟨m1, em1, h⟩ := lt_some h
  refine kp_Mo_71 C em1 d_Mo_image_2 ?_
  refine k_aload_n C d_Mo_image_5 0 rfl ?_
  refine k_iconst C 1 d_Mo_image_6 ic_1 ?_
  obtain ⟨m2, em2, h⟩ := lt_some h
  refine kp_Mo_202 C (Or.inr rfl) em2 d_Mo_image_7 ?_
  refine k_aload_n C d_Mo_image_10 0 rfl ?_
  refine k_aload_n C d_Mo_image_11 0 rfl ?_
  refine kg_Mo_62 C d_Mo_image_12 ?_
  refine k_iconst C 1 d_Mo_image_15 ic_1 ?_
  obtain ⟨p3, ep3, h⟩ := bd_some h
  refine k_callVv C q_Mo_198 (fun l => m_Mo_carryAll (cx_g C) l 101 (by decide) 1 m2 xx oo p3 ep3) rfl rfl (rtI_c q) (by decide) sh_Mo rfl rfl rfl rfl d_Mo_image_16 ?_
  refine k_aload_n C d_Mo_image_19 0 rfl ?_
  refine kg_Mo_95 C d_Mo_image_20 ?_
  obtain rfl := Option.some.inj h
  exact k_iret C q d_Mo_image_23

def f_Mo_longs (v1 : Int32) (v2 : Int32) (m : MD) : Option (Int32 × MD) := lt ((x_up m.1 83 14 0, m.2)) fun (m1 : MD) => (f_Mo_isHorse v1 m1).bind fun p2 => ((if p2.1 = 0 then some ((-1), p2.2) else (f_Mo_in v2.toInt64 0 99 p2.2).bind fun p4 => ((if p4.1 = 0 then some ((-1), p4.2) else gI v1 7 (gI v1 7 (lt ((x_up p4.2.1 88 v1.toNatClampNeg v2, p4.2.2)) fun (m7 : MD) => some (p4.2.1 88 v1.toNatClampNeg, m7)))))))
theorem m_Mo_longs {g : GC} (hg : gOk g) (l : Launch)  (v1 : Int32) (v2 : Int32) (m : MD) (xx : XD) (oo : Nat → Int64) (r : Int32 × MD) (h : f_Mo_longs v1 v2 m = some r) : Mi g l y_Mo_longs c_Mo_longs 4 (some .int) 2 [.ref (g_a g 83), .int v1, .int v2] (xx, m, oo) r.1 (xx, r.2, oo) := by
  refine m_i hg pn_Mo rfl fun X q C => ?_
  refine k_sub (lv' := [(0, .ref (g_a g 83)), (1, .int v1), (2, .int v2)]) [0, 1, 2] rfl ?_
  unfold f_Mo_longs at h
  refine k_aload_n C d_Mo_longs_0 0 rfl ?_
  refine k_iconst C 0 d_Mo_longs_1 ic_0 ?_
  obtain ⟨m1, em1, h⟩ := lt_some h
  refine kp_Mo_71 C em1 d_Mo_longs_2 ?_
  refine k_aload_n C d_Mo_longs_5 0 rfl ?_
  refine k_iload_n C d_Mo_longs_6 1 rfl ?_
  obtain ⟨p2, ep2, h⟩ := bd_some h
  refine k_callVi C q_Mo_162 (fun l => m_Mo_isHorse (cx_g C) l v1 m1 xx oo p2 ep2) rfl rfl (rtI_c q) (by decide) sh_Mo rfl rfl rfl rfl d_Mo_longs_7 ?_
  refine k_if_eq C 25 d_Mo_longs_10 (by decide) (fun c3 => ?_) (fun c3 => ?_)
  · have h := (if_pos c3).symm.trans h
    refine k_iconst C (-1) d_Mo_longs_25 ic_m1 ?_
    obtain rfl := Option.some.inj h
    exact k_iret C q d_Mo_longs_26
  · have h := (if_neg c3).symm.trans h
    refine k_iload_n C d_Mo_longs_13 2 rfl ?_
    refine k_i2l C d_Mo_longs_14 ?_
    refine k_lconst C 0 d_Mo_longs_15 rfl ?_
    refine k_ldc2 C 99 l_1195 d_Mo_longs_16 ?_
    obtain ⟨p4, ep4, h⟩ := bd_some h
    refine k_callSi C q_Mo_77 (fun l => m_Mo_in (cx_g C) l v2.toInt64 0 99 p2.2 xx oo p4 ep4) rfl rfl (rtI_c q) rfl rfl rfl d_Mo_longs_19 ?_
    refine k_if_ne C 27 d_Mo_longs_22 (by decide) (fun c5 => ?_) (fun c5 => ?_)
    · have h := (if_neg c5).symm.trans h
      refine k_aload_n C d_Mo_longs_27 0 rfl ?_
      refine kg_Mo_22 C d_Mo_longs_28 ?_
      refine k_iload_n C d_Mo_longs_31 1 rfl ?_
      obtain ⟨i6, h⟩ := gI_some h
      refine k_ialdM C (by decide) (by decide) i6 d_Mo_longs_32 ?_
      refine k_istore_n C (lv' := [(3, .int (p4.2.1 88 v1.toNatClampNeg)), (0, .ref (g_a g 83)), (1, .int v1), (2, .int v2)]) d_Mo_longs_33 rfl rfl ?_
      refine k_aload_n C d_Mo_longs_34 1 rfl ?_
      refine kg_Mo_22 C d_Mo_longs_35 ?_
      refine k_iload_n C d_Mo_longs_38 2 rfl ?_
      refine k_iload_n C d_Mo_longs_39 3 rfl ?_
      obtain ⟨i8, h⟩ := gI_some h
      obtain ⟨m7, em7, h⟩ := lt_some h
      refine k_iastM C (by decide) (by decide) i8 em7 d_Mo_longs_40 ?_
      refine k_iload_n C d_Mo_longs_41 0 rfl ?_
      obtain rfl := Option.some.inj h
      exact k_iret C q d_Mo_longs_42
    · have h := (if_pos c5).symm.trans h
      refine k_iconst C (-1) d_Mo_longs_25 ic_m1 ?_
      obtain rfl := Option.some.inj h
      exact k_iret C q d_Mo_longs_26

def f_Mo_mean (v1 : Int32) (m : MD) : Option (Int64 × MD) := lt ((x_up m.1 83 14 0, m.2)) fun (m1 : MD) => (f_Mo_in v1.toInt64 0 1 m1).bind fun p2 => ((if p2.1 = 0 then some (1000000001, p2.2) else (f_Mo_allLonging p2.2).bind fun p4 => ((f_Mo_partOf p4.1.toInt64 ((p4.2.1 83 0).toInt64) v1 p4.2).bind fun p5 => (some (p5.1, p5.2)))))
theorem m_Mo_mean {g : GC} (hg : gOk g) (l : Launch)  (v1 : Int32) (m : MD) (xx : XD) (oo : Nat → Int64) (r : Int64 × MD) (h : f_Mo_mean v1 m = some r) : Ml g l y_Mo_mean c_Mo_mean 2 (some .long) 2 [.ref (g_a g 83), .int v1] (xx, m, oo) r.1 (xx, r.2, oo) := by
  refine m_l hg pn_Mo rfl fun X q C => ?_
  refine k_sub (lv' := [(0, .ref (g_a g 83)), (1, .int v1)]) [0, 1] rfl ?_
  unfold f_Mo_mean at h
  refine k_aload_n C d_Mo_mean_0 0 rfl ?_
  refine k_iconst C 0 d_Mo_mean_1 ic_0 ?_
  obtain ⟨m1, em1, h⟩ := lt_some h
  refine kp_Mo_71 C em1 d_Mo_mean_2 ?_
  refine k_iload_n C d_Mo_mean_5 1 rfl ?_
  refine k_i2l C d_Mo_mean_6 ?_
  refine k_lconst C 0 d_Mo_mean_7 rfl ?_
  refine k_lconst C 1 d_Mo_mean_8 rfl ?_
  obtain ⟨p2, ep2, h⟩ := bd_some h
  refine k_callSi C q_Mo_77 (fun l => m_Mo_in (cx_g C) l v1.toInt64 0 1 m1 xx oo p2 ep2) rfl rfl (rtL_c q) rfl rfl rfl d_Mo_mean_9 ?_
  refine k_if_eq C 32 d_Mo_mean_12 (by decide) (fun c3 => ?_) (fun c3 => ?_)
  · have h := (if_pos c3).symm.trans h
    refine k_ldc2 C 1000000001 l_1329 d_Mo_mean_32 ?_
    obtain rfl := Option.some.inj h
    exact k_lret C q d_Mo_mean_35
  · have h := (if_neg c3).symm.trans h
    refine k_aload_n C d_Mo_mean_15 0 rfl ?_
    obtain ⟨p4, ep4, h⟩ := bd_some h
    refine k_callVi C q_Mo_212 (fun l => m_Mo_allLonging (cx_g C) l p2.2 xx oo p4 ep4) rfl rfl (rtL_c q) (by decide) sh_Mo rfl rfl rfl rfl d_Mo_mean_16 ?_
    refine k_i2l C d_Mo_mean_19 ?_
    refine k_aload_n C d_Mo_mean_20 0 rfl ?_
    refine kg_Mo_81 C d_Mo_mean_21 ?_
    refine k_i2l C d_Mo_mean_24 ?_
    refine k_iload_n C d_Mo_mean_25 1 rfl ?_
    obtain ⟨p5, ep5, h⟩ := bd_some h
    refine k_callSl C q_Mo_278 (fun l => m_Mo_partOf (cx_g C) l p4.1.toInt64 ((p4.2.1 83 0).toInt64) v1 p4.2 xx oo p5 ep5) rfl rfl (rtL_c q) rfl rfl rfl d_Mo_mean_26 ?_
    refine k_goto C 35 d_Mo_mean_29 (by decide) ?_
    obtain rfl := Option.some.inj h
    exact k_lret C q d_Mo_mean_35

def f_Mo_open (m : MD) : Option (Unit × MD) := (f_Mo_carryAll 98 1 m).bind fun p1 => (some ((), p1.2))
theorem m_Mo_open {g : GC} (hg : gOk g) (l : Launch)  (m : MD) (xx : XD) (oo : Nat → Int64) (r : Unit × MD) (h : f_Mo_open m = some r) : Mv g l y_Mo_open c_Mo_open 1 none 2 [.ref (g_a g 83)] (xx, m, oo) (xx, r.2, oo) := by
  refine m_v hg pn_Mo rfl fun X q C => ?_
  refine k_sub (lv' := [(0, .ref (g_a g 83))]) [0] rfl ?_
  unfold f_Mo_open at h
  refine k_aload_n C d_Mo_open_0 0 rfl ?_
  refine k_aload_n C d_Mo_open_1 0 rfl ?_
  refine kg_Mo_53 C d_Mo_open_2 ?_
  refine k_iconst C 1 d_Mo_open_5 ic_1 ?_
  obtain ⟨p1, ep1, h⟩ := bd_some h
  refine k_callVv C q_Mo_198 (fun l => m_Mo_carryAll (cx_g C) l 98 (by decide) 1 m xx oo p1 ep1) rfl rfl (rtV_c q) (by decide) sh_Mo rfl rfl rfl rfl d_Mo_open_6 ?_
  obtain rfl := Option.some.inj h
  exact k_vret C q d_Mo_open_9

def f_Mo_pinesOf (v1 : Int32) (m : MD) : Option (Int32 × MD) := gI v1 7 ((f_Mo_goalOf v1 m).bind fun p2 => ((f_Mo_apart (m.1 87 v1.toNatClampNeg) p2.1 p2.2).bind fun p3 => (gI v1 7 (lt (p3.2.1 84 v1.toNatClampNeg) fun (y5 : Int32) => (if y5 = 1 then some (0, p3.2) else (if y5 = 2 then some (2 * (1 + (p3.1 / 5)), p3.2) else (if y5 = 3 then some (1 + (p3.1 / 5), p3.2) else (if y5 = 4 then gI v1 7 (some ((1 + (p3.1 / 5)) + (p3.2.1 85 v1.toNatClampNeg), p3.2)) else (if y5 = 5 then gI v1 7 (some ((1 + (p3.1 / 5)) + ((p3.2.1 85 v1.toNatClampNeg) / 2), p3.2)) else (if y5 = 6 then some ((1 + (p3.1 / 5)) + 1, p3.2) else (if y5 = 7 then some (0, p3.2) else (some (1 + (p3.1 / 5), p3.2)))))))))))))
theorem m_Mo_pinesOf {g : GC} (hg : gOk g) (l : Launch)  (v1 : Int32) (m : MD) (xx : XD) (oo : Nat → Int64) (r : Int32 × MD) (h : f_Mo_pinesOf v1 m = some r) : Mi g l y_Mo_pinesOf c_Mo_pinesOf 3 (some .int) 2 [.ref (g_a g 83), .int v1] (xx, m, oo) r.1 (xx, r.2, oo) := by
  refine m_i hg pn_Mo rfl fun X q C => ?_
  refine k_sub (lv' := [(0, .ref (g_a g 83)), (1, .int v1)]) [0, 1] rfl ?_
  unfold f_Mo_pinesOf at h
  refine k_iconst C 1 d_Mo_pinesOf_0 ic_1 ?_
  refine k_aload_n C d_Mo_pinesOf_1 0 rfl ?_
  refine kg_Mo_19 C d_Mo_pinesOf_2 ?_
  refine k_iload_n C d_Mo_pinesOf_5 1 rfl ?_
  obtain ⟨i1, h⟩ := gI_some h
  refine k_ialdM C (by decide) (by decide) i1 d_Mo_pinesOf_6 ?_
  refine k_aload_n C d_Mo_pinesOf_7 0 rfl ?_
  refine k_iload_n C d_Mo_pinesOf_8 1 rfl ?_
  obtain ⟨p2, ep2, h⟩ := bd_some h
  refine k_callVi C q_Mo_91 (fun l => m_Mo_goalOf (cx_g C) l v1 m xx oo p2 ep2) rfl rfl (rtI_c q) (by decide) sh_Mo rfl rfl rfl rfl d_Mo_pinesOf_9 ?_
  obtain ⟨p3, ep3, h⟩ := bd_some h
  refine k_callSi C q_Mo_84 (fun l => m_Mo_apart (cx_g C) l (m.1 87 v1.toNatClampNeg) p2.1 p2.2 xx oo p3 ep3) rfl rfl (rtI_c q) rfl rfl rfl d_Mo_pinesOf_12 ?_
  refine k_iconst C 5 d_Mo_pinesOf_15 ic_5 ?_
  refine k_idiv C nz_5 d_Mo_pinesOf_16 ?_
  refine k_iadd C d_Mo_pinesOf_17 ?_
  refine k_istore_n C (lv' := [(2, .int (1 + (p3.1 / 5))), (0, .ref (g_a g 83)), (1, .int v1)]) d_Mo_pinesOf_18 rfl rfl ?_
  refine k_aload_n C d_Mo_pinesOf_19 1 rfl ?_
  refine kg_Mo_7 C d_Mo_pinesOf_20 ?_
  refine k_iload_n C d_Mo_pinesOf_23 2 rfl ?_
  obtain ⟨i4, h⟩ := gI_some h
  refine k_ialdM C (by decide) (by decide) i4 d_Mo_pinesOf_24 ?_
  obtain ⟨y5, ey5, h⟩ := lt_some h
  refine k_nmI ey5 ?_
  by_cases c6 : y5 = 1
  · have h := (if_pos c6).symm.trans h
    refine k_tabin C (43) 68 d_Mo_pinesOf_25 (by rw [c6]; decide) (by rw [c6]; decide) (by rw [c6]; decide) (by decide) ?_
    refine k_iconst C 0 d_Mo_pinesOf_68 ic_0 ?_
    obtain rfl := Option.some.inj h
    exact k_iret C q d_Mo_pinesOf_69
  have h := (if_neg c6).symm.trans h
  by_cases c7 : y5 = 2
  · have h := (if_pos c7).symm.trans h
    refine k_tabin C (45) 70 d_Mo_pinesOf_25 (by rw [c7]; decide) (by rw [c7]; decide) (by rw [c7]; decide) (by decide) ?_
    refine k_iconst C 2 d_Mo_pinesOf_70 ic_2 ?_
    refine k_iload_n C d_Mo_pinesOf_71 0 rfl ?_
    refine k_imul C d_Mo_pinesOf_72 ?_
    obtain rfl := Option.some.inj h
    exact k_iret C q d_Mo_pinesOf_73
  have h := (if_neg c7).symm.trans h
  by_cases c8 : y5 = 3
  · have h := (if_pos c8).symm.trans h
    refine k_tabin C (73) 98 d_Mo_pinesOf_25 (by rw [c8]; decide) (by rw [c8]; decide) (by rw [c8]; decide) (by decide) ?_
    refine k_iload_n C d_Mo_pinesOf_98 0 rfl ?_
    obtain rfl := Option.some.inj h
    exact k_iret C q d_Mo_pinesOf_99
  have h := (if_neg c8).symm.trans h
  by_cases c9 : y5 = 4
  · have h := (if_pos c9).symm.trans h
    refine k_tabin C (49) 74 d_Mo_pinesOf_25 (by rw [c9]; decide) (by rw [c9]; decide) (by rw [c9]; decide) (by decide) ?_
    refine k_iload_n C d_Mo_pinesOf_74 0 rfl ?_
    refine k_aload_n C d_Mo_pinesOf_75 1 rfl ?_
    refine kg_Mo_13 C d_Mo_pinesOf_76 ?_
    refine k_iload_n C d_Mo_pinesOf_79 2 rfl ?_
    obtain ⟨i10, h⟩ := gI_some h
    refine k_ialdM C (by decide) (by decide) i10 d_Mo_pinesOf_80 ?_
    refine k_iadd C d_Mo_pinesOf_81 ?_
    obtain rfl := Option.some.inj h
    exact k_iret C q d_Mo_pinesOf_82
  have h := (if_neg c9).symm.trans h
  by_cases c11 : y5 = 5
  · have h := (if_pos c11).symm.trans h
    refine k_tabin C (58) 83 d_Mo_pinesOf_25 (by rw [c11]; decide) (by rw [c11]; decide) (by rw [c11]; decide) (by decide) ?_
    refine k_iload_n C d_Mo_pinesOf_83 0 rfl ?_
    refine k_aload_n C d_Mo_pinesOf_84 1 rfl ?_
    refine kg_Mo_13 C d_Mo_pinesOf_85 ?_
    refine k_iload_n C d_Mo_pinesOf_88 2 rfl ?_
    obtain ⟨i12, h⟩ := gI_some h
    refine k_ialdM C (by decide) (by decide) i12 d_Mo_pinesOf_89 ?_
    refine k_iconst C 2 d_Mo_pinesOf_90 ic_2 ?_
    refine k_idiv C nz_2 d_Mo_pinesOf_91 ?_
    refine k_iadd C d_Mo_pinesOf_92 ?_
    obtain rfl := Option.some.inj h
    exact k_iret C q d_Mo_pinesOf_93
  have h := (if_neg c11).symm.trans h
  by_cases c13 : y5 = 6
  · have h := (if_pos c13).symm.trans h
    refine k_tabin C (69) 94 d_Mo_pinesOf_25 (by rw [c13]; decide) (by rw [c13]; decide) (by rw [c13]; decide) (by decide) ?_
    refine k_iload_n C d_Mo_pinesOf_94 0 rfl ?_
    refine k_iconst C 1 d_Mo_pinesOf_95 ic_1 ?_
    refine k_iadd C d_Mo_pinesOf_96 ?_
    obtain rfl := Option.some.inj h
    exact k_iret C q d_Mo_pinesOf_97
  have h := (if_neg c13).symm.trans h
  by_cases c14 : y5 = 7
  · have h := (if_pos c14).symm.trans h
    refine k_tabin C (43) 68 d_Mo_pinesOf_25 (by rw [c14]; decide) (by rw [c14]; decide) (by rw [c14]; decide) (by decide) ?_
    refine k_iconst C 0 d_Mo_pinesOf_68 ic_0 ?_
    obtain rfl := Option.some.inj h
    exact k_iret C q d_Mo_pinesOf_69
  have h := (if_neg c14).symm.trans h
  have ac6 : ¬ y5.toInt = 1 := nti c6
  have ac7 : ¬ y5.toInt = 2 := nti c7
  have ac8 : ¬ y5.toInt = 3 := nti c8
  have ac9 : ¬ y5.toInt = 4 := nti c9
  have ac11 : ¬ y5.toInt = 5 := nti c11
  have ac13 : ¬ y5.toInt = 6 := nti c13
  have ac14 : ¬ y5.toInt = 7 := nti c14
  refine k_tabout C 98 d_Mo_pinesOf_25 (by omega) (by decide) ?_
  refine k_iload_n C d_Mo_pinesOf_98 0 rfl ?_
  obtain rfl := Option.some.inj h
  exact k_iret C q d_Mo_pinesOf_99

def f_Mo_put (v1 : Int32) (v2 : Int32) (v3 : Int32) (m : MD) : Option (Int32 × MD) := lt ((x_up m.1 83 14 0, m.2)) fun (m1 : MD) => (f_Mo_wrongRow v1 m1).bind fun p2 => ((if 0 ≤ p2.1 then gI v1 8 ((f_Mo_in v2.toInt64 0 (((p2.2.1 93 v1.toNatClampNeg) - 1).toInt64) p2.2).bind fun p5 => ((if p5.1 = 0 then some ((-13), p5.2) else gI v1 8 ((f_Mo_narrowed v3 (p5.2.1 92 v1.toNatClampNeg) p5.2).bind fun p8 => (gI ((100 * v1) + v2) 800 (lt ((p8.2.1, x_up p8.2.2.1 94 ((100 * v1) + v2).toNatClampNeg p8.1, p8.2.2.2)) fun (m9 : MD) => some (0, m9))))))) else some (p2.1, p2.2)))
theorem m_Mo_put {g : GC} (hg : gOk g) (l : Launch)  (v1 : Int32) (v2 : Int32) (v3 : Int32) (m : MD) (xx : XD) (oo : Nat → Int64) (r : Int32 × MD) (h : f_Mo_put v1 v2 v3 m = some r) : Mi g l y_Mo_put c_Mo_put 5 (some .int) 2 [.ref (g_a g 83), .int v1, .int v2, .int v3] (xx, m, oo) r.1 (xx, r.2, oo) := by
  refine m_i hg pn_Mo rfl fun X q C => ?_
  refine k_sub (lv' := [(0, .ref (g_a g 83)), (1, .int v1), (2, .int v2), (3, .int v3)]) [0, 1, 2, 3] rfl ?_
  unfold f_Mo_put at h
  refine k_aload_n C d_Mo_put_0 0 rfl ?_
  refine k_iconst C 0 d_Mo_put_1 ic_0 ?_
  obtain ⟨m1, em1, h⟩ := lt_some h
  refine kp_Mo_71 C em1 d_Mo_put_2 ?_
  refine k_aload_n C d_Mo_put_5 0 rfl ?_
  refine k_iload_n C d_Mo_put_6 1 rfl ?_
  obtain ⟨p2, ep2, h⟩ := bd_some h
  refine k_callVi C q_Mo_171 (fun l => m_Mo_wrongRow (cx_g C) l v1 m1 xx oo p2 ep2) rfl rfl (rtI_c q) (by decide) sh_Mo rfl rfl rfl rfl d_Mo_put_7 ?_
  refine k_istore C (lv' := [(4, .int p2.1), (0, .ref (g_a g 83)), (1, .int v1), (2, .int v2), (3, .int v3)]) d_Mo_put_10 rfl rfl ?_
  refine k_iload C d_Mo_put_12 0 rfl ?_
  refine k_if_ge C 20 d_Mo_put_14 (by decide) (fun c3 => ?_) (fun c3 => ?_)
  · have h := (if_pos c3).symm.trans h
    refine k_iload_n C d_Mo_put_20 3 rfl ?_
    refine k_i2l C d_Mo_put_21 ?_
    refine k_lconst C 0 d_Mo_put_22 rfl ?_
    refine k_aload_n C d_Mo_put_23 1 rfl ?_
    refine kg_Mo_37 C d_Mo_put_24 ?_
    refine k_iload_n C d_Mo_put_27 2 rfl ?_
    obtain ⟨i4, h⟩ := gI_some h
    refine k_ialdM C (by decide) (by decide) i4 d_Mo_put_28 ?_
    refine k_iconst C 1 d_Mo_put_29 ic_1 ?_
    refine k_isub C d_Mo_put_30 ?_
    refine k_i2l C d_Mo_put_31 ?_
    obtain ⟨p5, ep5, h⟩ := bd_some h
    refine k_callSi C q_Mo_77 (fun l => m_Mo_in (cx_g C) l v2.toInt64 0 (((p2.2.1 93 v1.toNatClampNeg) - 1).toInt64) p2.2 xx oo p5 ep5) rfl rfl (rtI_c q) rfl rfl rfl d_Mo_put_32 ?_
    refine k_if_ne C 41 d_Mo_put_35 (by decide) (fun c6 => ?_) (fun c6 => ?_)
    · have h := (if_neg c6).symm.trans h
      refine k_aload_n C d_Mo_put_41 1 rfl ?_
      refine kg_Mo_40 C d_Mo_put_42 ?_
      refine k_bipush C 100 d_Mo_put_45 bp_100 ?_
      refine k_iload_n C d_Mo_put_47 2 rfl ?_
      refine k_imul C d_Mo_put_48 ?_
      refine k_iload_n C d_Mo_put_49 3 rfl ?_
      refine k_iadd C d_Mo_put_50 ?_
      refine k_iload_n C d_Mo_put_51 4 rfl ?_
      refine k_aload_n C d_Mo_put_52 1 rfl ?_
      refine kg_Mo_34 C d_Mo_put_53 ?_
      refine k_iload_n C d_Mo_put_56 2 rfl ?_
      obtain ⟨i7, h⟩ := gI_some h
      refine k_ialdM C (by decide) (by decide) i7 d_Mo_put_57 ?_
      obtain ⟨p8, ep8, h⟩ := bd_some h
      refine k_callSl C q_Mo_296 (fun l => m_Mo_narrowed (cx_g C) l v3 (p5.2.1 92 v1.toNatClampNeg) p5.2 xx oo p8 ep8) rfl rfl (rtI_c q) rfl rfl rfl d_Mo_put_58 ?_
      obtain ⟨i10, h⟩ := gI_some h
      obtain ⟨m9, em9, h⟩ := lt_some h
      refine k_last94 C i10 em9 d_Mo_put_61 ?_
      refine k_iconst C 0 d_Mo_put_62 ic_0 ?_
      obtain rfl := Option.some.inj h
      exact k_iret C q d_Mo_put_63
    · have h := (if_pos c6).symm.trans h
      refine k_bipush C (-13) d_Mo_put_38 bp_m13 ?_
      obtain rfl := Option.some.inj h
      exact k_iret C q d_Mo_put_40
  · have h := (if_neg c3).symm.trans h
    refine k_iload C d_Mo_put_17 0 rfl ?_
    obtain rfl := Option.some.inj h
    exact k_iret C q d_Mo_put_19

def b_Mo_readNumbers_87 (v2 : Int32) (m : MD) : Option (Unit × MD) := (f_Mo_readDigits 2 m).bind fun p1 => (gI (v2 + 1) 204 (lt ((x_up p1.2.1 97 (v2 + 1).toNatClampNeg p1.1, p1.2.2)) fun (m2 : MD) => some ((), m2)))
theorem t_Mo_readNumbers_87 {g : GC} {X : MX} (C : Cx g X c_Mo_readNumbers 3 n_Mo 2) {r : Unit × MD} {xx : XD} {oo : Nat → Int64} (q : RtV g X none (xx, r.2, oo)) (v2 : Int32) (m : MD) (h : b_Mo_readNumbers_87 v2 m = some r) : Wk g X 3 87 [(0, .ref (g_a g 83)), (2, .int v2)] [] (xx, m, oo) := by
  unfold b_Mo_readNumbers_87 at h
  refine k_aload_n C d_Mo_readNumbers_87 0 rfl ?_
  refine kg_Mo_50 C d_Mo_readNumbers_88 ?_
  refine k_iload_n C d_Mo_readNumbers_91 1 rfl ?_
  refine k_iconst C 1 d_Mo_readNumbers_92 ic_1 ?_
  refine k_iadd C d_Mo_readNumbers_93 ?_
  refine k_aload_n C d_Mo_readNumbers_94 0 rfl ?_
  refine k_iconst C 2 d_Mo_readNumbers_95 ic_2 ?_
  obtain ⟨p1, ep1, h⟩ := bd_some h
  refine k_callVi C q_Mo_136 (fun l => m_Mo_readDigits (cx_g C) l 2 m xx oo p1 ep1) rfl rfl (rtV_c q) (by decide) sh_Mo rfl rfl rfl rfl d_Mo_readNumbers_96 ?_
  obtain ⟨i3, h⟩ := gI_some h
  obtain ⟨m2, em2, h⟩ := lt_some h
  refine k_iastM C (by decide) (by decide) i3 em2 d_Mo_readNumbers_99 ?_
  obtain rfl := Option.some.inj h
  exact k_vret C q d_Mo_readNumbers_100

def b_Mo_readNumbers_23 (v1 : Int32) (v2 : Int32) (vt1 : Int32) (vt3 : Int32) (m : MD) : Option (Unit × MD) := (f_Mo_readDigits vt3 m).bind fun p1 => (gI vt1 204 (lt ((x_up p1.2.1 97 vt1.toNatClampNeg p1.1, p1.2.2)) fun (m2 : MD) => (if v1 = 104 then (f_Mo_readDigits 1 m2).bind fun p7 => (gI (v2 + 1) 204 (lt ((x_up p7.2.1 97 (v2 + 1).toNatClampNeg p7.1, p7.2.2)) fun (m8 : MD) => (f_Mo_readDigits 2 m8).bind fun p10 => (gI (v2 + 2) 204 (lt ((x_up p10.2.1 97 (v2 + 2).toNatClampNeg p10.1, p10.2.2)) fun (m11 : MD) => (f_Mo_readDigits 2 m11).bind fun p13 => (gI (v2 + 3) 204 (lt ((x_up p13.2.1 97 (v2 + 3).toNatClampNeg p13.1, p13.2.2)) fun (m14 : MD) => some ((), m14))))))) else (if v1 = 114 then b_Mo_readNumbers_87 v2 m2 else (if v1 = 108 then b_Mo_readNumbers_87 v2 m2 else some ((), m2))))))
theorem t_Mo_readNumbers_23 {g : GC} {X : MX} (C : Cx g X c_Mo_readNumbers 3 n_Mo 2) {r : Unit × MD} {xx : XD} {oo : Nat → Int64} (q : RtV g X none (xx, r.2, oo)) (v1 : Int32) (v2 : Int32) (vt1 : Int32) (vt3 : Int32) (m : MD) (h : b_Mo_readNumbers_23 v1 v2 vt1 vt3 m = some r) : Wk g X 3 23 [(0, .ref (g_a g 83)), (1, .int v1), (2, .int v2)] [.int vt3, .ref (g_a g 83), .int vt1, .ref (g_a g 97)] (xx, m, oo) := by
  unfold b_Mo_readNumbers_23 at h
  obtain ⟨p1, ep1, h⟩ := bd_some h
  refine k_callVi C q_Mo_136 (fun l => m_Mo_readDigits (cx_g C) l vt3 m xx oo p1 ep1) rfl rfl (rtV_c q) (by decide) sh_Mo rfl rfl rfl rfl d_Mo_readNumbers_23 ?_
  obtain ⟨i3, h⟩ := gI_some h
  obtain ⟨m2, em2, h⟩ := lt_some h
  refine k_iastM C (by decide) (by decide) i3 em2 d_Mo_readNumbers_26 ?_
  refine k_iload_n C d_Mo_readNumbers_27 1 rfl ?_
  refine k_bipush C 104 d_Mo_readNumbers_28 bp_104 ?_
  refine k_icmp_ne C 75 d_Mo_readNumbers_30 (by decide) (fun c4 => ?_) (fun c4 => ?_)
  · have h := (if_neg c4).symm.trans h
    refine k_iload_n C d_Mo_readNumbers_75 1 rfl ?_
    refine k_bipush C 114 d_Mo_readNumbers_76 bp_114 ?_
    refine k_icmp_eq C 87 d_Mo_readNumbers_78 (by decide) (fun c5 => ?_) (fun c5 => ?_)
    · have h := (if_pos c5).symm.trans h
      exact k_sub [0, 2] rfl (t_Mo_readNumbers_87 C q v2 m2 h)
    · have h := (if_neg c5).symm.trans h
      refine k_iload_n C d_Mo_readNumbers_81 1 rfl ?_
      refine k_bipush C 108 d_Mo_readNumbers_82 bp_108 ?_
      refine k_icmp_ne C 100 d_Mo_readNumbers_84 (by decide) (fun c6 => ?_) (fun c6 => ?_)
      · have h := (if_neg c6).symm.trans h
        obtain rfl := Option.some.inj h
        exact k_vret C q d_Mo_readNumbers_100
      · have h := (if_pos c6).symm.trans h
        exact k_sub [0, 2] rfl (t_Mo_readNumbers_87 C q v2 m2 h)
  · have h := (if_pos c4).symm.trans h
    refine k_aload_n C d_Mo_readNumbers_33 0 rfl ?_
    refine kg_Mo_50 C d_Mo_readNumbers_34 ?_
    refine k_iload_n C d_Mo_readNumbers_37 2 rfl ?_
    refine k_iconst C 1 d_Mo_readNumbers_38 ic_1 ?_
    refine k_iadd C d_Mo_readNumbers_39 ?_
    refine k_aload_n C d_Mo_readNumbers_40 0 rfl ?_
    refine k_iconst C 1 d_Mo_readNumbers_41 ic_1 ?_
    obtain ⟨p7, ep7, h⟩ := bd_some h
    refine k_callVi C q_Mo_136 (fun l => m_Mo_readDigits (cx_g C) l 1 m2 xx oo p7 ep7) rfl rfl (rtV_c q) (by decide) sh_Mo rfl rfl rfl rfl d_Mo_readNumbers_42 ?_
    obtain ⟨i9, h⟩ := gI_some h
    obtain ⟨m8, em8, h⟩ := lt_some h
    refine k_iastM C (by decide) (by decide) i9 em8 d_Mo_readNumbers_45 ?_
    refine k_aload_n C d_Mo_readNumbers_46 0 rfl ?_
    refine kg_Mo_50 C d_Mo_readNumbers_47 ?_
    refine k_iload_n C d_Mo_readNumbers_50 2 rfl ?_
    refine k_iconst C 2 d_Mo_readNumbers_51 ic_2 ?_
    refine k_iadd C d_Mo_readNumbers_52 ?_
    refine k_aload_n C d_Mo_readNumbers_53 0 rfl ?_
    refine k_iconst C 2 d_Mo_readNumbers_54 ic_2 ?_
    obtain ⟨p10, ep10, h⟩ := bd_some h
    refine k_callVi C q_Mo_136 (fun l => m_Mo_readDigits (cx_g C) l 2 m8 xx oo p10 ep10) rfl rfl (rtV_c q) (by decide) sh_Mo rfl rfl rfl rfl d_Mo_readNumbers_55 ?_
    obtain ⟨i12, h⟩ := gI_some h
    obtain ⟨m11, em11, h⟩ := lt_some h
    refine k_iastM C (by decide) (by decide) i12 em11 d_Mo_readNumbers_58 ?_
    refine k_aload_n C d_Mo_readNumbers_59 0 rfl ?_
    refine kg_Mo_50 C d_Mo_readNumbers_60 ?_
    refine k_iload_n C d_Mo_readNumbers_63 2 rfl ?_
    refine k_iconst C 3 d_Mo_readNumbers_64 ic_3 ?_
    refine k_iadd C d_Mo_readNumbers_65 ?_
    refine k_aload_n C d_Mo_readNumbers_66 0 rfl ?_
    refine k_iconst C 2 d_Mo_readNumbers_67 ic_2 ?_
    obtain ⟨p13, ep13, h⟩ := bd_some h
    refine k_callVi C q_Mo_136 (fun l => m_Mo_readDigits (cx_g C) l 2 m11 xx oo p13 ep13) rfl rfl (rtV_c q) (by decide) sh_Mo rfl rfl rfl rfl d_Mo_readNumbers_68 ?_
    obtain ⟨i15, h⟩ := gI_some h
    obtain ⟨m14, em14, h⟩ := lt_some h
    refine k_iastM C (by decide) (by decide) i15 em14 d_Mo_readNumbers_71 ?_
    refine k_goto C 100 d_Mo_readNumbers_72 (by decide) ?_
    obtain rfl := Option.some.inj h
    exact k_vret C q d_Mo_readNumbers_100

def b_Mo_readNumbers_18 (v1 : Int32) (v2 : Int32) (vt1 : Int32) (m : MD) : Option (Unit × MD) := b_Mo_readNumbers_23 v1 v2 vt1 2 m
theorem t_Mo_readNumbers_18 {g : GC} {X : MX} (C : Cx g X c_Mo_readNumbers 3 n_Mo 2) {r : Unit × MD} {xx : XD} {oo : Nat → Int64} (q : RtV g X none (xx, r.2, oo)) (v1 : Int32) (v2 : Int32) (vt1 : Int32) (m : MD) (h : b_Mo_readNumbers_18 v1 v2 vt1 m = some r) : Wk g X 3 18 [(0, .ref (g_a g 83)), (1, .int v1), (2, .int v2)] [.ref (g_a g 83), .int vt1, .ref (g_a g 97)] (xx, m, oo) := by
  unfold b_Mo_readNumbers_18 at h
  refine k_iconst C 2 d_Mo_readNumbers_18 ic_2 ?_
  refine k_goto C 23 d_Mo_readNumbers_19 (by decide) ?_
  exact k_sub [0, 1, 2] rfl (t_Mo_readNumbers_23 C q v1 v2 vt1 2 m h)

def f_Mo_readNumbers (v1 : Int32) (v2 : Int32) (m : MD) : Option (Unit × MD) := (if v1 = 111 then b_Mo_readNumbers_18 v1 v2 v2 m else (if v1 = 100 then b_Mo_readNumbers_18 v1 v2 v2 m else b_Mo_readNumbers_23 v1 v2 v2 1 m))
theorem m_Mo_readNumbers {g : GC} (hg : gOk g) (l : Launch)  (v1 : Int32) (v2 : Int32) (m : MD) (xx : XD) (oo : Nat → Int64) (r : Unit × MD) (h : f_Mo_readNumbers v1 v2 m = some r) : Mv g l y_Mo_readNumbers c_Mo_readNumbers 3 none 2 [.ref (g_a g 83), .int v1, .int v2] (xx, m, oo) (xx, r.2, oo) := by
  refine m_v hg pn_Mo rfl fun X q C => ?_
  refine k_sub (lv' := [(0, .ref (g_a g 83)), (1, .int v1), (2, .int v2)]) [0, 1, 2] rfl ?_
  unfold f_Mo_readNumbers at h
  refine k_aload_n C d_Mo_readNumbers_0 0 rfl ?_
  refine kg_Mo_50 C d_Mo_readNumbers_1 ?_
  refine k_iload_n C d_Mo_readNumbers_4 2 rfl ?_
  refine k_aload_n C d_Mo_readNumbers_5 0 rfl ?_
  refine k_iload_n C d_Mo_readNumbers_6 1 rfl ?_
  refine k_bipush C 111 d_Mo_readNumbers_7 bp_111 ?_
  refine k_icmp_eq C 18 d_Mo_readNumbers_9 (by decide) (fun c1 => ?_) (fun c1 => ?_)
  · have h := (if_pos c1).symm.trans h
    exact k_sub [0, 1, 2] rfl (t_Mo_readNumbers_18 C q v1 v2 v2 m h)
  · have h := (if_neg c1).symm.trans h
    refine k_iload_n C d_Mo_readNumbers_12 1 rfl ?_
    refine k_bipush C 100 d_Mo_readNumbers_13 bp_100 ?_
    refine k_icmp_ne C 22 d_Mo_readNumbers_15 (by decide) (fun c2 => ?_) (fun c2 => ?_)
    · have h := (if_neg c2).symm.trans h
      refine k_iconst C 1 d_Mo_readNumbers_22 ic_1 ?_
      exact k_sub [0, 1, 2] rfl (t_Mo_readNumbers_23 C q v1 v2 v2 1 m h)
    · have h := (if_pos c2).symm.trans h
      exact k_sub [0, 1, 2] rfl (t_Mo_readNumbers_18 C q v1 v2 v2 m h)

def f_Mo_restore (m : MD) : Option (Int32 × MD) := lt ((x_up m.1 83 14 0, m.2)) fun (m1 : MD) => (if m1.1 83 26 = 0 then some ((-3), m1) else (f_Mo_carryAll 101 0 m1).bind fun p3 => (some (p3.2.1 83 7, p3.2)))
theorem m_Mo_restore {g : GC} (hg : gOk g) (l : Launch)  (m : MD) (xx : XD) (oo : Nat → Int64) (r : Int32 × MD) (h : f_Mo_restore m = some r) : Mi g l y_Mo_restore c_Mo_restore 1 (some .int) 2 [.ref (g_a g 83)] (xx, m, oo) r.1 (xx, r.2, oo) := by
  refine m_i hg pn_Mo rfl fun X q C => ?_
  refine k_sub (lv' := [(0, .ref (g_a g 83))]) [0] rfl ?_
  unfold f_Mo_restore at h
  refine k_aload_n C d_Mo_restore_0 0 rfl ?_
  refine k_iconst C 0 d_Mo_restore_1 ic_0 ?_
  obtain ⟨m1, em1, h⟩ := lt_some h
  refine kp_Mo_71 C em1 d_Mo_restore_2 ?_
  refine k_aload_n C d_Mo_restore_5 0 rfl ?_
  refine kg_Mo_202 C d_Mo_restore_6 ?_
  refine k_if_ne C 15 d_Mo_restore_9 (by decide) (fun c2 => ?_) (fun c2 => ?_)
  · have h := (if_neg c2).symm.trans h
    refine k_aload_n C d_Mo_restore_15 0 rfl ?_
    refine k_aload_n C d_Mo_restore_16 0 rfl ?_
    refine kg_Mo_62 C d_Mo_restore_17 ?_
    refine k_iconst C 0 d_Mo_restore_20 ic_0 ?_
    obtain ⟨p3, ep3, h⟩ := bd_some h
    refine k_callVv C q_Mo_198 (fun l => m_Mo_carryAll (cx_g C) l 101 (by decide) 0 m1 xx oo p3 ep3) rfl rfl (rtI_c q) (by decide) sh_Mo rfl rfl rfl rfl d_Mo_restore_21 ?_
    refine k_aload_n C d_Mo_restore_24 0 rfl ?_
    refine kg_Mo_95 C d_Mo_restore_25 ?_
    obtain rfl := Option.some.inj h
    exact k_iret C q d_Mo_restore_28
  · have h := (if_pos c2).symm.trans h
    refine k_bipush C (-3) d_Mo_restore_12 bp_m3 ?_
    obtain rfl := Option.some.inj h
    exact k_iret C q d_Mo_restore_14

def f_Mo_taken (v1 : Int32) (v2 : Int32) (m : MD) : Option (Int32 × MD) := lt ((x_up m.1 83 14 0, m.2)) fun (m1 : MD) => (f_Mo_isHorse v1 m1).bind fun p2 => ((if p2.1 = 0 then some ((-1), p2.2) else (f_Mo_isYard v2 p2.2).bind fun p4 => ((if p4.1 = 0 then some ((-1), p4.2) else gI v1 7 (gI v1 7 (lt ((x_up p4.2.1 87 v1.toNatClampNeg v2, p4.2.2)) fun (m7 : MD) => some (p4.2.1 87 v1.toNatClampNeg, m7)))))))
theorem m_Mo_taken {g : GC} (hg : gOk g) (l : Launch)  (v1 : Int32) (v2 : Int32) (m : MD) (xx : XD) (oo : Nat → Int64) (r : Int32 × MD) (h : f_Mo_taken v1 v2 m = some r) : Mi g l y_Mo_taken c_Mo_taken 4 (some .int) 2 [.ref (g_a g 83), .int v1, .int v2] (xx, m, oo) r.1 (xx, r.2, oo) := by
  refine m_i hg pn_Mo rfl fun X q C => ?_
  refine k_sub (lv' := [(0, .ref (g_a g 83)), (1, .int v1), (2, .int v2)]) [0, 1, 2] rfl ?_
  unfold f_Mo_taken at h
  refine k_aload_n C d_Mo_taken_0 0 rfl ?_
  refine k_iconst C 0 d_Mo_taken_1 ic_0 ?_
  obtain ⟨m1, em1, h⟩ := lt_some h
  refine kp_Mo_71 C em1 d_Mo_taken_2 ?_
  refine k_aload_n C d_Mo_taken_5 0 rfl ?_
  refine k_iload_n C d_Mo_taken_6 1 rfl ?_
  obtain ⟨p2, ep2, h⟩ := bd_some h
  refine k_callVi C q_Mo_162 (fun l => m_Mo_isHorse (cx_g C) l v1 m1 xx oo p2 ep2) rfl rfl (rtI_c q) (by decide) sh_Mo rfl rfl rfl rfl d_Mo_taken_7 ?_
  refine k_if_eq C 20 d_Mo_taken_10 (by decide) (fun c3 => ?_) (fun c3 => ?_)
  · have h := (if_pos c3).symm.trans h
    refine k_iconst C (-1) d_Mo_taken_20 ic_m1 ?_
    obtain rfl := Option.some.inj h
    exact k_iret C q d_Mo_taken_21
  · have h := (if_neg c3).symm.trans h
    refine k_iload_n C d_Mo_taken_13 2 rfl ?_
    obtain ⟨p4, ep4, h⟩ := bd_some h
    refine k_callSi C q_Mo_149 (fun l => m_Mo_isYard (cx_g C) l v2 p2.2 xx oo p4 ep4) rfl rfl (rtI_c q) rfl rfl rfl d_Mo_taken_14 ?_
    refine k_if_ne C 22 d_Mo_taken_17 (by decide) (fun c5 => ?_) (fun c5 => ?_)
    · have h := (if_neg c5).symm.trans h
      refine k_aload_n C d_Mo_taken_22 0 rfl ?_
      refine kg_Mo_19 C d_Mo_taken_23 ?_
      refine k_iload_n C d_Mo_taken_26 1 rfl ?_
      obtain ⟨i6, h⟩ := gI_some h
      refine k_ialdM C (by decide) (by decide) i6 d_Mo_taken_27 ?_
      refine k_istore_n C (lv' := [(3, .int (p4.2.1 87 v1.toNatClampNeg)), (0, .ref (g_a g 83)), (1, .int v1), (2, .int v2)]) d_Mo_taken_28 rfl rfl ?_
      refine k_aload_n C d_Mo_taken_29 1 rfl ?_
      refine kg_Mo_19 C d_Mo_taken_30 ?_
      refine k_iload_n C d_Mo_taken_33 2 rfl ?_
      refine k_iload_n C d_Mo_taken_34 3 rfl ?_
      obtain ⟨i8, h⟩ := gI_some h
      obtain ⟨m7, em7, h⟩ := lt_some h
      refine k_iastM C (by decide) (by decide) i8 em7 d_Mo_taken_35 ?_
      refine k_iload_n C d_Mo_taken_36 0 rfl ?_
      obtain rfl := Option.some.inj h
      exact k_iret C q d_Mo_taken_37
    · have h := (if_pos c5).symm.trans h
      refine k_iconst C (-1) d_Mo_taken_20 ic_m1 ?_
      obtain rfl := Option.some.inj h
      exact k_iret C q d_Mo_taken_21

def f_Mo_toss (v1 : Int32) (m : MD) : Option (Int32 × MD) := lt ((x_up m.1 83 14 0, m.2)) fun (m1 : MD) => (f_Mo_wrongKept v1 m1).bind fun p2 => ((if 0 ≤ p2.1 then gI v1 8 (gI v1 8 ((if p2.2.1 90 v1.toNatClampNeg = 1 then some ((-15), p2.2) else (if p2.2.1 90 v1.toNatClampNeg = 7 then some ((-15), p2.2) else (if p2.2.1 91 v1.toNatClampNeg = 0 then some ((-15), p2.2) else (if p2.2.1 90 v1.toNatClampNeg = 3 then some (100 + (p2.2.1 91 v1.toNatClampNeg), p2.2) else (if p2.2.1 90 v1.toNatClampNeg = 6 then (f_Mo_costOf (p2.2.1 90 v1.toNatClampNeg) (p2.2.1 91 v1.toNatClampNeg) p2.2).bind fun p11 => (some (200 + p11.1, p11.2)) else some (p2.2.1 91 v1.toNatClampNeg, p2.2)))))))) else (f_Mo_wrongKept v1 p2.2).bind fun p12 => (some (p12.1, p12.2))))
theorem m_Mo_toss {g : GC} (hg : gOk g) (l : Launch)  (v1 : Int32) (m : MD) (xx : XD) (oo : Nat → Int64) (r : Int32 × MD) (h : f_Mo_toss v1 m = some r) : Mi g l y_Mo_toss c_Mo_toss 4 (some .int) 2 [.ref (g_a g 83), .int v1] (xx, m, oo) r.1 (xx, r.2, oo) := by
  refine m_i hg pn_Mo rfl fun X q C => ?_
  refine k_sub (lv' := [(0, .ref (g_a g 83)), (1, .int v1)]) [0, 1] rfl ?_
  unfold f_Mo_toss at h
  refine k_aload_n C d_Mo_toss_0 0 rfl ?_
  refine k_iconst C 0 d_Mo_toss_1 ic_0 ?_
  obtain ⟨m1, em1, h⟩ := lt_some h
  refine kp_Mo_71 C em1 d_Mo_toss_2 ?_
  refine k_aload_n C d_Mo_toss_5 0 rfl ?_
  refine k_iload_n C d_Mo_toss_6 1 rfl ?_
  obtain ⟨p2, ep2, h⟩ := bd_some h
  refine k_callVi C q_Mo_207 (fun l => m_Mo_wrongKept (cx_g C) l v1 m1 xx oo p2 ep2) rfl rfl (rtI_c q) (by decide) sh_Mo rfl rfl rfl rfl d_Mo_toss_7 ?_
  refine k_if_ge C 19 d_Mo_toss_10 (by decide) (fun c3 => ?_) (fun c3 => ?_)
  · have h := (if_pos c3).symm.trans h
    refine k_aload_n C d_Mo_toss_19 0 rfl ?_
    refine kg_Mo_28 C d_Mo_toss_20 ?_
    refine k_iload_n C d_Mo_toss_23 1 rfl ?_
    obtain ⟨i4, h⟩ := gI_some h
    refine k_ialdM C (by decide) (by decide) i4 d_Mo_toss_24 ?_
    refine k_istore_n C (lv' := [(2, .int (p2.2.1 90 v1.toNatClampNeg)), (0, .ref (g_a g 83)), (1, .int v1)]) d_Mo_toss_25 rfl rfl ?_
    refine k_aload_n C d_Mo_toss_26 1 rfl ?_
    refine kg_Mo_31 C d_Mo_toss_27 ?_
    refine k_iload_n C d_Mo_toss_30 2 rfl ?_
    obtain ⟨i5, h⟩ := gI_some h
    refine k_ialdM C (by decide) (by decide) i5 d_Mo_toss_31 ?_
    refine k_istore_n C (lv' := [(3, .int (p2.2.1 91 v1.toNatClampNeg)), (2, .int (p2.2.1 90 v1.toNatClampNeg)), (0, .ref (g_a g 83)), (1, .int v1)]) d_Mo_toss_32 rfl rfl ?_
    refine k_iload_n C d_Mo_toss_33 1 rfl ?_
    refine k_iconst C 1 d_Mo_toss_34 ic_1 ?_
    refine k_icmp_eq C 48 d_Mo_toss_35 (by decide) (fun c6 => ?_) (fun c6 => ?_)
    · have h := (if_pos c6).symm.trans h
      refine k_bipush C (-15) d_Mo_toss_48 bp_m15 ?_
      obtain rfl := Option.some.inj h
      exact k_iret C q d_Mo_toss_50
    · have h := (if_neg c6).symm.trans h
      refine k_iload_n C d_Mo_toss_38 1 rfl ?_
      refine k_bipush C 7 d_Mo_toss_39 bp_7 ?_
      refine k_icmp_eq C 48 d_Mo_toss_41 (by decide) (fun c7 => ?_) (fun c7 => ?_)
      · have h := (if_pos c7).symm.trans h
        refine k_bipush C (-15) d_Mo_toss_48 bp_m15 ?_
        obtain rfl := Option.some.inj h
        exact k_iret C q d_Mo_toss_50
      · have h := (if_neg c7).symm.trans h
        refine k_iload_n C d_Mo_toss_44 0 rfl ?_
        refine k_if_ne C 51 d_Mo_toss_45 (by decide) (fun c8 => ?_) (fun c8 => ?_)
        · have h := (if_neg c8).symm.trans h
          refine k_iload_n C d_Mo_toss_51 1 rfl ?_
          refine k_iconst C 3 d_Mo_toss_52 ic_3 ?_
          refine k_icmp_ne C 63 d_Mo_toss_53 (by decide) (fun c9 => ?_) (fun c9 => ?_)
          · have h := (if_neg c9).symm.trans h
            refine k_iload_n C d_Mo_toss_63 1 rfl ?_
            refine k_bipush C 6 d_Mo_toss_64 bp_6 ?_
            refine k_icmp_ne C 81 d_Mo_toss_66 (by decide) (fun c10 => ?_) (fun c10 => ?_)
            · have h := (if_neg c10).symm.trans h
              refine k_iload_n C d_Mo_toss_81 0 rfl ?_
              obtain rfl := Option.some.inj h
              exact k_iret C q d_Mo_toss_82
            · have h := (if_pos c10).symm.trans h
              refine k_sipush C 200 d_Mo_toss_69 sp_200 ?_
              refine k_iload_n C d_Mo_toss_72 1 rfl ?_
              refine k_iload_n C d_Mo_toss_73 0 rfl ?_
              obtain ⟨p11, ep11, h⟩ := bd_some h
              refine k_callSi C q_Mo_237 (fun l => m_Mo_costOf (cx_g C) l (p2.2.1 90 v1.toNatClampNeg) (p2.2.1 91 v1.toNatClampNeg) p2.2 xx oo p11 ep11) rfl rfl (rtI_c q) rfl rfl rfl d_Mo_toss_74 ?_
              refine k_iadd C d_Mo_toss_77 ?_
              refine k_goto C 82 d_Mo_toss_78 (by decide) ?_
              obtain rfl := Option.some.inj h
              exact k_iret C q d_Mo_toss_82
          · have h := (if_pos c9).symm.trans h
            refine k_bipush C 100 d_Mo_toss_56 bp_100 ?_
            refine k_iload_n C d_Mo_toss_58 0 rfl ?_
            refine k_iadd C d_Mo_toss_59 ?_
            refine k_goto C 82 d_Mo_toss_60 (by decide) ?_
            obtain rfl := Option.some.inj h
            exact k_iret C q d_Mo_toss_82
        · have h := (if_pos c8).symm.trans h
          refine k_bipush C (-15) d_Mo_toss_48 bp_m15 ?_
          obtain rfl := Option.some.inj h
          exact k_iret C q d_Mo_toss_50
  · have h := (if_neg c3).symm.trans h
    refine k_aload_n C d_Mo_toss_13 0 rfl ?_
    refine k_iload_n C d_Mo_toss_14 1 rfl ?_
    obtain ⟨p12, ep12, h⟩ := bd_some h
    refine k_callVi C q_Mo_207 (fun l => m_Mo_wrongKept (cx_g C) l v1 p2.2 xx oo p12 ep12) rfl rfl (rtI_c q) (by decide) sh_Mo rfl rfl rfl rfl d_Mo_toss_15 ?_
    obtain rfl := Option.some.inj h
    exact k_iret C q d_Mo_toss_18

def b_Mo_comes_28 (v1 : Int32) (v2 : Int32) (v3 : Int32) (vt0 : Int32) (m : MD) : Option (Int32 × MD) := (if 0 ≤ vt0 then gI v1 8 (gI v1 8 ((f_Mo_horseComes (m.1 90 v1.toNatClampNeg) (m.1 91 v1.toNatClampNeg) v2 v3 m).bind fun p4 => ((if p4.1 = 0 then some ((-2), p4.2) else some ((p4.2.1 83 0) - 1, p4.2))))) else some (vt0, m))
theorem t_Mo_comes_28 {g : GC} {X : MX} (C : Cx g X c_Mo_comes 5 n_Mo 3) {r : Int32 × MD} {xx : XD} {oo : Nat → Int64} (q : RtI g X (some .int) r.1 (xx, r.2, oo)) (v1 : Int32) (v2 : Int32) (v3 : Int32) (vt0 : Int32) (m : MD) (h : b_Mo_comes_28 v1 v2 v3 vt0 m = some r) : Wk g X 5 28 [(0, .ref (g_a g 83)), (1, .int v1), (2, .int v2), (3, .int v3)] [.int vt0] (xx, m, oo) := by
  unfold b_Mo_comes_28 at h
  refine k_istore C (lv' := [(4, .int vt0), (0, .ref (g_a g 83)), (1, .int v1), (2, .int v2), (3, .int v3)]) d_Mo_comes_28 rfl rfl ?_
  refine k_iload C d_Mo_comes_30 0 rfl ?_
  refine k_if_ge C 38 d_Mo_comes_32 (by decide) (fun c1 => ?_) (fun c1 => ?_)
  · have h := (if_pos c1).symm.trans h
    refine k_aload_n C d_Mo_comes_38 1 rfl ?_
    refine k_aload_n C d_Mo_comes_39 1 rfl ?_
    refine kg_Mo_28 C d_Mo_comes_40 ?_
    refine k_iload_n C d_Mo_comes_43 2 rfl ?_
    obtain ⟨i2, h⟩ := gI_some h
    refine k_ialdM C (by decide) (by decide) i2 d_Mo_comes_44 ?_
    refine k_aload_n C d_Mo_comes_45 1 rfl ?_
    refine kg_Mo_31 C d_Mo_comes_46 ?_
    refine k_iload_n C d_Mo_comes_49 2 rfl ?_
    obtain ⟨i3, h⟩ := gI_some h
    refine k_ialdM C (by decide) (by decide) i3 d_Mo_comes_50 ?_
    refine k_iload_n C d_Mo_comes_51 3 rfl ?_
    refine k_iload_n C d_Mo_comes_52 4 rfl ?_
    obtain ⟨p4, ep4, h⟩ := bd_some h
    refine k_callVi C q_Mo_158 (fun l => m_Mo_horseComes (cx_g C) l (m.1 90 v1.toNatClampNeg) (m.1 91 v1.toNatClampNeg) v2 v3 m xx oo p4 ep4) rfl rfl (rtI_c q) (by decide) sh_Mo rfl rfl rfl rfl d_Mo_comes_53 ?_
    refine k_if_eq C 68 d_Mo_comes_56 (by decide) (fun c5 => ?_) (fun c5 => ?_)
    · have h := (if_pos c5).symm.trans h
      refine k_bipush C (-2) d_Mo_comes_68 bp_m2 ?_
      obtain rfl := Option.some.inj h
      exact k_iret C q d_Mo_comes_70
    · have h := (if_neg c5).symm.trans h
      refine k_aload_n C d_Mo_comes_59 1 rfl ?_
      refine kg_Mo_81 C d_Mo_comes_60 ?_
      refine k_iconst C 1 d_Mo_comes_63 ic_1 ?_
      refine k_isub C d_Mo_comes_64 ?_
      refine k_goto C 70 d_Mo_comes_65 (by decide) ?_
      obtain rfl := Option.some.inj h
      exact k_iret C q d_Mo_comes_70
  · have h := (if_neg c1).symm.trans h
    refine k_iload C d_Mo_comes_35 0 rfl ?_
    obtain rfl := Option.some.inj h
    exact k_iret C q d_Mo_comes_37

def b_Mo_comes_27 (v1 : Int32) (v2 : Int32) (v3 : Int32) (m : MD) : Option (Int32 × MD) := b_Mo_comes_28 v1 v2 v3 (-1) m
theorem t_Mo_comes_27 {g : GC} {X : MX} (C : Cx g X c_Mo_comes 5 n_Mo 3) {r : Int32 × MD} {xx : XD} {oo : Nat → Int64} (q : RtI g X (some .int) r.1 (xx, r.2, oo)) (v1 : Int32) (v2 : Int32) (v3 : Int32) (m : MD) (h : b_Mo_comes_27 v1 v2 v3 m = some r) : Wk g X 5 27 [(0, .ref (g_a g 83)), (1, .int v1), (2, .int v2), (3, .int v3)] [] (xx, m, oo) := by
  unfold b_Mo_comes_27 at h
  refine k_iconst C (-1) d_Mo_comes_27 ic_m1 ?_
  exact k_sub [0, 1, 2, 3] rfl (t_Mo_comes_28 C q v1 v2 v3 (-1) m h)

def f_Mo_comes (v1 : Int32) (v2 : Int32) (v3 : Int32) (m : MD) : Option (Int32 × MD) := lt ((x_up m.1 83 14 0, m.2)) fun (m1 : MD) => (f_Mo_isYard v2 m1).bind fun p2 => ((if p2.1 = 0 then b_Mo_comes_27 v1 v2 v3 p2.2 else (f_Mo_isYard v3 p2.2).bind fun p4 => ((if p4.1 = 0 then b_Mo_comes_27 v1 v2 v3 p4.2 else (f_Mo_wrongKept v1 p4.2).bind fun p6 => (b_Mo_comes_28 v1 v2 v3 p6.1 p6.2)))))
theorem m_Mo_comes {g : GC} (hg : gOk g) (l : Launch)  (v1 : Int32) (v2 : Int32) (v3 : Int32) (m : MD) (xx : XD) (oo : Nat → Int64) (r : Int32 × MD) (h : f_Mo_comes v1 v2 v3 m = some r) : Mi g l y_Mo_comes c_Mo_comes 5 (some .int) 3 [.ref (g_a g 83), .int v1, .int v2, .int v3] (xx, m, oo) r.1 (xx, r.2, oo) := by
  refine m_i hg pn_Mo rfl fun X q C => ?_
  refine k_sub (lv' := [(0, .ref (g_a g 83)), (1, .int v1), (2, .int v2), (3, .int v3)]) [0, 1, 2, 3] rfl ?_
  unfold f_Mo_comes at h
  refine k_aload_n C d_Mo_comes_0 0 rfl ?_
  refine k_iconst C 0 d_Mo_comes_1 ic_0 ?_
  obtain ⟨m1, em1, h⟩ := lt_some h
  refine kp_Mo_71 C em1 d_Mo_comes_2 ?_
  refine k_iload_n C d_Mo_comes_5 2 rfl ?_
  obtain ⟨p2, ep2, h⟩ := bd_some h
  refine k_callSi C q_Mo_149 (fun l => m_Mo_isYard (cx_g C) l v2 m1 xx oo p2 ep2) rfl rfl (rtI_c q) rfl rfl rfl d_Mo_comes_6 ?_
  refine k_if_eq C 27 d_Mo_comes_9 (by decide) (fun c3 => ?_) (fun c3 => ?_)
  · have h := (if_pos c3).symm.trans h
    exact k_sub [0, 1, 2, 3] rfl (t_Mo_comes_27 C q v1 v2 v3 p2.2 h)
  · have h := (if_neg c3).symm.trans h
    refine k_iload_n C d_Mo_comes_12 3 rfl ?_
    obtain ⟨p4, ep4, h⟩ := bd_some h
    refine k_callSi C q_Mo_149 (fun l => m_Mo_isYard (cx_g C) l v3 p2.2 xx oo p4 ep4) rfl rfl (rtI_c q) rfl rfl rfl d_Mo_comes_13 ?_
    refine k_if_eq C 27 d_Mo_comes_16 (by decide) (fun c5 => ?_) (fun c5 => ?_)
    · have h := (if_pos c5).symm.trans h
      exact k_sub [0, 1, 2, 3] rfl (t_Mo_comes_27 C q v1 v2 v3 p4.2 h)
    · have h := (if_neg c5).symm.trans h
      refine k_aload_n C d_Mo_comes_19 0 rfl ?_
      refine k_iload_n C d_Mo_comes_20 1 rfl ?_
      obtain ⟨p6, ep6, h⟩ := bd_some h
      refine k_callVi C q_Mo_207 (fun l => m_Mo_wrongKept (cx_g C) l v1 p4.2 xx oo p6 ep6) rfl rfl (rtI_c q) (by decide) sh_Mo rfl rfl rfl rfl d_Mo_comes_21 ?_
      refine k_goto C 28 d_Mo_comes_24 (by decide) ?_
      exact k_sub [0, 1, 2, 3] rfl (t_Mo_comes_28 C q v1 v2 v3 p6.1 p6.2 h)

def b_Mo_count_75 : Nat → Int32 → Int32 → MD → Option (Int32 × MD)
  | 0, _, _, _ => none
  | n + 1, v2, v3, m => (if m.1 83 0 ≤ v3 then some (v2, m) else (f_Mo_paceOf v3 m).bind fun p2 => (b_Mo_count_75 n (v2 + p2.1) (v3 + 1) p2.2))
theorem t_Mo_count_75 {g : GC} {X : MX} (C : Cx g X c_Mo_count 4 n_Mo 3) {r : Int32 × MD} {xx : XD} {oo : Nat → Int64} (q : RtI g X (some .int) r.1 (xx, r.2, oo)) : ∀ (n : Nat) (v2 : Int32) (v3 : Int32) (m : MD) (h : b_Mo_count_75 n v2 v3 m = some r), Wk g X 4 75 [(0, .ref (g_a g 83)), (2, .int v2), (3, .int v3)] [] (xx, m, oo) := by
  intro n
  induction n with
  | zero =>
    intro v2 v3 m h
    rw [b_Mo_count_75] at h
    cases h
  | succ n ih =>
    intro v2 v3 m h
    rw [b_Mo_count_75] at h
    refine k_iload_n C d_Mo_count_75 2 rfl ?_
    refine k_aload_n C d_Mo_count_76 0 rfl ?_
    refine kg_Mo_81 C d_Mo_count_77 ?_
    refine k_icmp_ge C 97 d_Mo_count_80 (by decide) (fun c1 => ?_) (fun c1 => ?_)
    · have h := (if_pos c1).symm.trans h
      refine k_iload_n C d_Mo_count_97 1 rfl ?_
      obtain rfl := Option.some.inj h
      exact k_iret C q d_Mo_count_98
    · have h := (if_neg c1).symm.trans h
      refine k_iload_n C d_Mo_count_83 1 rfl ?_
      refine k_aload_n C d_Mo_count_84 0 rfl ?_
      refine k_iload_n C d_Mo_count_85 2 rfl ?_
      obtain ⟨p2, ep2, h⟩ := bd_some h
      refine k_callVi C q_Mo_108 (fun l => m_Mo_paceOf (cx_g C) l v3 m xx oo p2 ep2) rfl rfl (rtI_c q) (by decide) sh_Mo rfl rfl rfl rfl d_Mo_count_86 ?_
      refine k_iadd C d_Mo_count_89 ?_
      refine k_istore_n C (lv' := [(2, .int (v2 + p2.1)), (0, .ref (g_a g 83)), (3, .int v3)]) d_Mo_count_90 rfl rfl ?_
      refine k_inc C (lv' := [(3, .int (v3 + 1)), (2, .int (v2 + p2.1)), (0, .ref (g_a g 83))]) d_Mo_count_91 2 rfl ic_1 rfl rfl ?_
      refine k_goto C 75 d_Mo_count_94 (by decide) ?_
      exact k_sub [2, 1, 0] rfl (ih (v2 + p2.1) (v3 + 1) p2.2 h)

def f_Mo_count (v1 : Int32) (m : MD) : Option (Int32 × MD) := lt ((x_up m.1 83 14 0, m.2)) fun (m1 : MD) => (if v1 = 0 then some (m1.1 83 0, m1) else (if v1 = 1 then some (m1.1 83 6, m1) else (if v1 = 2 then some (m1.1 83 7, m1) else (if v1 = 3 then (f_Mo_allLonging m1).bind fun p6 => (some (p6.1, p6.2)) else (if v1 = 4 then (f_Mo_atGoals m1).bind fun p8 => (some (p8.1, p8.2)) else (if v1 = 5 then b_Mo_count_75 fu 0 0 m1 else (some ((-1), m1))))))))
theorem m_Mo_count {g : GC} (hg : gOk g) (l : Launch)  (v1 : Int32) (m : MD) (xx : XD) (oo : Nat → Int64) (r : Int32 × MD) (h : f_Mo_count v1 m = some r) : Mi g l y_Mo_count c_Mo_count 4 (some .int) 3 [.ref (g_a g 83), .int v1] (xx, m, oo) r.1 (xx, r.2, oo) := by
  refine m_i hg pn_Mo rfl fun X q C => ?_
  refine k_sub (lv' := [(0, .ref (g_a g 83)), (1, .int v1)]) [0, 1] rfl ?_
  unfold f_Mo_count at h
  refine k_aload_n C d_Mo_count_0 0 rfl ?_
  refine k_iconst C 0 d_Mo_count_1 ic_0 ?_
  obtain ⟨m1, em1, h⟩ := lt_some h
  refine kp_Mo_71 C em1 d_Mo_count_2 ?_
  refine k_iconst C 0 d_Mo_count_5 ic_0 ?_
  refine k_istore_n C (lv' := [(2, .int 0), (0, .ref (g_a g 83)), (1, .int v1)]) d_Mo_count_6 rfl rfl ?_
  refine k_iload_n C d_Mo_count_7 2 rfl ?_
  by_cases c2 : v1 = 0
  · have h := (if_pos c2).symm.trans h
    refine k_tabin C (40) 48 d_Mo_count_8 (by rw [c2]; decide) (by rw [c2]; decide) (by rw [c2]; decide) (by decide) ?_
    refine k_aload_n C d_Mo_count_48 1 rfl ?_
    refine kg_Mo_81 C d_Mo_count_49 ?_
    obtain rfl := Option.some.inj h
    exact k_iret C q d_Mo_count_52
  have h := (if_neg c2).symm.trans h
  by_cases c3 : v1 = 1
  · have h := (if_pos c3).symm.trans h
    refine k_tabin C (45) 53 d_Mo_count_8 (by rw [c3]; decide) (by rw [c3]; decide) (by rw [c3]; decide) (by decide) ?_
    refine k_aload_n C d_Mo_count_53 1 rfl ?_
    refine kg_Mo_88 C d_Mo_count_54 ?_
    obtain rfl := Option.some.inj h
    exact k_iret C q d_Mo_count_57
  have h := (if_neg c3).symm.trans h
  by_cases c4 : v1 = 2
  · have h := (if_pos c4).symm.trans h
    refine k_tabin C (50) 58 d_Mo_count_8 (by rw [c4]; decide) (by rw [c4]; decide) (by rw [c4]; decide) (by decide) ?_
    refine k_aload_n C d_Mo_count_58 1 rfl ?_
    refine kg_Mo_95 C d_Mo_count_59 ?_
    obtain rfl := Option.some.inj h
    exact k_iret C q d_Mo_count_62
  have h := (if_neg c4).symm.trans h
  by_cases c5 : v1 = 3
  · have h := (if_pos c5).symm.trans h
    refine k_tabin C (55) 63 d_Mo_count_8 (by rw [c5]; decide) (by rw [c5]; decide) (by rw [c5]; decide) (by decide) ?_
    refine k_aload_n C d_Mo_count_63 1 rfl ?_
    obtain ⟨p6, ep6, h⟩ := bd_some h
    refine k_callVi C q_Mo_212 (fun l => m_Mo_allLonging (cx_g C) l m1 xx oo p6 ep6) rfl rfl (rtI_c q) (by decide) sh_Mo rfl rfl rfl rfl d_Mo_count_64 ?_
    obtain rfl := Option.some.inj h
    exact k_iret C q d_Mo_count_67
  have h := (if_neg c5).symm.trans h
  by_cases c7 : v1 = 4
  · have h := (if_pos c7).symm.trans h
    refine k_tabin C (60) 68 d_Mo_count_8 (by rw [c7]; decide) (by rw [c7]; decide) (by rw [c7]; decide) (by decide) ?_
    refine k_aload_n C d_Mo_count_68 1 rfl ?_
    obtain ⟨p8, ep8, h⟩ := bd_some h
    refine k_callVi C q_Mo_291 (fun l => m_Mo_atGoals (cx_g C) l m1 xx oo p8 ep8) rfl rfl (rtI_c q) (by decide) sh_Mo rfl rfl rfl rfl d_Mo_count_69 ?_
    obtain rfl := Option.some.inj h
    exact k_iret C q d_Mo_count_72
  have h := (if_neg c7).symm.trans h
  by_cases c9 : v1 = 5
  · have h := (if_pos c9).symm.trans h
    refine k_tabin C (65) 73 d_Mo_count_8 (by rw [c9]; decide) (by rw [c9]; decide) (by rw [c9]; decide) (by decide) ?_
    refine k_iconst C 0 d_Mo_count_73 ic_0 ?_
    refine k_istore_n C (lv' := [(3, .int 0), (2, .int 0), (0, .ref (g_a g 83)), (1, .int v1)]) d_Mo_count_74 rfl rfl ?_
    exact k_sub [2, 1, 0] rfl (t_Mo_count_75 C q fu 0 0 m1 h)
  have h := (if_neg c9).symm.trans h
  have ac2 : ¬ v1.toInt = 0 := nti c2
  have ac3 : ¬ v1.toInt = 1 := nti c3
  have ac4 : ¬ v1.toInt = 2 := nti c4
  have ac5 : ¬ v1.toInt = 3 := nti c5
  have ac7 : ¬ v1.toInt = 4 := nti c7
  have ac9 : ¬ v1.toInt = 5 := nti c9
  refine k_tabout C 99 d_Mo_count_8 (by omega) (by decide) ?_
  refine k_iconst C (-1) d_Mo_count_99 ic_m1 ?_
  obtain rfl := Option.some.inj h
  exact k_iret C q d_Mo_count_100

def b_Mo_dayBy_81 (K12 : Int32 → MD → Option (Unit × MD)) (v1 : Int32) (v2 : Int32) (vt1 : Int32) (vt2 : Int32) (m : MD) : Option (Unit × MD) := gI vt1 7 (lt ((x_up m.1 88 vt1.toNatClampNeg vt2, m.2)) fun (m1 : MD) => K12 (v2 + 1) m1)
theorem t_Mo_dayBy_81 {g : GC} {X : MX} (C : Cx g X c_Mo_dayBy 4 n_Mo 3) {r : Unit × MD} {xx : XD} {oo : Nat → Int64} (q : RtV g X none (xx, r.2, oo)) (v1 : Int32) (v2 : Int32) (vt1 : Int32) (vt2 : Int32) (K12 : Int32 → MD → Option (Unit × MD)) (hK12 : ∀ (v2 : Int32) (m : MD), K12 v2 m = some r → Wk g X 4 12 [(0, .ref (g_a g 83)), (1, .int v1), (2, .int v2)] [] (xx, m, oo)) (m : MD) (h : b_Mo_dayBy_81 K12 v1 v2 vt1 vt2 m = some r) : Wk g X 4 81 [(0, .ref (g_a g 83)), (1, .int v1), (2, .int v2)] [.int vt2, .int vt1, .ref (g_a g 88)] (xx, m, oo) := by
  unfold b_Mo_dayBy_81 at h
  obtain ⟨i2, h⟩ := gI_some h
  obtain ⟨m1, em1, h⟩ := lt_some h
  refine k_iastM C (by decide) (by decide) i2 em1 d_Mo_dayBy_81 ?_
  refine k_inc C (lv' := [(2, .int (v2 + 1)), (0, .ref (g_a g 83)), (1, .int v1)]) d_Mo_dayBy_82 2 rfl ic_1 rfl rfl ?_
  refine k_goto C 12 d_Mo_dayBy_85 (by decide) ?_
  exact k_sub [1, 2, 0] rfl (hK12 (v2 + 1) m1 h)

def b_Mo_dayBy_43 (K12 : Int32 → MD → Option (Unit × MD)) (v1 : Int32) (v2 : Int32) (vt0 : Int32) (m : MD) : Option (Unit × MD) := (if vt0 = 0 then gI v2 7 ((f_Mo_pinesOf v2 m).bind fun p3 => ((f_Mo_least 99 ((m.1 88 v2.toNatClampNeg) + p3.1) p3.2).bind fun p4 => (b_Mo_dayBy_81 K12 v1 v2 v2 p4.1 p4.2))) else gI v2 7 (b_Mo_dayBy_81 K12 v1 v2 v2 ((m.1 88 v2.toNatClampNeg) / 2) m))
theorem t_Mo_dayBy_43 {g : GC} {X : MX} (C : Cx g X c_Mo_dayBy 4 n_Mo 3) {r : Unit × MD} {xx : XD} {oo : Nat → Int64} (q : RtV g X none (xx, r.2, oo)) (v1 : Int32) (v2 : Int32) (vt0 : Int32) (K12 : Int32 → MD → Option (Unit × MD)) (hK12 : ∀ (v2 : Int32) (m : MD), K12 v2 m = some r → Wk g X 4 12 [(0, .ref (g_a g 83)), (1, .int v1), (2, .int v2)] [] (xx, m, oo)) (m : MD) (h : b_Mo_dayBy_43 K12 v1 v2 vt0 m = some r) : Wk g X 4 43 [(0, .ref (g_a g 83)), (1, .int v1), (2, .int v2)] [.int vt0] (xx, m, oo) := by
  unfold b_Mo_dayBy_43 at h
  refine k_istore_n C (lv' := [(3, .int vt0), (0, .ref (g_a g 83)), (1, .int v1), (2, .int v2)]) d_Mo_dayBy_43 rfl rfl ?_
  refine k_aload_n C d_Mo_dayBy_44 1 rfl ?_
  refine kg_Mo_22 C d_Mo_dayBy_45 ?_
  refine k_iload_n C d_Mo_dayBy_48 3 rfl ?_
  refine k_iload_n C d_Mo_dayBy_49 0 rfl ?_
  refine k_if_eq C 64 d_Mo_dayBy_50 (by decide) (fun c1 => ?_) (fun c1 => ?_)
  · have h := (if_pos c1).symm.trans h
    refine k_bipush C 99 d_Mo_dayBy_64 bp_99 ?_
    refine k_aload_n C d_Mo_dayBy_66 1 rfl ?_
    refine kg_Mo_22 C d_Mo_dayBy_67 ?_
    refine k_iload_n C d_Mo_dayBy_70 3 rfl ?_
    obtain ⟨i2, h⟩ := gI_some h
    refine k_ialdM C (by decide) (by decide) i2 d_Mo_dayBy_71 ?_
    refine k_aload_n C d_Mo_dayBy_72 1 rfl ?_
    refine k_iload_n C d_Mo_dayBy_73 3 rfl ?_
    obtain ⟨p3, ep3, h⟩ := bd_some h
    refine k_callVi C q_Mo_98 (fun l => m_Mo_pinesOf (cx_g C) l v2 m xx oo p3 ep3) rfl rfl (rtV_c q) (by decide) sh_Mo rfl rfl rfl rfl d_Mo_dayBy_74 ?_
    refine k_iadd C d_Mo_dayBy_77 ?_
    obtain ⟨p4, ep4, h⟩ := bd_some h
    refine k_callSi C q_Mo_101 (fun l => m_Mo_least (cx_g C) l 99 ((m.1 88 v2.toNatClampNeg) + p3.1) p3.2 xx oo p4 ep4) rfl rfl (rtV_c q) rfl rfl rfl d_Mo_dayBy_78 ?_
    exact k_sub [1, 2, 3] rfl (t_Mo_dayBy_81 C q v1 v2 v2 p4.1 K12 hK12 p4.2 h)
  · have h := (if_neg c1).symm.trans h
    refine k_aload_n C d_Mo_dayBy_53 1 rfl ?_
    refine kg_Mo_22 C d_Mo_dayBy_54 ?_
    refine k_iload_n C d_Mo_dayBy_57 3 rfl ?_
    obtain ⟨i5, h⟩ := gI_some h
    refine k_ialdM C (by decide) (by decide) i5 d_Mo_dayBy_58 ?_
    refine k_iconst C 2 d_Mo_dayBy_59 ic_2 ?_
    refine k_idiv C nz_2 d_Mo_dayBy_60 ?_
    refine k_goto C 81 d_Mo_dayBy_61 (by decide) ?_
    exact k_sub [1, 2, 3] rfl (t_Mo_dayBy_81 C q v1 v2 v2 ((m.1 88 v2.toNatClampNeg) / 2) K12 hK12 m h)

def b_Mo_dayBy_12 (v1 : Int32) : Nat → Int32 → MD → Option (Unit × MD)
  | 0, _, _ => none
  | n + 1, v2, m => (if m.1 83 0 ≤ v2 then some ((), m) else (if v1 = 0 then gI v2 7 ((f_Mo_goalOf v2 m).bind fun p4 => ((if m.1 87 v2.toNatClampNeg = p4.1 then b_Mo_dayBy_43 (b_Mo_dayBy_12 v1 n) v1 v2 1 p4.2 else b_Mo_dayBy_43 (b_Mo_dayBy_12 v1 n) v1 v2 0 p4.2))) else some ((), m)))
theorem t_Mo_dayBy_12 {g : GC} {X : MX} (C : Cx g X c_Mo_dayBy 4 n_Mo 3) {r : Unit × MD} {xx : XD} {oo : Nat → Int64} (q : RtV g X none (xx, r.2, oo)) (v1 : Int32) : ∀ (n : Nat) (v2 : Int32) (m : MD) (h : b_Mo_dayBy_12 v1 n v2 m = some r), Wk g X 4 12 [(0, .ref (g_a g 83)), (1, .int v1), (2, .int v2)] [] (xx, m, oo) := by
  intro n
  induction n with
  | zero =>
    intro v2 m h
    rw [b_Mo_dayBy_12] at h
    cases h
  | succ n ih =>
    intro v2 m h
    rw [b_Mo_dayBy_12] at h
    refine k_iload_n C d_Mo_dayBy_12 2 rfl ?_
    refine k_aload_n C d_Mo_dayBy_13 0 rfl ?_
    refine kg_Mo_81 C d_Mo_dayBy_14 ?_
    refine k_icmp_ge C 88 d_Mo_dayBy_17 (by decide) (fun c1 => ?_) (fun c1 => ?_)
    · have h := (if_pos c1).symm.trans h
      obtain rfl := Option.some.inj h
      exact k_vret C q d_Mo_dayBy_88
    · have h := (if_neg c1).symm.trans h
      refine k_iload_n C d_Mo_dayBy_20 1 rfl ?_
      refine k_if_ne C 88 d_Mo_dayBy_21 (by decide) (fun c2 => ?_) (fun c2 => ?_)
      · have h := (if_neg c2).symm.trans h
        obtain rfl := Option.some.inj h
        exact k_vret C q d_Mo_dayBy_88
      · have h := (if_pos c2).symm.trans h
        refine k_aload_n C d_Mo_dayBy_24 0 rfl ?_
        refine kg_Mo_19 C d_Mo_dayBy_25 ?_
        refine k_iload_n C d_Mo_dayBy_28 2 rfl ?_
        obtain ⟨i3, h⟩ := gI_some h
        refine k_ialdM C (by decide) (by decide) i3 d_Mo_dayBy_29 ?_
        refine k_aload_n C d_Mo_dayBy_30 0 rfl ?_
        refine k_iload_n C d_Mo_dayBy_31 2 rfl ?_
        obtain ⟨p4, ep4, h⟩ := bd_some h
        refine k_callVi C q_Mo_91 (fun l => m_Mo_goalOf (cx_g C) l v2 m xx oo p4 ep4) rfl rfl (rtV_c q) (by decide) sh_Mo rfl rfl rfl rfl d_Mo_dayBy_32 ?_
        refine k_icmp_ne C 42 d_Mo_dayBy_35 (by decide) (fun c5 => ?_) (fun c5 => ?_)
        · have h := (if_neg c5).symm.trans h
          refine k_iconst C 0 d_Mo_dayBy_42 ic_0 ?_
          exact k_sub [0, 1, 2] rfl (t_Mo_dayBy_43 C q v1 v2 0 (b_Mo_dayBy_12 v1 n) ih p4.2 h)
        · have h := (if_pos c5).symm.trans h
          refine k_iconst C 1 d_Mo_dayBy_38 ic_1 ?_
          refine k_goto C 43 d_Mo_dayBy_39 (by decide) ?_
          exact k_sub [0, 1, 2] rfl (t_Mo_dayBy_43 C q v1 v2 1 (b_Mo_dayBy_12 v1 n) ih p4.2 h)

def f_Mo_dayBy (v1 : Int32) (m : MD) : Option (Unit × MD) := lt ((x_up m.1 83 7 ((m.1 83 7) + 1), m.2)) fun (m1 : MD) => b_Mo_dayBy_12 v1 fu 0 m1
theorem m_Mo_dayBy {g : GC} (hg : gOk g) (l : Launch)  (v1 : Int32) (m : MD) (xx : XD) (oo : Nat → Int64) (r : Unit × MD) (h : f_Mo_dayBy v1 m = some r) : Mv g l y_Mo_dayBy c_Mo_dayBy 4 none 3 [.ref (g_a g 83), .int v1] (xx, m, oo) (xx, r.2, oo) := by
  refine m_v hg pn_Mo rfl fun X q C => ?_
  refine k_sub (lv' := [(0, .ref (g_a g 83)), (1, .int v1)]) [0, 1] rfl ?_
  unfold f_Mo_dayBy at h
  refine k_aload_n C d_Mo_dayBy_0 0 rfl ?_
  refine k_dup C d_Mo_dayBy_1 rfl ?_
  refine kg_Mo_95 C d_Mo_dayBy_2 ?_
  refine k_iconst C 1 d_Mo_dayBy_5 ic_1 ?_
  refine k_iadd C d_Mo_dayBy_6 ?_
  obtain ⟨m1, em1, h⟩ := lt_some h
  refine kp_Mo_95 C em1 d_Mo_dayBy_7 ?_
  refine k_iconst C 0 d_Mo_dayBy_10 ic_0 ?_
  refine k_istore_n C (lv' := [(2, .int 0), (0, .ref (g_a g 83)), (1, .int v1)]) d_Mo_dayBy_11 rfl rfl ?_
  exact k_sub [1, 2, 0] rfl (t_Mo_dayBy_12 C q v1 fu 0 m1 h)

def b_Mo_readStatement_128 (vt1 : Int32) (vt2 : Int32) (m : MD) : Option (Unit × MD) := lt ((x_up m.1 83 16 (vt1 + vt2), m.2)) fun (m1 : MD) => lt ((x_up m1.1 83 18 ((m1.1 83 18) + 1), m1.2)) fun (m2 : MD) => some ((), m2)
theorem t_Mo_readStatement_128 {g : GC} {X : MX} (C : Cx g X c_Mo_readStatement 3 n_Mo 3) {r : Unit × MD} {xx : XD} {oo : Nat → Int64} (q : RtV g X none (xx, r.2, oo)) (vt1 : Int32) (vt2 : Int32) (m : MD) (h : b_Mo_readStatement_128 vt1 vt2 m = some r) : Wk g X 3 128 [(0, .ref (g_a g 83))] [.int vt2, .int vt1, .ref (g_a g 83)] (xx, m, oo) := by
  unfold b_Mo_readStatement_128 at h
  refine k_iadd C d_Mo_readStatement_128 ?_
  obtain ⟨m1, em1, h⟩ := lt_some h
  refine kp_Mo_118 C em1 d_Mo_readStatement_129 ?_
  refine k_aload_n C d_Mo_readStatement_132 0 rfl ?_
  refine k_dup C d_Mo_readStatement_133 rfl ?_
  refine kg_Mo_139 C d_Mo_readStatement_134 ?_
  refine k_iconst C 1 d_Mo_readStatement_137 ic_1 ?_
  refine k_iadd C d_Mo_readStatement_138 ?_
  obtain ⟨m2, em2, h⟩ := lt_some h
  refine kp_Mo_139 C em2 d_Mo_readStatement_139 ?_
  obtain rfl := Option.some.inj h
  exact k_vret C q d_Mo_readStatement_142

def b_Mo_readStatement_108 (vt1 : Int32) (m : MD) : Option (Unit × MD) := gB vt1 (lt ((x_up m.1 83 17 vt1, m.2)) fun (m2 : MD) => (if m2.1 83 17 = 0 then b_Mo_readStatement_128 (m2.1 83 16) 1 m2 else b_Mo_readStatement_128 (m2.1 83 16) 0 m2))
theorem t_Mo_readStatement_108 {g : GC} {X : MX} (C : Cx g X c_Mo_readStatement 3 n_Mo 3) {r : Unit × MD} {xx : XD} {oo : Nat → Int64} (q : RtV g X none (xx, r.2, oo)) (vt1 : Int32) (m : MD) (h : b_Mo_readStatement_108 vt1 m = some r) : Wk g X 3 108 [(0, .ref (g_a g 83))] [.int vt1, .ref (g_a g 83)] (xx, m, oo) := by
  unfold b_Mo_readStatement_108 at h
  obtain ⟨i1, h⟩ := gB_some h
  obtain ⟨m2, em2, h⟩ := lt_some h
  refine kp_Mo_124 C i1 em2 d_Mo_readStatement_108 ?_
  refine k_aload_n C d_Mo_readStatement_111 0 rfl ?_
  refine k_dup C d_Mo_readStatement_112 rfl ?_
  refine kg_Mo_118 C d_Mo_readStatement_113 ?_
  refine k_aload_n C d_Mo_readStatement_116 0 rfl ?_
  refine kg_Mo_124 C d_Mo_readStatement_117 ?_
  refine k_if_eq C 127 d_Mo_readStatement_120 (by decide) (fun c3 => ?_) (fun c3 => ?_)
  · have h := (if_pos c3).symm.trans h
    refine k_iconst C 1 d_Mo_readStatement_127 ic_1 ?_
    exact k_sub [0] rfl (t_Mo_readStatement_128 C q (m2.1 83 16) 1 m2 h)
  · have h := (if_neg c3).symm.trans h
    refine k_iconst C 0 d_Mo_readStatement_123 ic_0 ?_
    refine k_goto C 128 d_Mo_readStatement_124 (by decide) ?_
    exact k_sub [0] rfl (t_Mo_readStatement_128 C q (m2.1 83 16) 0 m2 h)

def b_Mo_readStatement_103 (m : MD) : Option (Unit × MD) := b_Mo_readStatement_108 1 m
theorem t_Mo_readStatement_103 {g : GC} {X : MX} (C : Cx g X c_Mo_readStatement 3 n_Mo 3) {r : Unit × MD} {xx : XD} {oo : Nat → Int64} (q : RtV g X none (xx, r.2, oo)) (m : MD) (h : b_Mo_readStatement_103 m = some r) : Wk g X 3 103 [(0, .ref (g_a g 83))] [.ref (g_a g 83)] (xx, m, oo) := by
  unfold b_Mo_readStatement_103 at h
  refine k_iconst C 1 d_Mo_readStatement_103 ic_1 ?_
  refine k_goto C 108 d_Mo_readStatement_104 (by decide) ?_
  exact k_sub [0] rfl (t_Mo_readStatement_108 C q 1 m h)

def b_Mo_readStatement_86 (m : MD) : Option (Unit × MD) := (if m.1 83 17 = 0 then (f_Mo_here m).bind fun p2 => ((if p2.1 = 59 then b_Mo_readStatement_108 0 p2.2 else b_Mo_readStatement_103 p2.2)) else b_Mo_readStatement_103 m)
theorem t_Mo_readStatement_86 {g : GC} {X : MX} (C : Cx g X c_Mo_readStatement 3 n_Mo 3) {r : Unit × MD} {xx : XD} {oo : Nat → Int64} (q : RtV g X none (xx, r.2, oo)) (m : MD) (h : b_Mo_readStatement_86 m = some r) : Wk g X 3 86 [(0, .ref (g_a g 83))] [] (xx, m, oo) := by
  unfold b_Mo_readStatement_86 at h
  refine k_aload_n C d_Mo_readStatement_86 0 rfl ?_
  refine k_aload_n C d_Mo_readStatement_87 0 rfl ?_
  refine kg_Mo_124 C d_Mo_readStatement_88 ?_
  refine k_if_ne C 103 d_Mo_readStatement_91 (by decide) (fun c1 => ?_) (fun c1 => ?_)
  · have h := (if_neg c1).symm.trans h
    exact k_sub [0] rfl (t_Mo_readStatement_103 C q m h)
  · have h := (if_pos c1).symm.trans h
    refine k_aload_n C d_Mo_readStatement_94 0 rfl ?_
    obtain ⟨p2, ep2, h⟩ := bd_some h
    refine k_callVi C q_Mo_128 (fun l => m_Mo_here (cx_g C) l m xx oo p2 ep2) rfl rfl (rtV_c q) (by decide) sh_Mo rfl rfl rfl rfl d_Mo_readStatement_95 ?_
    refine k_bipush C 59 d_Mo_readStatement_98 bp_59 ?_
    refine k_icmp_eq C 107 d_Mo_readStatement_100 (by decide) (fun c3 => ?_) (fun c3 => ?_)
    · have h := (if_pos c3).symm.trans h
      refine k_iconst C 0 d_Mo_readStatement_107 ic_0 ?_
      exact k_sub [0] rfl (t_Mo_readStatement_108 C q 0 p2.2 h)
    · have h := (if_neg c3).symm.trans h
      exact k_sub [0] rfl (t_Mo_readStatement_103 C q p2.2 h)

def b_Mo_readStatement_67 (v1 : Int32) (v2 : Int32) (vt1 : Int32) (vt2 : Int32) (m : MD) : Option (Unit × MD) := lt ((x_up m.1 83 16 (vt1 + vt2), m.2)) fun (m1 : MD) => (if m1.1 83 17 = 0 then (f_Mo_readNumbers v2 (4 * v1) m1).bind fun p3 => (b_Mo_readStatement_86 p3.2) else b_Mo_readStatement_86 m1)
theorem t_Mo_readStatement_67 {g : GC} {X : MX} (C : Cx g X c_Mo_readStatement 3 n_Mo 3) {r : Unit × MD} {xx : XD} {oo : Nat → Int64} (q : RtV g X none (xx, r.2, oo)) (v1 : Int32) (v2 : Int32) (vt1 : Int32) (vt2 : Int32) (m : MD) (h : b_Mo_readStatement_67 v1 v2 vt1 vt2 m = some r) : Wk g X 3 67 [(0, .ref (g_a g 83)), (1, .int v1), (2, .int v2)] [.int vt2, .int vt1, .ref (g_a g 83)] (xx, m, oo) := by
  unfold b_Mo_readStatement_67 at h
  refine k_iadd C d_Mo_readStatement_67 ?_
  obtain ⟨m1, em1, h⟩ := lt_some h
  refine kp_Mo_118 C em1 d_Mo_readStatement_68 ?_
  refine k_aload_n C d_Mo_readStatement_71 0 rfl ?_
  refine kg_Mo_124 C d_Mo_readStatement_72 ?_
  refine k_if_ne C 86 d_Mo_readStatement_75 (by decide) (fun c2 => ?_) (fun c2 => ?_)
  · have h := (if_neg c2).symm.trans h
    exact k_sub [0] rfl (t_Mo_readStatement_86 C q m1 h)
  · have h := (if_pos c2).symm.trans h
    refine k_aload_n C d_Mo_readStatement_78 0 rfl ?_
    refine k_iload_n C d_Mo_readStatement_79 2 rfl ?_
    refine k_iconst C 4 d_Mo_readStatement_80 ic_4 ?_
    refine k_iload_n C d_Mo_readStatement_81 1 rfl ?_
    refine k_imul C d_Mo_readStatement_82 ?_
    obtain ⟨p3, ep3, h⟩ := bd_some h
    refine k_callVv C q_Mo_146 (fun l => m_Mo_readNumbers (cx_g C) l v2 (4 * v1) m1 xx oo p3 ep3) rfl rfl (rtV_c q) (by decide) sh_Mo rfl rfl rfl rfl d_Mo_readStatement_83 ?_
    exact k_sub [0] rfl (t_Mo_readStatement_86 C q p3.2 h)

def b_Mo_readStatement_47 (v1 : Int32) (v2 : Int32) (vt1 : Int32) (m : MD) : Option (Unit × MD) := gB vt1 (lt ((x_up m.1 83 17 vt1, m.2)) fun (m2 : MD) => (if m2.1 83 17 = 0 then b_Mo_readStatement_67 v1 v2 (m2.1 83 16) 1 m2 else b_Mo_readStatement_67 v1 v2 (m2.1 83 16) 0 m2))
theorem t_Mo_readStatement_47 {g : GC} {X : MX} (C : Cx g X c_Mo_readStatement 3 n_Mo 3) {r : Unit × MD} {xx : XD} {oo : Nat → Int64} (q : RtV g X none (xx, r.2, oo)) (v1 : Int32) (v2 : Int32) (vt1 : Int32) (m : MD) (h : b_Mo_readStatement_47 v1 v2 vt1 m = some r) : Wk g X 3 47 [(0, .ref (g_a g 83)), (1, .int v1), (2, .int v2)] [.int vt1, .ref (g_a g 83)] (xx, m, oo) := by
  unfold b_Mo_readStatement_47 at h
  obtain ⟨i1, h⟩ := gB_some h
  obtain ⟨m2, em2, h⟩ := lt_some h
  refine kp_Mo_124 C i1 em2 d_Mo_readStatement_47 ?_
  refine k_aload_n C d_Mo_readStatement_50 0 rfl ?_
  refine k_dup C d_Mo_readStatement_51 rfl ?_
  refine kg_Mo_118 C d_Mo_readStatement_52 ?_
  refine k_aload_n C d_Mo_readStatement_55 0 rfl ?_
  refine kg_Mo_124 C d_Mo_readStatement_56 ?_
  refine k_if_eq C 66 d_Mo_readStatement_59 (by decide) (fun c3 => ?_) (fun c3 => ?_)
  · have h := (if_pos c3).symm.trans h
    refine k_iconst C 1 d_Mo_readStatement_66 ic_1 ?_
    exact k_sub [0, 1, 2] rfl (t_Mo_readStatement_67 C q v1 v2 (m2.1 83 16) 1 m2 h)
  · have h := (if_neg c3).symm.trans h
    refine k_iconst C 0 d_Mo_readStatement_62 ic_0 ?_
    refine k_goto C 67 d_Mo_readStatement_63 (by decide) ?_
    exact k_sub [0, 1, 2] rfl (t_Mo_readStatement_67 C q v1 v2 (m2.1 83 16) 0 m2 h)

def b_Mo_readStatement_42 (v1 : Int32) (v2 : Int32) (m : MD) : Option (Unit × MD) := b_Mo_readStatement_47 v1 v2 1 m
theorem t_Mo_readStatement_42 {g : GC} {X : MX} (C : Cx g X c_Mo_readStatement 3 n_Mo 3) {r : Unit × MD} {xx : XD} {oo : Nat → Int64} (q : RtV g X none (xx, r.2, oo)) (v1 : Int32) (v2 : Int32) (m : MD) (h : b_Mo_readStatement_42 v1 v2 m = some r) : Wk g X 3 42 [(0, .ref (g_a g 83)), (1, .int v1), (2, .int v2)] [.ref (g_a g 83)] (xx, m, oo) := by
  unfold b_Mo_readStatement_42 at h
  refine k_iconst C 1 d_Mo_readStatement_42 ic_1 ?_
  refine k_goto C 47 d_Mo_readStatement_43 (by decide) ?_
  exact k_sub [0, 1, 2] rfl (t_Mo_readStatement_47 C q v1 v2 1 m h)

def f_Mo_readStatement (m : MD) : Option (Unit × MD) := (f_Mo_here m).bind fun p1 => (gI (m.1 83 18) 51 (lt ((x_up p1.2.1 95 (m.1 83 18).toNatClampNeg (p1.2.1 83 16), p1.2.2)) fun (m2 : MD) => gI (m.1 83 18) 51 (lt ((x_up m2.1 96 (m.1 83 18).toNatClampNeg p1.1, m2.2)) fun (m4 : MD) => (if m4.1 83 17 = 0 then (f_Mo_isLetter p1.1 m4).bind fun p7 => ((if p7.1 = 0 then b_Mo_readStatement_42 (m.1 83 18) p1.1 p7.2 else b_Mo_readStatement_47 (m.1 83 18) p1.1 0 p7.2)) else b_Mo_readStatement_42 (m.1 83 18) p1.1 m4))))
theorem m_Mo_readStatement {g : GC} (hg : gOk g) (l : Launch)  (m : MD) (xx : XD) (oo : Nat → Int64) (r : Unit × MD) (h : f_Mo_readStatement m = some r) : Mv g l y_Mo_readStatement c_Mo_readStatement 3 none 3 [.ref (g_a g 83)] (xx, m, oo) (xx, r.2, oo) := by
  refine m_v hg pn_Mo rfl fun X q C => ?_
  refine k_sub (lv' := [(0, .ref (g_a g 83))]) [0] rfl ?_
  unfold f_Mo_readStatement at h
  refine k_aload_n C d_Mo_readStatement_0 0 rfl ?_
  refine kg_Mo_139 C d_Mo_readStatement_1 ?_
  refine k_istore_n C (lv' := [(1, .int (m.1 83 18)), (0, .ref (g_a g 83))]) d_Mo_readStatement_4 rfl rfl ?_
  refine k_aload_n C d_Mo_readStatement_5 1 rfl ?_
  obtain ⟨p1, ep1, h⟩ := bd_some h
  refine k_callVi C q_Mo_128 (fun l => m_Mo_here (cx_g C) l m xx oo p1 ep1) rfl rfl (rtV_c q) (by decide) sh_Mo rfl rfl rfl rfl d_Mo_readStatement_6 ?_
  refine k_istore_n C (lv' := [(2, .int p1.1), (1, .int (m.1 83 18)), (0, .ref (g_a g 83))]) d_Mo_readStatement_9 rfl rfl ?_
  refine k_aload_n C d_Mo_readStatement_10 2 rfl ?_
  refine kg_Mo_44 C d_Mo_readStatement_11 ?_
  refine k_iload_n C d_Mo_readStatement_14 1 rfl ?_
  refine k_aload_n C d_Mo_readStatement_15 2 rfl ?_
  refine kg_Mo_118 C d_Mo_readStatement_16 ?_
  obtain ⟨i3, h⟩ := gI_some h
  obtain ⟨m2, em2, h⟩ := lt_some h
  refine k_iastM C (by decide) (by decide) i3 em2 d_Mo_readStatement_19 ?_
  refine k_aload_n C d_Mo_readStatement_20 2 rfl ?_
  refine kg_Mo_47 C d_Mo_readStatement_21 ?_
  refine k_iload_n C d_Mo_readStatement_24 1 rfl ?_
  refine k_iload_n C d_Mo_readStatement_25 0 rfl ?_
  obtain ⟨i5, h⟩ := gI_some h
  obtain ⟨m4, em4, h⟩ := lt_some h
  refine k_iastM C (by decide) (by decide) i5 em4 d_Mo_readStatement_26 ?_
  refine k_aload_n C d_Mo_readStatement_27 2 rfl ?_
  refine k_aload_n C d_Mo_readStatement_28 2 rfl ?_
  refine kg_Mo_124 C d_Mo_readStatement_29 ?_
  refine k_if_ne C 42 d_Mo_readStatement_32 (by decide) (fun c6 => ?_) (fun c6 => ?_)
  · have h := (if_neg c6).symm.trans h
    exact k_sub [2, 1, 0] rfl (t_Mo_readStatement_42 C q (m.1 83 18) p1.1 m4 h)
  · have h := (if_pos c6).symm.trans h
    refine k_iload_n C d_Mo_readStatement_35 0 rfl ?_
    obtain ⟨p7, ep7, h⟩ := bd_some h
    refine k_callSi C q_Mo_142 (fun l => m_Mo_isLetter (cx_g C) l p1.1 m4 xx oo p7 ep7) rfl rfl (rtV_c q) rfl rfl rfl d_Mo_readStatement_36 ?_
    refine k_if_ne C 46 d_Mo_readStatement_39 (by decide) (fun c8 => ?_) (fun c8 => ?_)
    · have h := (if_neg c8).symm.trans h
      refine k_iconst C 0 d_Mo_readStatement_46 ic_0 ?_
      exact k_sub [2, 1, 0] rfl (t_Mo_readStatement_47 C q (m.1 83 18) p1.1 0 p7.2 h)
    · have h := (if_pos c8).symm.trans h
      exact k_sub [2, 1, 0] rfl (t_Mo_readStatement_42 C q (m.1 83 18) p1.1 p7.2 h)

def b_Mo_goDays_2 (v1 : Int32) : Nat → Int32 → MD → Option (Unit × MD)
  | 0, _, _ => none
  | n + 1, v2, m => (if v1 ≤ v2 then some ((), m) else (f_Mo_dayBy 0 m).bind fun p2 => (b_Mo_goDays_2 v1 n (v2 + 1) p2.2))
theorem t_Mo_goDays_2 {g : GC} {X : MX} (C : Cx g X c_Mo_goDays 3 n_Mo 4) {r : Unit × MD} {xx : XD} {oo : Nat → Int64} (q : RtV g X none (xx, r.2, oo)) (v1 : Int32) : ∀ (n : Nat) (v2 : Int32) (m : MD) (h : b_Mo_goDays_2 v1 n v2 m = some r), Wk g X 3 2 [(0, .ref (g_a g 83)), (1, .int v1), (2, .int v2)] [] (xx, m, oo) := by
  intro n
  induction n with
  | zero =>
    intro v2 m h
    rw [b_Mo_goDays_2] at h
    cases h
  | succ n ih =>
    intro v2 m h
    rw [b_Mo_goDays_2] at h
    refine k_iload_n C d_Mo_goDays_2 2 rfl ?_
    refine k_iload_n C d_Mo_goDays_3 1 rfl ?_
    refine k_icmp_ge C 18 d_Mo_goDays_4 (by decide) (fun c1 => ?_) (fun c1 => ?_)
    · have h := (if_pos c1).symm.trans h
      obtain rfl := Option.some.inj h
      exact k_vret C q d_Mo_goDays_18
    · have h := (if_neg c1).symm.trans h
      refine k_aload_n C d_Mo_goDays_7 0 rfl ?_
      refine k_iconst C 0 d_Mo_goDays_8 ic_0 ?_
      obtain ⟨p2, ep2, h⟩ := bd_some h
      refine k_callVv C q_Mo_104 (fun l => m_Mo_dayBy (cx_g C) l 0 m xx oo p2 ep2) rfl rfl (rtV_c q) (by decide) sh_Mo rfl rfl rfl rfl d_Mo_goDays_9 ?_
      refine k_inc C (lv' := [(2, .int (v2 + 1)), (0, .ref (g_a g 83)), (1, .int v1)]) d_Mo_goDays_12 2 rfl ic_1 rfl rfl ?_
      refine k_goto C 2 d_Mo_goDays_15 (by decide) ?_
      exact k_sub [1, 2, 0] rfl (ih (v2 + 1) p2.2 h)

def f_Mo_goDays (v1 : Int32) (m : MD) : Option (Unit × MD) := b_Mo_goDays_2 v1 fu 0 m
theorem m_Mo_goDays {g : GC} (hg : gOk g) (l : Launch)  (v1 : Int32) (m : MD) (xx : XD) (oo : Nat → Int64) (r : Unit × MD) (h : f_Mo_goDays v1 m = some r) : Mv g l y_Mo_goDays c_Mo_goDays 3 none 4 [.ref (g_a g 83), .int v1] (xx, m, oo) (xx, r.2, oo) := by
  refine m_v hg pn_Mo rfl fun X q C => ?_
  refine k_sub (lv' := [(0, .ref (g_a g 83)), (1, .int v1)]) [0, 1] rfl ?_
  unfold f_Mo_goDays at h
  refine k_iconst C 0 d_Mo_goDays_0 ic_0 ?_
  refine k_istore_n C (lv' := [(2, .int 0), (0, .ref (g_a g 83)), (1, .int v1)]) d_Mo_goDays_1 rfl rfl ?_
  exact k_sub [1, 2, 0] rfl (t_Mo_goDays_2 C q v1 fu 0 m h)

def b_Mo_judge_97 (v3 : Int32) (m : MD) : Option (Int32 × MD) := (f_Mo_close m).bind fun p1 => (some (v3, p1.2))
theorem t_Mo_judge_97 {g : GC} {X : MX} (C : Cx g X c_Mo_judge 7 n_Mo 4) {r : Int32 × MD} {xx : XD} {oo : Nat → Int64} (q : RtI g X (some .int) r.1 (xx, r.2, oo)) (v3 : Int32) (m : MD) (h : b_Mo_judge_97 v3 m = some r) : Wk g X 7 97 [(0, .ref (g_a g 83)), (3, .int v3)] [] (xx, m, oo) := by
  unfold b_Mo_judge_97 at h
  refine k_aload_n C d_Mo_judge_97 0 rfl ?_
  obtain ⟨p1, ep1, h⟩ := bd_some h
  refine k_callVv C q_Mo_183 (fun l => m_Mo_close (cx_g C) l m xx oo p1 ep1) rfl rfl (rtI_c q) (by decide) sh_Mo rfl rfl rfl rfl d_Mo_judge_98 ?_
  refine k_iload_n C d_Mo_judge_101 1 rfl ?_
  obtain rfl := Option.some.inj h
  exact k_iret C q d_Mo_judge_102

def b_Mo_judge_85 (K27 : Int32 → Int32 → MD → Option (Int32 × MD)) (v1 : Int32) (v4 : Int32) (vt0 : Int32) (m : MD) : Option (Int32 × MD) := (f_Mo_dayBy 0 m).bind fun p1 => (K27 vt0 (v4 + 1) p1.2)
theorem t_Mo_judge_85 {g : GC} {X : MX} (C : Cx g X c_Mo_judge 7 n_Mo 4) {r : Int32 × MD} {xx : XD} {oo : Nat → Int64} (q : RtI g X (some .int) r.1 (xx, r.2, oo)) (v1 : Int32) (v4 : Int32) (vt0 : Int32) (K27 : Int32 → Int32 → MD → Option (Int32 × MD)) (hK27 : ∀ (v3 : Int32) (v4 : Int32) (m : MD), K27 v3 v4 m = some r → Wk g X 7 27 [(0, .ref (g_a g 83)), (1, .int v1), (3, .int v3), (4, .int v4)] [] (xx, m, oo)) (m : MD) (h : b_Mo_judge_85 K27 v1 v4 vt0 m = some r) : Wk g X 7 85 [(0, .ref (g_a g 83)), (1, .int v1), (4, .int v4)] [.int vt0] (xx, m, oo) := by
  unfold b_Mo_judge_85 at h
  refine k_istore_n C (lv' := [(3, .int vt0), (0, .ref (g_a g 83)), (1, .int v1), (4, .int v4)]) d_Mo_judge_85 rfl rfl ?_
  refine k_aload_n C d_Mo_judge_86 1 rfl ?_
  refine k_iconst C 0 d_Mo_judge_87 ic_0 ?_
  obtain ⟨p1, ep1, h⟩ := bd_some h
  refine k_callVv C q_Mo_104 (fun l => m_Mo_dayBy (cx_g C) l 0 m xx oo p1 ep1) rfl rfl (rtI_c q) (by decide) sh_Mo rfl rfl rfl rfl d_Mo_judge_88 ?_
  refine k_inc C (lv' := [(4, .int (v4 + 1)), (3, .int vt0), (0, .ref (g_a g 83)), (1, .int v1)]) d_Mo_judge_91 3 rfl ic_1 rfl rfl ?_
  refine k_goto C 27 d_Mo_judge_94 (by decide) ?_
  exact k_sub [2, 3, 1, 0] rfl (hK27 vt0 (v4 + 1) p1.2 h)

def b_Mo_judge_78 (K27 : Int32 → Int32 → MD → Option (Int32 × MD)) (v1 : Int32) (v4 : Int32) (m : MD) : Option (Int32 × MD) := b_Mo_judge_85 K27 v1 v4 (-4) m
theorem t_Mo_judge_78 {g : GC} {X : MX} (C : Cx g X c_Mo_judge 7 n_Mo 4) {r : Int32 × MD} {xx : XD} {oo : Nat → Int64} (q : RtI g X (some .int) r.1 (xx, r.2, oo)) (v1 : Int32) (v4 : Int32) (K27 : Int32 → Int32 → MD → Option (Int32 × MD)) (hK27 : ∀ (v3 : Int32) (v4 : Int32) (m : MD), K27 v3 v4 m = some r → Wk g X 7 27 [(0, .ref (g_a g 83)), (1, .int v1), (3, .int v3), (4, .int v4)] [] (xx, m, oo)) (m : MD) (h : b_Mo_judge_78 K27 v1 v4 m = some r) : Wk g X 7 78 [(0, .ref (g_a g 83)), (1, .int v1), (4, .int v4)] [] (xx, m, oo) := by
  unfold b_Mo_judge_78 at h
  refine k_bipush C (-4) d_Mo_judge_78 bp_m4 ?_
  refine k_goto C 85 d_Mo_judge_80 (by decide) ?_
  exact k_sub [0, 1, 2] rfl (t_Mo_judge_85 C q v1 v4 (-4) K27 hK27 m h)

def b_Mo_judge_27 (v1 : Int32) : Nat → Int32 → Int32 → MD → Option (Int32 × MD)
  | 0, _, _, _ => none
  | n + 1, v3, v4, m => gI v1 8 ((if m.1 93 v1.toNatClampNeg ≤ v4 then b_Mo_judge_97 v3 m else (if 0 ≤ v3 then b_Mo_judge_97 v3 m else gI ((100 * v1) + v4) 800 ((f_Mo_skipped v1 m).bind fun p5 => ((if lg_cmp (m.2.1 94 ((100 * v1) + v4).toNatClampNeg) p5.1 = 0 then b_Mo_judge_78 (b_Mo_judge_27 v1 n) v1 v4 p5.2 else (f_Mo_allLonging p5.2).bind fun p7 => ((if lg_cmp (m.2.1 94 ((100 * v1) + v4).toNatClampNeg) p7.1.toInt64 = 0 then b_Mo_judge_78 (b_Mo_judge_27 v1 n) v1 v4 p7.2 else b_Mo_judge_85 (b_Mo_judge_27 v1 n) v1 v4 v4 p7.2))))))))
theorem t_Mo_judge_27 {g : GC} {X : MX} (C : Cx g X c_Mo_judge 7 n_Mo 4) {r : Int32 × MD} {xx : XD} {oo : Nat → Int64} (q : RtI g X (some .int) r.1 (xx, r.2, oo)) (v1 : Int32) : ∀ (n : Nat) (v3 : Int32) (v4 : Int32) (m : MD) (h : b_Mo_judge_27 v1 n v3 v4 m = some r), Wk g X 7 27 [(0, .ref (g_a g 83)), (1, .int v1), (3, .int v3), (4, .int v4)] [] (xx, m, oo) := by
  intro n
  induction n with
  | zero =>
    intro v3 v4 m h
    rw [b_Mo_judge_27] at h
    cases h
  | succ n ih =>
    intro v3 v4 m h
    rw [b_Mo_judge_27] at h
    refine k_iload C d_Mo_judge_27 3 rfl ?_
    refine k_aload_n C d_Mo_judge_29 0 rfl ?_
    refine kg_Mo_37 C d_Mo_judge_30 ?_
    refine k_iload_n C d_Mo_judge_33 1 rfl ?_
    obtain ⟨i1, h⟩ := gI_some h
    refine k_ialdM C (by decide) (by decide) i1 d_Mo_judge_34 ?_
    refine k_icmp_ge C 97 d_Mo_judge_35 (by decide) (fun c2 => ?_) (fun c2 => ?_)
    · have h := (if_pos c2).symm.trans h
      exact k_sub [0, 2] rfl (t_Mo_judge_97 C q v3 m h)
    · have h := (if_neg c2).symm.trans h
      refine k_iload_n C d_Mo_judge_38 2 rfl ?_
      refine k_if_ge C 97 d_Mo_judge_39 (by decide) (fun c3 => ?_) (fun c3 => ?_)
      · have h := (if_pos c3).symm.trans h
        exact k_sub [0, 2] rfl (t_Mo_judge_97 C q v3 m h)
      · have h := (if_neg c3).symm.trans h
        refine k_aload_n C d_Mo_judge_42 0 rfl ?_
        refine kg_Mo_40 C d_Mo_judge_43 ?_
        refine k_bipush C 100 d_Mo_judge_46 bp_100 ?_
        refine k_iload_n C d_Mo_judge_48 1 rfl ?_
        refine k_imul C d_Mo_judge_49 ?_
        refine k_iload C d_Mo_judge_50 3 rfl ?_
        refine k_iadd C d_Mo_judge_52 ?_
        obtain ⟨i4, h⟩ := gI_some h
        refine k_lald94 C i4 d_Mo_judge_53 ?_
        refine k_lstore C (lv' := [(5, .long (m.2.1 94 ((100 * v1) + v4).toNatClampNeg)), (0, .ref (g_a g 83)), (1, .int v1), (3, .int v3), (4, .int v4)]) d_Mo_judge_54 rfl rfl ?_
        refine k_lload C d_Mo_judge_56 0 rfl ?_
        refine k_aload_n C d_Mo_judge_58 1 rfl ?_
        refine k_iload_n C d_Mo_judge_59 2 rfl ?_
        obtain ⟨p5, ep5, h⟩ := bd_some h
        refine k_callVl C q_Mo_251 (fun l => m_Mo_skipped (cx_g C) l v1 m xx oo p5 ep5) rfl rfl (rtI_c q) (by decide) sh_Mo rfl rfl rfl rfl d_Mo_judge_60 ?_
        refine k_lcmp C d_Mo_judge_63 ?_
        refine k_if_eq C 78 d_Mo_judge_64 (by decide) (fun c6 => ?_) (fun c6 => ?_)
        · have h := (if_pos c6).symm.trans h
          exact k_sub [1, 2, 4] rfl (t_Mo_judge_78 C q v1 v4 (b_Mo_judge_27 v1 n) ih p5.2 h)
        · have h := (if_neg c6).symm.trans h
          refine k_lload C d_Mo_judge_67 0 rfl ?_
          refine k_aload_n C d_Mo_judge_69 1 rfl ?_
          obtain ⟨p7, ep7, h⟩ := bd_some h
          refine k_callVi C q_Mo_212 (fun l => m_Mo_allLonging (cx_g C) l p5.2 xx oo p7 ep7) rfl rfl (rtI_c q) (by decide) sh_Mo rfl rfl rfl rfl d_Mo_judge_70 ?_
          refine k_i2l C d_Mo_judge_73 ?_
          refine k_lcmp C d_Mo_judge_74 ?_
          refine k_if_ne C 83 d_Mo_judge_75 (by decide) (fun c8 => ?_) (fun c8 => ?_)
          · have h := (if_neg c8).symm.trans h
            refine k_iload C d_Mo_judge_83 4 rfl ?_
            exact k_sub [1, 2, 4] rfl (t_Mo_judge_85 C q v1 v4 v4 (b_Mo_judge_27 v1 n) ih p7.2 h)
          · have h := (if_pos c8).symm.trans h
            exact k_sub [1, 2, 4] rfl (t_Mo_judge_78 C q v1 v4 (b_Mo_judge_27 v1 n) ih p7.2 h)

def f_Mo_judge (v1 : Int32) (m : MD) : Option (Int32 × MD) := lt ((x_up m.1 83 14 0, m.2)) fun (m1 : MD) => (f_Mo_wrongRow v1 m1).bind fun p2 => ((if 0 ≤ p2.1 then (f_Mo_open p2.2).bind fun p4 => (b_Mo_judge_27 v1 fu (-4) 0 p4.2) else some (p2.1, p2.2)))
theorem m_Mo_judge {g : GC} (hg : gOk g) (l : Launch)  (v1 : Int32) (m : MD) (xx : XD) (oo : Nat → Int64) (r : Int32 × MD) (h : f_Mo_judge v1 m = some r) : Mi g l y_Mo_judge c_Mo_judge 7 (some .int) 4 [.ref (g_a g 83), .int v1] (xx, m, oo) r.1 (xx, r.2, oo) := by
  refine m_i hg pn_Mo rfl fun X q C => ?_
  refine k_sub (lv' := [(0, .ref (g_a g 83)), (1, .int v1)]) [0, 1] rfl ?_
  unfold f_Mo_judge at h
  refine k_aload_n C d_Mo_judge_0 0 rfl ?_
  refine k_iconst C 0 d_Mo_judge_1 ic_0 ?_
  obtain ⟨m1, em1, h⟩ := lt_some h
  refine kp_Mo_71 C em1 d_Mo_judge_2 ?_
  refine k_aload_n C d_Mo_judge_5 0 rfl ?_
  refine k_iload_n C d_Mo_judge_6 1 rfl ?_
  obtain ⟨p2, ep2, h⟩ := bd_some h
  refine k_callVi C q_Mo_171 (fun l => m_Mo_wrongRow (cx_g C) l v1 m1 xx oo p2 ep2) rfl rfl (rtI_c q) (by decide) sh_Mo rfl rfl rfl rfl d_Mo_judge_7 ?_
  refine k_istore_n C (lv' := [(2, .int p2.1), (0, .ref (g_a g 83)), (1, .int v1)]) d_Mo_judge_10 rfl rfl ?_
  refine k_iload_n C d_Mo_judge_11 0 rfl ?_
  refine k_if_ge C 17 d_Mo_judge_12 (by decide) (fun c3 => ?_) (fun c3 => ?_)
  · have h := (if_pos c3).symm.trans h
    refine k_bipush C (-4) d_Mo_judge_17 bp_m4 ?_
    refine k_istore_n C (lv' := [(3, .int (-4)), (2, .int p2.1), (0, .ref (g_a g 83)), (1, .int v1)]) d_Mo_judge_19 rfl rfl ?_
    refine k_aload_n C d_Mo_judge_20 2 rfl ?_
    obtain ⟨p4, ep4, h⟩ := bd_some h
    refine k_callVv C q_Mo_177 (fun l => m_Mo_open (cx_g C) l p2.2 xx oo p4 ep4) rfl rfl (rtI_c q) (by decide) sh_Mo rfl rfl rfl rfl d_Mo_judge_21 ?_
    refine k_iconst C 0 d_Mo_judge_24 ic_0 ?_
    refine k_istore C (lv' := [(4, .int 0), (3, .int (-4)), (2, .int p2.1), (0, .ref (g_a g 83)), (1, .int v1)]) d_Mo_judge_25 rfl rfl ?_
    exact k_sub [3, 4, 1, 0] rfl (t_Mo_judge_27 C q v1 fu (-4) 0 p4.2 h)
  · have h := (if_neg c3).symm.trans h
    refine k_iload_n C d_Mo_judge_15 0 rfl ?_
    obtain rfl := Option.some.inj h
    exact k_iret C q d_Mo_judge_16

def b_Mo_rideOn_106 (v1 : Int32) (v3 : Int32) (v5 : Int32) (v7 : Int32) (m : MD) : Option (Unit × MD) := gI v1 7 (lt ((x_up m.1 87 v1.toNatClampNeg (v3 + (v5 * v7)), m.2)) fun (m1 : MD) => (f_Mo_dayBy 0 m1).bind fun p3 => (some ((), p3.2)))
theorem t_Mo_rideOn_106 {g : GC} {X : MX} (C : Cx g X c_Mo_rideOn 8 n_Mo 4) {r : Unit × MD} {xx : XD} {oo : Nat → Int64} (q : RtV g X none (xx, r.2, oo)) (v1 : Int32) (v3 : Int32) (v5 : Int32) (v7 : Int32) (m : MD) (h : b_Mo_rideOn_106 v1 v3 v5 v7 m = some r) : Wk g X 8 106 [(0, .ref (g_a g 83)), (1, .int v1), (3, .int v3), (5, .int v5), (7, .int v7)] [] (xx, m, oo) := by
  unfold b_Mo_rideOn_106 at h
  refine k_aload_n C d_Mo_rideOn_106 0 rfl ?_
  refine kg_Mo_19 C d_Mo_rideOn_107 ?_
  refine k_iload_n C d_Mo_rideOn_110 1 rfl ?_
  refine k_iload_n C d_Mo_rideOn_111 2 rfl ?_
  refine k_iload C d_Mo_rideOn_112 3 rfl ?_
  refine k_iload C d_Mo_rideOn_114 4 rfl ?_
  refine k_imul C d_Mo_rideOn_116 ?_
  refine k_iadd C d_Mo_rideOn_117 ?_
  obtain ⟨i2, h⟩ := gI_some h
  obtain ⟨m1, em1, h⟩ := lt_some h
  refine k_iastM C (by decide) (by decide) i2 em1 d_Mo_rideOn_118 ?_
  refine k_aload_n C d_Mo_rideOn_119 0 rfl ?_
  refine k_iconst C 0 d_Mo_rideOn_120 ic_0 ?_
  obtain ⟨p3, ep3, h⟩ := bd_some h
  refine k_callVv C q_Mo_104 (fun l => m_Mo_dayBy (cx_g C) l 0 m1 xx oo p3 ep3) rfl rfl (rtV_c q) (by decide) sh_Mo rfl rfl rfl rfl d_Mo_rideOn_121 ?_
  obtain rfl := Option.some.inj h
  exact k_vret C q d_Mo_rideOn_124

def b_Mo_rideOn_56 (v1 : Int32) (v2 : Int32) (v3 : Int32) (v4 : Int32) (v5 : Int32) (vt0 : Int32) (m : MD) : Option (Unit × MD) := (f_Mo_apart v3 v2 m).bind fun p1 => ((if vt0 = 0 then (f_Mo_walkOf v1 p1.2).bind fun p3 => ((f_Mo_least p1.1 p3.1 p3.2).bind fun p4 => (b_Mo_rideOn_106 v1 v3 v5 p4.1 p4.2)) else (f_Mo_paceOf v1 p1.2).bind fun p5 => ((f_Mo_apart v3 v4 p5.2).bind fun p6 => ((f_Mo_least p5.1 p6.1 p6.2).bind fun p7 => ((f_Mo_least p1.1 p7.1 p7.2).bind fun p8 => (b_Mo_rideOn_106 v1 v3 v5 p8.1 p8.2))))))
theorem t_Mo_rideOn_56 {g : GC} {X : MX} (C : Cx g X c_Mo_rideOn 8 n_Mo 4) {r : Unit × MD} {xx : XD} {oo : Nat → Int64} (q : RtV g X none (xx, r.2, oo)) (v1 : Int32) (v2 : Int32) (v3 : Int32) (v4 : Int32) (v5 : Int32) (vt0 : Int32) (m : MD) (h : b_Mo_rideOn_56 v1 v2 v3 v4 v5 vt0 m = some r) : Wk g X 8 56 [(0, .ref (g_a g 83)), (1, .int v1), (2, .int v2), (3, .int v3), (4, .int v4), (5, .int v5)] [.int vt0] (xx, m, oo) := by
  unfold b_Mo_rideOn_56 at h
  refine k_istore C (lv' := [(6, .int vt0), (0, .ref (g_a g 83)), (1, .int v1), (2, .int v2), (3, .int v3), (4, .int v4), (5, .int v5)]) d_Mo_rideOn_56 rfl rfl ?_
  refine k_iload_n C d_Mo_rideOn_58 4 rfl ?_
  refine k_iload_n C d_Mo_rideOn_59 3 rfl ?_
  obtain ⟨p1, ep1, h⟩ := bd_some h
  refine k_callSi C q_Mo_84 (fun l => m_Mo_apart (cx_g C) l v3 v2 m xx oo p1 ep1) rfl rfl (rtV_c q) rfl rfl rfl d_Mo_rideOn_60 ?_
  refine k_istore C (lv' := [(7, .int p1.1), (6, .int vt0), (0, .ref (g_a g 83)), (1, .int v1), (2, .int v2), (3, .int v3), (4, .int v4), (5, .int v5)]) d_Mo_rideOn_63 rfl rfl ?_
  refine k_iload C d_Mo_rideOn_65 1 rfl ?_
  refine k_if_eq C 94 d_Mo_rideOn_67 (by decide) (fun c2 => ?_) (fun c2 => ?_)
  · have h := (if_pos c2).symm.trans h
    refine k_iload C d_Mo_rideOn_94 0 rfl ?_
    refine k_aload_n C d_Mo_rideOn_96 2 rfl ?_
    refine k_iload_n C d_Mo_rideOn_97 3 rfl ?_
    obtain ⟨p3, ep3, h⟩ := bd_some h
    refine k_callVi C q_Mo_111 (fun l => m_Mo_walkOf (cx_g C) l v1 p1.2 xx oo p3 ep3) rfl rfl (rtV_c q) (by decide) sh_Mo rfl rfl rfl rfl d_Mo_rideOn_98 ?_
    obtain ⟨p4, ep4, h⟩ := bd_some h
    refine k_callSi C q_Mo_101 (fun l => m_Mo_least (cx_g C) l p1.1 p3.1 p3.2 xx oo p4 ep4) rfl rfl (rtV_c q) rfl rfl rfl d_Mo_rideOn_101 ?_
    refine k_istore C (lv' := [(7, .int p4.1), (6, .int vt0), (0, .ref (g_a g 83)), (1, .int v1), (2, .int v2), (3, .int v3), (4, .int v4), (5, .int v5)]) d_Mo_rideOn_104 rfl rfl ?_
    exact k_sub [2, 3, 5, 7, 0] rfl (t_Mo_rideOn_106 C q v1 v3 v5 p4.1 p4.2 h)
  · have h := (if_neg c2).symm.trans h
    refine k_iload C d_Mo_rideOn_70 0 rfl ?_
    refine k_aload_n C d_Mo_rideOn_72 2 rfl ?_
    refine k_iload_n C d_Mo_rideOn_73 3 rfl ?_
    obtain ⟨p5, ep5, h⟩ := bd_some h
    refine k_callVi C q_Mo_108 (fun l => m_Mo_paceOf (cx_g C) l v1 p1.2 xx oo p5 ep5) rfl rfl (rtV_c q) (by decide) sh_Mo rfl rfl rfl rfl d_Mo_rideOn_74 ?_
    refine k_iload_n C d_Mo_rideOn_77 5 rfl ?_
    refine k_iload C d_Mo_rideOn_78 6 rfl ?_
    obtain ⟨p6, ep6, h⟩ := bd_some h
    refine k_callSi C q_Mo_84 (fun l => m_Mo_apart (cx_g C) l v3 v4 p5.2 xx oo p6 ep6) rfl rfl (rtV_c q) rfl rfl rfl d_Mo_rideOn_80 ?_
    obtain ⟨p7, ep7, h⟩ := bd_some h
    refine k_callSi C q_Mo_101 (fun l => m_Mo_least (cx_g C) l p5.1 p6.1 p6.2 xx oo p7 ep7) rfl rfl (rtV_c q) rfl rfl rfl d_Mo_rideOn_83 ?_
    obtain ⟨p8, ep8, h⟩ := bd_some h
    refine k_callSi C q_Mo_101 (fun l => m_Mo_least (cx_g C) l p1.1 p7.1 p7.2 xx oo p8 ep8) rfl rfl (rtV_c q) rfl rfl rfl d_Mo_rideOn_86 ?_
    refine k_istore C (lv' := [(7, .int p8.1), (6, .int vt0), (0, .ref (g_a g 83)), (1, .int v1), (2, .int v2), (3, .int v3), (4, .int v4), (5, .int v5)]) d_Mo_rideOn_89 rfl rfl ?_
    refine k_goto C 106 d_Mo_rideOn_91 (by decide) ?_
    exact k_sub [2, 3, 5, 7, 0] rfl (t_Mo_rideOn_106 C q v1 v3 v5 p8.1 p8.2 h)

def b_Mo_rideOn_24 (v1 : Int32) (v2 : Int32) (v3 : Int32) (v4 : Int32) (vt0 : Int32) (m : MD) : Option (Unit × MD) := (if vt0 ≤ 0 then (if v3 ≤ v4 then b_Mo_rideOn_56 v1 v2 v3 v4 vt0 0 m else b_Mo_rideOn_56 v1 v2 v3 v4 vt0 1 m) else (if v4 ≤ v3 then b_Mo_rideOn_56 v1 v2 v3 v4 vt0 0 m else b_Mo_rideOn_56 v1 v2 v3 v4 vt0 1 m))
theorem t_Mo_rideOn_24 {g : GC} {X : MX} (C : Cx g X c_Mo_rideOn 8 n_Mo 4) {r : Unit × MD} {xx : XD} {oo : Nat → Int64} (q : RtV g X none (xx, r.2, oo)) (v1 : Int32) (v2 : Int32) (v3 : Int32) (v4 : Int32) (vt0 : Int32) (m : MD) (h : b_Mo_rideOn_24 v1 v2 v3 v4 vt0 m = some r) : Wk g X 8 24 [(0, .ref (g_a g 83)), (1, .int v1), (2, .int v2), (3, .int v3), (4, .int v4)] [.int vt0] (xx, m, oo) := by
  unfold b_Mo_rideOn_24 at h
  refine k_istore C (lv' := [(5, .int vt0), (0, .ref (g_a g 83)), (1, .int v1), (2, .int v2), (3, .int v3), (4, .int v4)]) d_Mo_rideOn_24 rfl rfl ?_
  refine k_iload C d_Mo_rideOn_26 0 rfl ?_
  refine k_if_le C 45 d_Mo_rideOn_28 (by decide) (fun c1 => ?_) (fun c1 => ?_)
  · have h := (if_pos c1).symm.trans h
    refine k_iload C d_Mo_rideOn_45 5 rfl ?_
    refine k_iload_n C d_Mo_rideOn_47 4 rfl ?_
    refine k_icmp_ge C 55 d_Mo_rideOn_48 (by decide) (fun c2 => ?_) (fun c2 => ?_)
    · have h := (if_pos c2).symm.trans h
      refine k_iconst C 0 d_Mo_rideOn_55 ic_0 ?_
      exact k_sub [1, 2, 3, 4, 5, 0] rfl (t_Mo_rideOn_56 C q v1 v2 v3 v4 vt0 0 m h)
    · have h := (if_neg c2).symm.trans h
      refine k_iconst C 1 d_Mo_rideOn_51 ic_1 ?_
      refine k_goto C 56 d_Mo_rideOn_52 (by decide) ?_
      exact k_sub [1, 2, 3, 4, 5, 0] rfl (t_Mo_rideOn_56 C q v1 v2 v3 v4 vt0 1 m h)
  · have h := (if_neg c1).symm.trans h
    refine k_iload C d_Mo_rideOn_31 5 rfl ?_
    refine k_iload_n C d_Mo_rideOn_33 4 rfl ?_
    refine k_icmp_le C 41 d_Mo_rideOn_34 (by decide) (fun c3 => ?_) (fun c3 => ?_)
    · have h := (if_pos c3).symm.trans h
      refine k_iconst C 0 d_Mo_rideOn_41 ic_0 ?_
      refine k_goto C 56 d_Mo_rideOn_42 (by decide) ?_
      exact k_sub [1, 2, 3, 4, 5, 0] rfl (t_Mo_rideOn_56 C q v1 v2 v3 v4 vt0 0 m h)
    · have h := (if_neg c3).symm.trans h
      refine k_iconst C 1 d_Mo_rideOn_37 ic_1 ?_
      refine k_goto C 56 d_Mo_rideOn_38 (by decide) ?_
      exact k_sub [1, 2, 3, 4, 5, 0] rfl (t_Mo_rideOn_56 C q v1 v2 v3 v4 vt0 1 m h)

def f_Mo_rideOn (v1 : Int32) (v2 : Int32) (m : MD) : Option (Unit × MD) := gI v1 7 ((f_Mo_goalOf v1 m).bind fun p2 => ((if v2 ≤ m.1 87 v1.toNatClampNeg then b_Mo_rideOn_24 v1 v2 (m.1 87 v1.toNatClampNeg) p2.1 (-1) p2.2 else b_Mo_rideOn_24 v1 v2 (m.1 87 v1.toNatClampNeg) p2.1 1 p2.2)))
theorem m_Mo_rideOn {g : GC} (hg : gOk g) (l : Launch)  (v1 : Int32) (v2 : Int32) (m : MD) (xx : XD) (oo : Nat → Int64) (r : Unit × MD) (h : f_Mo_rideOn v1 v2 m = some r) : Mv g l y_Mo_rideOn c_Mo_rideOn 8 none 4 [.ref (g_a g 83), .int v1, .int v2] (xx, m, oo) (xx, r.2, oo) := by
  refine m_v hg pn_Mo rfl fun X q C => ?_
  refine k_sub (lv' := [(0, .ref (g_a g 83)), (1, .int v1), (2, .int v2)]) [0, 1, 2] rfl ?_
  unfold f_Mo_rideOn at h
  refine k_aload_n C d_Mo_rideOn_0 0 rfl ?_
  refine kg_Mo_19 C d_Mo_rideOn_1 ?_
  refine k_iload_n C d_Mo_rideOn_4 1 rfl ?_
  obtain ⟨i1, h⟩ := gI_some h
  refine k_ialdM C (by decide) (by decide) i1 d_Mo_rideOn_5 ?_
  refine k_istore_n C (lv' := [(3, .int (m.1 87 v1.toNatClampNeg)), (0, .ref (g_a g 83)), (1, .int v1), (2, .int v2)]) d_Mo_rideOn_6 rfl rfl ?_
  refine k_aload_n C d_Mo_rideOn_7 1 rfl ?_
  refine k_iload_n C d_Mo_rideOn_8 2 rfl ?_
  obtain ⟨p2, ep2, h⟩ := bd_some h
  refine k_callVi C q_Mo_91 (fun l => m_Mo_goalOf (cx_g C) l v1 m xx oo p2 ep2) rfl rfl (rtV_c q) (by decide) sh_Mo rfl rfl rfl rfl d_Mo_rideOn_9 ?_
  refine k_istore C (lv' := [(4, .int p2.1), (3, .int (m.1 87 v1.toNatClampNeg)), (0, .ref (g_a g 83)), (1, .int v1), (2, .int v2)]) d_Mo_rideOn_12 rfl rfl ?_
  refine k_iload_n C d_Mo_rideOn_14 4 rfl ?_
  refine k_iload_n C d_Mo_rideOn_15 1 rfl ?_
  refine k_icmp_le C 23 d_Mo_rideOn_16 (by decide) (fun c3 => ?_) (fun c3 => ?_)
  · have h := (if_pos c3).symm.trans h
    refine k_iconst C (-1) d_Mo_rideOn_23 ic_m1 ?_
    exact k_sub [2, 3, 4, 1, 0] rfl (t_Mo_rideOn_24 C q v1 v2 (m.1 87 v1.toNatClampNeg) p2.1 (-1) p2.2 h)
  · have h := (if_neg c3).symm.trans h
    refine k_iconst C 1 d_Mo_rideOn_19 ic_1 ?_
    refine k_goto C 24 d_Mo_rideOn_20 (by decide) ?_
    exact k_sub [2, 3, 4, 1, 0] rfl (t_Mo_rideOn_24 C q v1 v2 (m.1 87 v1.toNatClampNeg) p2.1 1 p2.2 h)

def b_Mo_ripe_76 (v3 : Int32) (m : MD) : Option (Int32 × MD) := (f_Mo_close m).bind fun p1 => (some (v3, p1.2))
theorem t_Mo_ripe_76 {g : GC} {X : MX} (C : Cx g X c_Mo_ripe 5 n_Mo 4) {r : Int32 × MD} {xx : XD} {oo : Nat → Int64} (q : RtI g X (some .int) r.1 (xx, r.2, oo)) (v3 : Int32) (m : MD) (h : b_Mo_ripe_76 v3 m = some r) : Wk g X 5 76 [(0, .ref (g_a g 83)), (3, .int v3)] [] (xx, m, oo) := by
  unfold b_Mo_ripe_76 at h
  refine k_aload_n C d_Mo_ripe_76 0 rfl ?_
  obtain ⟨p1, ep1, h⟩ := bd_some h
  refine k_callVv C q_Mo_183 (fun l => m_Mo_close (cx_g C) l m xx oo p1 ep1) rfl rfl (rtI_c q) (by decide) sh_Mo rfl rfl rfl rfl d_Mo_ripe_77 ?_
  refine k_iload_n C d_Mo_ripe_80 1 rfl ?_
  obtain rfl := Option.some.inj h
  exact k_iret C q d_Mo_ripe_81

def b_Mo_ripe_64 (K37 : Int32 → Int32 → MD → Option (Int32 × MD)) (v1 : Int32) (v2 : Int32) (v4 : Int32) (vt0 : Int32) (m : MD) : Option (Int32 × MD) := (f_Mo_dayBy 0 m).bind fun p1 => (K37 vt0 (v4 + 1) p1.2)
theorem t_Mo_ripe_64 {g : GC} {X : MX} (C : Cx g X c_Mo_ripe 5 n_Mo 4) {r : Int32 × MD} {xx : XD} {oo : Nat → Int64} (q : RtI g X (some .int) r.1 (xx, r.2, oo)) (v1 : Int32) (v2 : Int32) (v4 : Int32) (vt0 : Int32) (K37 : Int32 → Int32 → MD → Option (Int32 × MD)) (hK37 : ∀ (v3 : Int32) (v4 : Int32) (m : MD), K37 v3 v4 m = some r → Wk g X 5 37 [(0, .ref (g_a g 83)), (1, .int v1), (2, .int v2), (3, .int v3), (4, .int v4)] [] (xx, m, oo)) (m : MD) (h : b_Mo_ripe_64 K37 v1 v2 v4 vt0 m = some r) : Wk g X 5 64 [(0, .ref (g_a g 83)), (1, .int v1), (2, .int v2), (4, .int v4)] [.int vt0] (xx, m, oo) := by
  unfold b_Mo_ripe_64 at h
  refine k_istore_n C (lv' := [(3, .int vt0), (0, .ref (g_a g 83)), (1, .int v1), (2, .int v2), (4, .int v4)]) d_Mo_ripe_64 rfl rfl ?_
  refine k_aload_n C d_Mo_ripe_65 1 rfl ?_
  refine k_iconst C 0 d_Mo_ripe_66 ic_0 ?_
  obtain ⟨p1, ep1, h⟩ := bd_some h
  refine k_callVv C q_Mo_104 (fun l => m_Mo_dayBy (cx_g C) l 0 m xx oo p1 ep1) rfl rfl (rtI_c q) (by decide) sh_Mo rfl rfl rfl rfl d_Mo_ripe_67 ?_
  refine k_inc C (lv' := [(4, .int (v4 + 1)), (3, .int vt0), (0, .ref (g_a g 83)), (1, .int v1), (2, .int v2)]) d_Mo_ripe_70 4 rfl ic_1 rfl rfl ?_
  refine k_goto C 37 d_Mo_ripe_73 (by decide) ?_
  exact k_sub [2, 3, 4, 1, 0] rfl (hK37 vt0 (v4 + 1) p1.2 h)

def b_Mo_ripe_37 (v1 : Int32) (v2 : Int32) : Nat → Int32 → Int32 → MD → Option (Int32 × MD)
  | 0, _, _, _ => none
  | n + 1, v3, v4, m => (if 60 < v4 then b_Mo_ripe_76 v3 m else (if 0 ≤ v3 then b_Mo_ripe_76 v3 m else (f_Mo_paceOf v1 m).bind fun p3 => ((if p3.1 < v2 then b_Mo_ripe_64 (b_Mo_ripe_37 v1 v2 n) v1 v2 v4 (-4) p3.2 else b_Mo_ripe_64 (b_Mo_ripe_37 v1 v2 n) v1 v2 v4 v4 p3.2))))
theorem t_Mo_ripe_37 {g : GC} {X : MX} (C : Cx g X c_Mo_ripe 5 n_Mo 4) {r : Int32 × MD} {xx : XD} {oo : Nat → Int64} (q : RtI g X (some .int) r.1 (xx, r.2, oo)) (v1 : Int32) (v2 : Int32) : ∀ (n : Nat) (v3 : Int32) (v4 : Int32) (m : MD) (h : b_Mo_ripe_37 v1 v2 n v3 v4 m = some r), Wk g X 5 37 [(0, .ref (g_a g 83)), (1, .int v1), (2, .int v2), (3, .int v3), (4, .int v4)] [] (xx, m, oo) := by
  intro n
  induction n with
  | zero =>
    intro v3 v4 m h
    rw [b_Mo_ripe_37] at h
    cases h
  | succ n ih =>
    intro v3 v4 m h
    rw [b_Mo_ripe_37] at h
    refine k_iload C d_Mo_ripe_37 4 rfl ?_
    refine k_bipush C 60 d_Mo_ripe_39 bp_60 ?_
    refine k_icmp_gt C 76 d_Mo_ripe_41 (by decide) (fun c1 => ?_) (fun c1 => ?_)
    · have h := (if_pos c1).symm.trans h
      exact k_sub [0, 3] rfl (t_Mo_ripe_76 C q v3 m h)
    · have h := (if_neg c1).symm.trans h
      refine k_iload_n C d_Mo_ripe_44 3 rfl ?_
      refine k_if_ge C 76 d_Mo_ripe_45 (by decide) (fun c2 => ?_) (fun c2 => ?_)
      · have h := (if_pos c2).symm.trans h
        exact k_sub [0, 3] rfl (t_Mo_ripe_76 C q v3 m h)
      · have h := (if_neg c2).symm.trans h
        refine k_aload_n C d_Mo_ripe_48 0 rfl ?_
        refine k_iload_n C d_Mo_ripe_49 1 rfl ?_
        obtain ⟨p3, ep3, h⟩ := bd_some h
        refine k_callVi C q_Mo_108 (fun l => m_Mo_paceOf (cx_g C) l v1 m xx oo p3 ep3) rfl rfl (rtI_c q) (by decide) sh_Mo rfl rfl rfl rfl d_Mo_ripe_50 ?_
        refine k_iload_n C d_Mo_ripe_53 2 rfl ?_
        refine k_icmp_lt C 62 d_Mo_ripe_54 (by decide) (fun c4 => ?_) (fun c4 => ?_)
        · have h := (if_pos c4).symm.trans h
          refine k_bipush C (-4) d_Mo_ripe_62 bp_m4 ?_
          exact k_sub [0, 1, 2, 4] rfl (t_Mo_ripe_64 C q v1 v2 v4 (-4) (b_Mo_ripe_37 v1 v2 n) ih p3.2 h)
        · have h := (if_neg c4).symm.trans h
          refine k_iload C d_Mo_ripe_57 4 rfl ?_
          refine k_goto C 64 d_Mo_ripe_59 (by decide) ?_
          exact k_sub [0, 1, 2, 4] rfl (t_Mo_ripe_64 C q v1 v2 v4 v4 (b_Mo_ripe_37 v1 v2 n) ih p3.2 h)

def f_Mo_ripe (v1 : Int32) (v2 : Int32) (m : MD) : Option (Int32 × MD) := lt ((x_up m.1 83 14 0, m.2)) fun (m1 : MD) => (f_Mo_isHorse v1 m1).bind fun p2 => ((if p2.1 = 0 then some ((-1), p2.2) else (f_Mo_in v2.toInt64 1 60 p2.2).bind fun p4 => ((if p4.1 = 0 then some ((-1), p4.2) else (f_Mo_open p4.2).bind fun p6 => (b_Mo_ripe_37 v1 v2 fu (-4) 0 p6.2)))))
theorem m_Mo_ripe {g : GC} (hg : gOk g) (l : Launch)  (v1 : Int32) (v2 : Int32) (m : MD) (xx : XD) (oo : Nat → Int64) (r : Int32 × MD) (h : f_Mo_ripe v1 v2 m = some r) : Mi g l y_Mo_ripe c_Mo_ripe 5 (some .int) 4 [.ref (g_a g 83), .int v1, .int v2] (xx, m, oo) r.1 (xx, r.2, oo) := by
  refine m_i hg pn_Mo rfl fun X q C => ?_
  refine k_sub (lv' := [(0, .ref (g_a g 83)), (1, .int v1), (2, .int v2)]) [0, 1, 2] rfl ?_
  unfold f_Mo_ripe at h
  refine k_aload_n C d_Mo_ripe_0 0 rfl ?_
  refine k_iconst C 0 d_Mo_ripe_1 ic_0 ?_
  obtain ⟨m1, em1, h⟩ := lt_some h
  refine kp_Mo_71 C em1 d_Mo_ripe_2 ?_
  refine k_aload_n C d_Mo_ripe_5 0 rfl ?_
  refine k_iload_n C d_Mo_ripe_6 1 rfl ?_
  obtain ⟨p2, ep2, h⟩ := bd_some h
  refine k_callVi C q_Mo_162 (fun l => m_Mo_isHorse (cx_g C) l v1 m1 xx oo p2 ep2) rfl rfl (rtI_c q) (by decide) sh_Mo rfl rfl rfl rfl d_Mo_ripe_7 ?_
  refine k_if_eq C 25 d_Mo_ripe_10 (by decide) (fun c3 => ?_) (fun c3 => ?_)
  · have h := (if_pos c3).symm.trans h
    refine k_iconst C (-1) d_Mo_ripe_25 ic_m1 ?_
    obtain rfl := Option.some.inj h
    exact k_iret C q d_Mo_ripe_26
  · have h := (if_neg c3).symm.trans h
    refine k_iload_n C d_Mo_ripe_13 2 rfl ?_
    refine k_i2l C d_Mo_ripe_14 ?_
    refine k_lconst C 1 d_Mo_ripe_15 rfl ?_
    refine k_ldc2 C 60 l_1154 d_Mo_ripe_16 ?_
    obtain ⟨p4, ep4, h⟩ := bd_some h
    refine k_callSi C q_Mo_77 (fun l => m_Mo_in (cx_g C) l v2.toInt64 1 60 p2.2 xx oo p4 ep4) rfl rfl (rtI_c q) rfl rfl rfl d_Mo_ripe_19 ?_
    refine k_if_ne C 27 d_Mo_ripe_22 (by decide) (fun c5 => ?_) (fun c5 => ?_)
    · have h := (if_neg c5).symm.trans h
      refine k_bipush C (-4) d_Mo_ripe_27 bp_m4 ?_
      refine k_istore_n C (lv' := [(3, .int (-4)), (0, .ref (g_a g 83)), (1, .int v1), (2, .int v2)]) d_Mo_ripe_29 rfl rfl ?_
      refine k_aload_n C d_Mo_ripe_30 1 rfl ?_
      obtain ⟨p6, ep6, h⟩ := bd_some h
      refine k_callVv C q_Mo_177 (fun l => m_Mo_open (cx_g C) l p4.2 xx oo p6 ep6) rfl rfl (rtI_c q) (by decide) sh_Mo rfl rfl rfl rfl d_Mo_ripe_31 ?_
      refine k_iconst C 0 d_Mo_ripe_34 ic_0 ?_
      refine k_istore C (lv' := [(4, .int 0), (3, .int (-4)), (0, .ref (g_a g 83)), (1, .int v1), (2, .int v2)]) d_Mo_ripe_35 rfl rfl ?_
      exact k_sub [2, 3, 4, 1, 0] rfl (t_Mo_ripe_37 C q v1 v2 fu (-4) 0 p6.2 h)
    · have h := (if_pos c5).symm.trans h
      refine k_iconst C (-1) d_Mo_ripe_25 ic_m1 ?_
      obtain rfl := Option.some.inj h
      exact k_iret C q d_Mo_ripe_26

def b_Mo_storm_181 (K103 : Int64 → Int32 → MD → Option (Int64 × MD)) (v1 : Int32) (v2 : Int32) (v3 : Int32) (v4 : Int32) (v5 : Int32) (v8 : Int64) (v10 : Int32) (vt0 : Int64) (vt1 : Int64) (m : MD) : Option (Int64 × MD) := (f_Mo_close m).bind fun p1 => (K103 (vt0 + vt1) (v10 + 1) p1.2)
theorem t_Mo_storm_181 {g : GC} {X : MX} (C : Cx g X c_Mo_storm 14 n_Mo 4) {r : Int64 × MD} {xx : XD} {oo : Nat → Int64} (q : RtL g X (some .long) r.1 (xx, r.2, oo)) (v1 : Int32) (v2 : Int32) (v3 : Int32) (v4 : Int32) (v5 : Int32) (v8 : Int64) (v10 : Int32) (vt0 : Int64) (vt1 : Int64) (K103 : Int64 → Int32 → MD → Option (Int64 × MD)) (hK103 : ∀ (v6 : Int64) (v10 : Int32) (m : MD), K103 v6 v10 m = some r → Wk g X 14 103 [(0, .ref (g_a g 83)), (1, .int v1), (2, .int v2), (3, .int v3), (4, .int v4), (5, .int v5), (6, .long v6), (8, .long v8), (10, .int v10)] [] (xx, m, oo)) (m : MD) (h : b_Mo_storm_181 K103 v1 v2 v3 v4 v5 v8 v10 vt0 vt1 m = some r) : Wk g X 14 181 [(0, .ref (g_a g 83)), (1, .int v1), (2, .int v2), (3, .int v3), (4, .int v4), (5, .int v5), (8, .long v8), (10, .int v10)] [.long vt1, .long vt0] (xx, m, oo) := by
  unfold b_Mo_storm_181 at h
  refine k_ladd C d_Mo_storm_181 ?_
  refine k_lstore C (lv' := [(6, .long (vt0 + vt1)), (0, .ref (g_a g 83)), (1, .int v1), (2, .int v2), (3, .int v3), (4, .int v4), (5, .int v5), (8, .long v8), (10, .int v10)]) d_Mo_storm_182 rfl rfl ?_
  refine k_aload_n C d_Mo_storm_184 1 rfl ?_
  obtain ⟨p1, ep1, h⟩ := bd_some h
  refine k_callVv C q_Mo_183 (fun l => m_Mo_close (cx_g C) l m xx oo p1 ep1) rfl rfl (rtL_c q) (by decide) sh_Mo rfl rfl rfl rfl d_Mo_storm_185 ?_
  refine k_inc C (lv' := [(10, .int (v10 + 1)), (6, .long (vt0 + vt1)), (0, .ref (g_a g 83)), (1, .int v1), (2, .int v2), (3, .int v3), (4, .int v4), (5, .int v5), (8, .long v8)]) d_Mo_storm_188 8 rfl ic_1 rfl rfl ?_
  refine k_goto C 103 d_Mo_storm_191 (by decide) ?_
  exact k_sub [2, 3, 4, 5, 6, 7, 1, 8, 0] rfl (hK103 (vt0 + vt1) (v10 + 1) p1.2 h)

def b_Mo_storm_144 (K103 : Int64 → Int32 → MD → Option (Int64 × MD)) (K117 : Int64 → Int32 → MD → Option (Int64 × MD)) (v1 : Int32) (v2 : Int32) (v3 : Int32) (v4 : Int32) (v5 : Int32) (v6 : Int64) (v8 : Int64) (v10 : Int32) (v13 : Int32) (vt0 : Int64) (vt1 : Int64) (m : MD) : Option (Int64 × MD) := (f_Mo_hasBit v10 v13 m).bind fun p1 => ((f_Mo_dayBy p1.1 p1.2).bind fun p2 => (K117 (vt0 * vt1) (v13 + 1) p2.2))
theorem t_Mo_storm_144 {g : GC} {X : MX} (C : Cx g X c_Mo_storm 14 n_Mo 4) {r : Int64 × MD} {xx : XD} {oo : Nat → Int64} (q : RtL g X (some .long) r.1 (xx, r.2, oo)) (v1 : Int32) (v2 : Int32) (v3 : Int32) (v4 : Int32) (v5 : Int32) (v6 : Int64) (v8 : Int64) (v10 : Int32) (v13 : Int32) (vt0 : Int64) (vt1 : Int64) (K103 : Int64 → Int32 → MD → Option (Int64 × MD)) (hK103 : ∀ (v6 : Int64) (v10 : Int32) (m : MD), K103 v6 v10 m = some r → Wk g X 14 103 [(0, .ref (g_a g 83)), (1, .int v1), (2, .int v2), (3, .int v3), (4, .int v4), (5, .int v5), (6, .long v6), (8, .long v8), (10, .int v10)] [] (xx, m, oo)) (K117 : Int64 → Int32 → MD → Option (Int64 × MD)) (hK117 : ∀ (v11 : Int64) (v13 : Int32) (m : MD), K117 v11 v13 m = some r → Wk g X 14 117 [(0, .ref (g_a g 83)), (1, .int v1), (2, .int v2), (3, .int v3), (4, .int v4), (5, .int v5), (6, .long v6), (8, .long v8), (10, .int v10), (11, .long v11), (13, .int v13)] [] (xx, m, oo)) (m : MD) (h : b_Mo_storm_144 K103 K117 v1 v2 v3 v4 v5 v6 v8 v10 v13 vt0 vt1 m = some r) : Wk g X 14 144 [(0, .ref (g_a g 83)), (1, .int v1), (2, .int v2), (3, .int v3), (4, .int v4), (5, .int v5), (6, .long v6), (8, .long v8), (10, .int v10), (13, .int v13)] [.long vt1, .long vt0] (xx, m, oo) := by
  unfold b_Mo_storm_144 at h
  refine k_lmul C d_Mo_storm_144 ?_
  refine k_lstore C (lv' := [(11, .long (vt0 * vt1)), (0, .ref (g_a g 83)), (1, .int v1), (2, .int v2), (3, .int v3), (4, .int v4), (5, .int v5), (6, .long v6), (8, .long v8), (10, .int v10), (13, .int v13)]) d_Mo_storm_145 rfl rfl ?_
  refine k_aload_n C d_Mo_storm_147 1 rfl ?_
  refine k_iload C d_Mo_storm_148 9 rfl ?_
  refine k_iload C d_Mo_storm_150 10 rfl ?_
  obtain ⟨p1, ep1, h⟩ := bd_some h
  refine k_callSi C q_Mo_274 (fun l => m_Mo_hasBit (cx_g C) l v10 v13 m xx oo p1 ep1) rfl rfl (rtL_c q) rfl rfl rfl d_Mo_storm_152 ?_
  obtain ⟨p2, ep2, h⟩ := bd_some h
  refine k_callVv C q_Mo_104 (fun l => m_Mo_dayBy (cx_g C) l p1.1 p1.2 xx oo p2 ep2) rfl rfl (rtL_c q) (by decide) sh_Mo rfl rfl rfl rfl d_Mo_storm_155 ?_
  refine k_inc C (lv' := [(13, .int (v13 + 1)), (11, .long (vt0 * vt1)), (0, .ref (g_a g 83)), (1, .int v1), (2, .int v2), (3, .int v3), (4, .int v4), (5, .int v5), (6, .long v6), (8, .long v8), (10, .int v10)]) d_Mo_storm_158 10 rfl ic_1 rfl rfl ?_
  refine k_goto C 117 d_Mo_storm_161 (by decide) ?_
  exact k_sub [2, 3, 4, 5, 6, 7, 8, 9, 10, 1, 0] rfl (hK117 (vt0 * vt1) (v13 + 1) p2.2 h)

def b_Mo_storm_117 (K103 : Int64 → Int32 → MD → Option (Int64 × MD)) (v1 : Int32) (v2 : Int32) (v3 : Int32) (v4 : Int32) (v5 : Int32) (v6 : Int64) (v8 : Int64) (v10 : Int32) : Nat → Int64 → Int32 → MD → Option (Int64 × MD)
  | 0, _, _, _ => none
  | n + 1, v11, v13, m => (if v3 ≤ v13 then (f_Mo_paceOf v1 m).bind fun p2 => ((if p2.1 < v2 then b_Mo_storm_181 K103 v1 v2 v3 v4 v5 v8 v10 v6 0 p2.2 else b_Mo_storm_181 K103 v1 v2 v3 v4 v5 v8 v10 v6 v11 p2.2)) else (f_Mo_hasBit v10 v13 m).bind fun p4 => ((if p4.1 = 0 then b_Mo_storm_144 K103 (b_Mo_storm_117 K103 v1 v2 v3 v4 v5 v6 v8 v10 n) v1 v2 v3 v4 v5 v6 v8 v10 v13 v11 ((v4 - 1).toInt64) p4.2 else b_Mo_storm_144 K103 (b_Mo_storm_117 K103 v1 v2 v3 v4 v5 v6 v8 v10 n) v1 v2 v3 v4 v5 v6 v8 v10 v13 v11 1 p4.2)))
theorem t_Mo_storm_117 {g : GC} {X : MX} (C : Cx g X c_Mo_storm 14 n_Mo 4) {r : Int64 × MD} {xx : XD} {oo : Nat → Int64} (q : RtL g X (some .long) r.1 (xx, r.2, oo)) (v1 : Int32) (v2 : Int32) (v3 : Int32) (v4 : Int32) (v5 : Int32) (v6 : Int64) (v8 : Int64) (v10 : Int32) (K103 : Int64 → Int32 → MD → Option (Int64 × MD)) (hK103 : ∀ (v6 : Int64) (v10 : Int32) (m : MD), K103 v6 v10 m = some r → Wk g X 14 103 [(0, .ref (g_a g 83)), (1, .int v1), (2, .int v2), (3, .int v3), (4, .int v4), (5, .int v5), (6, .long v6), (8, .long v8), (10, .int v10)] [] (xx, m, oo)) : ∀ (n : Nat) (v11 : Int64) (v13 : Int32) (m : MD) (h : b_Mo_storm_117 K103 v1 v2 v3 v4 v5 v6 v8 v10 n v11 v13 m = some r), Wk g X 14 117 [(0, .ref (g_a g 83)), (1, .int v1), (2, .int v2), (3, .int v3), (4, .int v4), (5, .int v5), (6, .long v6), (8, .long v8), (10, .int v10), (11, .long v11), (13, .int v13)] [] (xx, m, oo) := by
  intro n
  induction n with
  | zero =>
    intro v11 v13 m h
    rw [b_Mo_storm_117] at h
    cases h
  | succ n ih =>
    intro v11 v13 m h
    rw [b_Mo_storm_117] at h
    refine k_iload C d_Mo_storm_117 10 rfl ?_
    refine k_iload_n C d_Mo_storm_119 3 rfl ?_
    refine k_icmp_ge C 164 d_Mo_storm_120 (by decide) (fun c1 => ?_) (fun c1 => ?_)
    · have h := (if_pos c1).symm.trans h
      refine k_lload C d_Mo_storm_164 6 rfl ?_
      refine k_aload_n C d_Mo_storm_166 0 rfl ?_
      refine k_iload_n C d_Mo_storm_167 1 rfl ?_
      obtain ⟨p2, ep2, h⟩ := bd_some h
      refine k_callVi C q_Mo_108 (fun l => m_Mo_paceOf (cx_g C) l v1 m xx oo p2 ep2) rfl rfl (rtL_c q) (by decide) sh_Mo rfl rfl rfl rfl d_Mo_storm_168 ?_
      refine k_iload_n C d_Mo_storm_171 2 rfl ?_
      refine k_icmp_lt C 180 d_Mo_storm_172 (by decide) (fun c3 => ?_) (fun c3 => ?_)
      · have h := (if_pos c3).symm.trans h
        refine k_lconst C 0 d_Mo_storm_180 rfl ?_
        exact k_sub [0, 1, 2, 3, 4, 5, 7, 8] rfl (t_Mo_storm_181 C q v1 v2 v3 v4 v5 v8 v10 v6 0 K103 hK103 p2.2 h)
      · have h := (if_neg c3).symm.trans h
        refine k_lload C d_Mo_storm_175 9 rfl ?_
        refine k_goto C 181 d_Mo_storm_177 (by decide) ?_
        exact k_sub [0, 1, 2, 3, 4, 5, 7, 8] rfl (t_Mo_storm_181 C q v1 v2 v3 v4 v5 v8 v10 v6 v11 K103 hK103 p2.2 h)
    · have h := (if_neg c1).symm.trans h
      refine k_lload C d_Mo_storm_123 9 rfl ?_
      refine k_iload C d_Mo_storm_125 8 rfl ?_
      refine k_iload C d_Mo_storm_127 10 rfl ?_
      obtain ⟨p4, ep4, h⟩ := bd_some h
      refine k_callSi C q_Mo_274 (fun l => m_Mo_hasBit (cx_g C) l v10 v13 m xx oo p4 ep4) rfl rfl (rtL_c q) rfl rfl rfl d_Mo_storm_129 ?_
      refine k_if_eq C 139 d_Mo_storm_132 (by decide) (fun c5 => ?_) (fun c5 => ?_)
      · have h := (if_pos c5).symm.trans h
        refine k_iload C d_Mo_storm_139 4 rfl ?_
        refine k_iconst C 1 d_Mo_storm_141 ic_1 ?_
        refine k_isub C d_Mo_storm_142 ?_
        refine k_i2l C d_Mo_storm_143 ?_
        exact k_sub [0, 1, 2, 3, 4, 5, 6, 7, 8, 10] rfl (t_Mo_storm_144 C q v1 v2 v3 v4 v5 v6 v8 v10 v13 v11 ((v4 - 1).toInt64) K103 hK103 (b_Mo_storm_117 K103 v1 v2 v3 v4 v5 v6 v8 v10 n) ih p4.2 h)
      · have h := (if_neg c5).symm.trans h
        refine k_lconst C 1 d_Mo_storm_135 rfl ?_
        refine k_goto C 144 d_Mo_storm_136 (by decide) ?_
        exact k_sub [0, 1, 2, 3, 4, 5, 6, 7, 8, 10] rfl (t_Mo_storm_144 C q v1 v2 v3 v4 v5 v6 v8 v10 v13 v11 1 K103 hK103 (b_Mo_storm_117 K103 v1 v2 v3 v4 v5 v6 v8 v10 n) ih p4.2 h)

def b_Mo_storm_103 (v1 : Int32) (v2 : Int32) (v3 : Int32) (v4 : Int32) (v5 : Int32) (v8 : Int64) : Nat → Int64 → Int32 → MD → Option (Int64 × MD)
  | 0, _, _, _ => none
  | n + 1, v6, v10, m => (if 1 <<< (v3 &&& 31) ≤ v10 then (f_Mo_partOf v6 v8 v5 m).bind fun p2 => (some (p2.1, p2.2)) else b_Mo_storm_117 (b_Mo_storm_103 v1 v2 v3 v4 v5 v8 n) v1 v2 v3 v4 v5 v6 v8 v10 fu 1 0 m)
theorem t_Mo_storm_103 {g : GC} {X : MX} (C : Cx g X c_Mo_storm 14 n_Mo 4) {r : Int64 × MD} {xx : XD} {oo : Nat → Int64} (q : RtL g X (some .long) r.1 (xx, r.2, oo)) (v1 : Int32) (v2 : Int32) (v3 : Int32) (v4 : Int32) (v5 : Int32) (v8 : Int64) : ∀ (n : Nat) (v6 : Int64) (v10 : Int32) (m : MD) (h : b_Mo_storm_103 v1 v2 v3 v4 v5 v8 n v6 v10 m = some r), Wk g X 14 103 [(0, .ref (g_a g 83)), (1, .int v1), (2, .int v2), (3, .int v3), (4, .int v4), (5, .int v5), (6, .long v6), (8, .long v8), (10, .int v10)] [] (xx, m, oo) := by
  intro n
  induction n with
  | zero =>
    intro v6 v10 m h
    rw [b_Mo_storm_103] at h
    cases h
  | succ n ih =>
    intro v6 v10 m h
    rw [b_Mo_storm_103] at h
    refine k_iload C d_Mo_storm_103 8 rfl ?_
    refine k_iconst C 1 d_Mo_storm_105 ic_1 ?_
    refine k_iload_n C d_Mo_storm_106 3 rfl ?_
    refine k_ishl C d_Mo_storm_107 ?_
    refine k_icmp_ge C 194 d_Mo_storm_108 (by decide) (fun c1 => ?_) (fun c1 => ?_)
    · have h := (if_pos c1).symm.trans h
      refine k_lload C d_Mo_storm_194 6 rfl ?_
      refine k_lload C d_Mo_storm_196 7 rfl ?_
      refine k_iload C d_Mo_storm_198 5 rfl ?_
      obtain ⟨p2, ep2, h⟩ := bd_some h
      refine k_callSl C q_Mo_278 (fun l => m_Mo_partOf (cx_g C) l v6 v8 v5 m xx oo p2 ep2) rfl rfl (rtL_c q) rfl rfl rfl d_Mo_storm_200 ?_
      obtain rfl := Option.some.inj h
      exact k_lret C q d_Mo_storm_203
    · have h := (if_neg c1).symm.trans h
      refine k_lconst C 1 d_Mo_storm_111 rfl ?_
      refine k_lstore C (lv' := [(11, .long 1), (0, .ref (g_a g 83)), (1, .int v1), (2, .int v2), (3, .int v3), (4, .int v4), (5, .int v5), (6, .long v6), (8, .long v8), (10, .int v10)]) d_Mo_storm_112 rfl rfl ?_
      refine k_iconst C 0 d_Mo_storm_114 ic_0 ?_
      refine k_istore C (lv' := [(13, .int 0), (11, .long 1), (0, .ref (g_a g 83)), (1, .int v1), (2, .int v2), (3, .int v3), (4, .int v4), (5, .int v5), (6, .long v6), (8, .long v8), (10, .int v10)]) d_Mo_storm_115 rfl rfl ?_
      exact k_sub [2, 3, 4, 5, 6, 7, 8, 9, 10, 1, 0] rfl (t_Mo_storm_117 C q v1 v2 v3 v4 v5 v6 v8 v10 (b_Mo_storm_103 v1 v2 v3 v4 v5 v8 n) ih fu 1 0 m h)

def b_Mo_storm_76 (v1 : Int32) (v2 : Int32) (v3 : Int32) (v4 : Int32) (v5 : Int32) (v6 : Int64) : Nat → Int64 → Int32 → MD → Option (Int64 × MD)
  | 0, _, _, _ => none
  | n + 1, v8, v10, m => (if v3 ≤ v10 then (f_Mo_open m).bind fun p2 => (b_Mo_storm_103 v1 v2 v3 v4 v5 v8 fu v6 0 p2.2) else b_Mo_storm_76 v1 v2 v3 v4 v5 v6 n (v8 * v4.toInt64) (v10 + 1) m)
theorem t_Mo_storm_76 {g : GC} {X : MX} (C : Cx g X c_Mo_storm 14 n_Mo 4) {r : Int64 × MD} {xx : XD} {oo : Nat → Int64} (q : RtL g X (some .long) r.1 (xx, r.2, oo)) (v1 : Int32) (v2 : Int32) (v3 : Int32) (v4 : Int32) (v5 : Int32) (v6 : Int64) : ∀ (n : Nat) (v8 : Int64) (v10 : Int32) (m : MD) (h : b_Mo_storm_76 v1 v2 v3 v4 v5 v6 n v8 v10 m = some r), Wk g X 14 76 [(0, .ref (g_a g 83)), (1, .int v1), (2, .int v2), (3, .int v3), (4, .int v4), (5, .int v5), (6, .long v6), (8, .long v8), (10, .int v10)] [] (xx, m, oo) := by
  intro n
  induction n with
  | zero =>
    intro v8 v10 m h
    rw [b_Mo_storm_76] at h
    cases h
  | succ n ih =>
    intro v8 v10 m h
    rw [b_Mo_storm_76] at h
    refine k_iload C d_Mo_storm_76 8 rfl ?_
    refine k_iload_n C d_Mo_storm_78 3 rfl ?_
    refine k_icmp_ge C 96 d_Mo_storm_79 (by decide) (fun c1 => ?_) (fun c1 => ?_)
    · have h := (if_pos c1).symm.trans h
      refine k_aload_n C d_Mo_storm_96 0 rfl ?_
      obtain ⟨p2, ep2, h⟩ := bd_some h
      refine k_callVv C q_Mo_177 (fun l => m_Mo_open (cx_g C) l m xx oo p2 ep2) rfl rfl (rtL_c q) (by decide) sh_Mo rfl rfl rfl rfl d_Mo_storm_97 ?_
      refine k_iconst C 0 d_Mo_storm_100 ic_0 ?_
      refine k_istore C (lv' := [(10, .int 0), (0, .ref (g_a g 83)), (1, .int v1), (2, .int v2), (3, .int v3), (4, .int v4), (5, .int v5), (6, .long v6), (8, .long v8)]) d_Mo_storm_101 rfl rfl ?_
      exact k_sub [1, 2, 3, 4, 5, 6, 7, 8, 0] rfl (t_Mo_storm_103 C q v1 v2 v3 v4 v5 v8 fu v6 0 p2.2 h)
    · have h := (if_neg c1).symm.trans h
      refine k_lload C d_Mo_storm_82 7 rfl ?_
      refine k_iload C d_Mo_storm_84 4 rfl ?_
      refine k_i2l C d_Mo_storm_86 ?_
      refine k_lmul C d_Mo_storm_87 ?_
      refine k_lstore C (lv' := [(8, .long (v8 * v4.toInt64)), (0, .ref (g_a g 83)), (1, .int v1), (2, .int v2), (3, .int v3), (4, .int v4), (5, .int v5), (6, .long v6), (10, .int v10)]) d_Mo_storm_88 rfl rfl ?_
      refine k_inc C (lv' := [(10, .int (v10 + 1)), (8, .long (v8 * v4.toInt64)), (0, .ref (g_a g 83)), (1, .int v1), (2, .int v2), (3, .int v3), (4, .int v4), (5, .int v5), (6, .long v6)]) d_Mo_storm_90 8 rfl ic_1 rfl rfl ?_
      refine k_goto C 76 d_Mo_storm_93 (by decide) ?_
      exact k_sub [2, 3, 4, 5, 6, 7, 8, 1, 0] rfl (ih (v8 * v4.toInt64) (v10 + 1) m h)

def f_Mo_storm (v1 : Int32) (v2 : Int32) (v3 : Int32) (v4 : Int32) (v5 : Int32) (m : MD) : Option (Int64 × MD) := lt ((x_up m.1 83 14 0, m.2)) fun (m1 : MD) => (f_Mo_isHorse v1 m1).bind fun p2 => ((if p2.1 = 0 then some (1000000001, p2.2) else (f_Mo_in v2.toInt64 1 60 p2.2).bind fun p4 => ((if p4.1 = 0 then some (1000000001, p4.2) else (f_Mo_in v3.toInt64 0 7 p4.2).bind fun p6 => ((if p6.1 = 0 then some (1000000001, p6.2) else (f_Mo_in v4.toInt64 2 20 p6.2).bind fun p8 => ((if p8.1 = 0 then some (1000000001, p8.2) else (f_Mo_in v5.toInt64 0 1 p8.2).bind fun p10 => ((if p10.1 = 0 then some (1000000001, p10.2) else b_Mo_storm_76 v1 v2 v3 v4 v5 0 fu 1 0 p10.2))))))))))
theorem m_Mo_storm {g : GC} (hg : gOk g) (l : Launch)  (v1 : Int32) (v2 : Int32) (v3 : Int32) (v4 : Int32) (v5 : Int32) (m : MD) (xx : XD) (oo : Nat → Int64) (r : Int64 × MD) (h : f_Mo_storm v1 v2 v3 v4 v5 m = some r) : Ml g l y_Mo_storm c_Mo_storm 14 (some .long) 4 [.ref (g_a g 83), .int v1, .int v2, .int v3, .int v4, .int v5] (xx, m, oo) r.1 (xx, r.2, oo) := by
  refine m_l hg pn_Mo rfl fun X q C => ?_
  refine k_sub (lv' := [(0, .ref (g_a g 83)), (1, .int v1), (2, .int v2), (3, .int v3), (4, .int v4), (5, .int v5)]) [0, 1, 2, 3, 4, 5] rfl ?_
  unfold f_Mo_storm at h
  refine k_aload_n C d_Mo_storm_0 0 rfl ?_
  refine k_iconst C 0 d_Mo_storm_1 ic_0 ?_
  obtain ⟨m1, em1, h⟩ := lt_some h
  refine kp_Mo_71 C em1 d_Mo_storm_2 ?_
  refine k_aload_n C d_Mo_storm_5 0 rfl ?_
  refine k_iload_n C d_Mo_storm_6 1 rfl ?_
  obtain ⟨p2, ep2, h⟩ := bd_some h
  refine k_callVi C q_Mo_162 (fun l => m_Mo_isHorse (cx_g C) l v1 m1 xx oo p2 ep2) rfl rfl (rtL_c q) (by decide) sh_Mo rfl rfl rfl rfl d_Mo_storm_7 ?_
  refine k_if_eq C 63 d_Mo_storm_10 (by decide) (fun c3 => ?_) (fun c3 => ?_)
  · have h := (if_pos c3).symm.trans h
    refine k_ldc2 C 1000000001 l_1329 d_Mo_storm_63 ?_
    obtain rfl := Option.some.inj h
    exact k_lret C q d_Mo_storm_66
  · have h := (if_neg c3).symm.trans h
    refine k_iload_n C d_Mo_storm_13 2 rfl ?_
    refine k_i2l C d_Mo_storm_14 ?_
    refine k_lconst C 1 d_Mo_storm_15 rfl ?_
    refine k_ldc2 C 60 l_1154 d_Mo_storm_16 ?_
    obtain ⟨p4, ep4, h⟩ := bd_some h
    refine k_callSi C q_Mo_77 (fun l => m_Mo_in (cx_g C) l v2.toInt64 1 60 p2.2 xx oo p4 ep4) rfl rfl (rtL_c q) rfl rfl rfl d_Mo_storm_19 ?_
    refine k_if_eq C 63 d_Mo_storm_22 (by decide) (fun c5 => ?_) (fun c5 => ?_)
    · have h := (if_pos c5).symm.trans h
      refine k_ldc2 C 1000000001 l_1329 d_Mo_storm_63 ?_
      obtain rfl := Option.some.inj h
      exact k_lret C q d_Mo_storm_66
    · have h := (if_neg c5).symm.trans h
      refine k_iload_n C d_Mo_storm_25 3 rfl ?_
      refine k_i2l C d_Mo_storm_26 ?_
      refine k_lconst C 0 d_Mo_storm_27 rfl ?_
      refine k_ldc2 C 7 l_1063 d_Mo_storm_28 ?_
      obtain ⟨p6, ep6, h⟩ := bd_some h
      refine k_callSi C q_Mo_77 (fun l => m_Mo_in (cx_g C) l v3.toInt64 0 7 p4.2 xx oo p6 ep6) rfl rfl (rtL_c q) rfl rfl rfl d_Mo_storm_31 ?_
      refine k_if_eq C 63 d_Mo_storm_34 (by decide) (fun c7 => ?_) (fun c7 => ?_)
      · have h := (if_pos c7).symm.trans h
        refine k_ldc2 C 1000000001 l_1329 d_Mo_storm_63 ?_
        obtain rfl := Option.some.inj h
        exact k_lret C q d_Mo_storm_66
      · have h := (if_neg c7).symm.trans h
        refine k_iload C d_Mo_storm_37 4 rfl ?_
        refine k_i2l C d_Mo_storm_39 ?_
        refine k_ldc2 C 2 l_1328 d_Mo_storm_40 ?_
        refine k_ldc2 C 20 l_1111 d_Mo_storm_43 ?_
        obtain ⟨p8, ep8, h⟩ := bd_some h
        refine k_callSi C q_Mo_77 (fun l => m_Mo_in (cx_g C) l v4.toInt64 2 20 p6.2 xx oo p8 ep8) rfl rfl (rtL_c q) rfl rfl rfl d_Mo_storm_46 ?_
        refine k_if_eq C 63 d_Mo_storm_49 (by decide) (fun c9 => ?_) (fun c9 => ?_)
        · have h := (if_pos c9).symm.trans h
          refine k_ldc2 C 1000000001 l_1329 d_Mo_storm_63 ?_
          obtain rfl := Option.some.inj h
          exact k_lret C q d_Mo_storm_66
        · have h := (if_neg c9).symm.trans h
          refine k_iload C d_Mo_storm_52 5 rfl ?_
          refine k_i2l C d_Mo_storm_54 ?_
          refine k_lconst C 0 d_Mo_storm_55 rfl ?_
          refine k_lconst C 1 d_Mo_storm_56 rfl ?_
          obtain ⟨p10, ep10, h⟩ := bd_some h
          refine k_callSi C q_Mo_77 (fun l => m_Mo_in (cx_g C) l v5.toInt64 0 1 p8.2 xx oo p10 ep10) rfl rfl (rtL_c q) rfl rfl rfl d_Mo_storm_57 ?_
          refine k_if_ne C 67 d_Mo_storm_60 (by decide) (fun c11 => ?_) (fun c11 => ?_)
          · have h := (if_neg c11).symm.trans h
            refine k_lconst C 0 d_Mo_storm_67 rfl ?_
            refine k_lstore C (lv' := [(6, .long 0), (0, .ref (g_a g 83)), (1, .int v1), (2, .int v2), (3, .int v3), (4, .int v4), (5, .int v5)]) d_Mo_storm_68 rfl rfl ?_
            refine k_lconst C 1 d_Mo_storm_70 rfl ?_
            refine k_lstore C (lv' := [(8, .long 1), (6, .long 0), (0, .ref (g_a g 83)), (1, .int v1), (2, .int v2), (3, .int v3), (4, .int v4), (5, .int v5)]) d_Mo_storm_71 rfl rfl ?_
            refine k_iconst C 0 d_Mo_storm_73 ic_0 ?_
            refine k_istore C (lv' := [(10, .int 0), (8, .long 1), (6, .long 0), (0, .ref (g_a g 83)), (1, .int v1), (2, .int v2), (3, .int v3), (4, .int v4), (5, .int v5)]) d_Mo_storm_74 rfl rfl ?_
            exact k_sub [3, 4, 5, 6, 7, 8, 2, 1, 0] rfl (t_Mo_storm_76 C q v1 v2 v3 v4 v5 0 fu 1 0 p10.2 h)
          · have h := (if_pos c11).symm.trans h
            refine k_ldc2 C 1000000001 l_1329 d_Mo_storm_63 ?_
            obtain rfl := Option.some.inj h
            exact k_lret C q d_Mo_storm_66

def b_Mo_behind_64 (vt0 : Int32) (m : MD) : Option (Int32 × MD) := (f_Mo_close m).bind fun p1 => (some (vt0, p1.2))
theorem t_Mo_behind_64 {g : GC} {X : MX} (C : Cx g X c_Mo_behind 5 n_Mo 5) {r : Int32 × MD} {xx : XD} {oo : Nat → Int64} (q : RtI g X (some .int) r.1 (xx, r.2, oo)) (vt0 : Int32) (m : MD) (h : b_Mo_behind_64 vt0 m = some r) : Wk g X 5 64 [(0, .ref (g_a g 83))] [.int vt0] (xx, m, oo) := by
  unfold b_Mo_behind_64 at h
  refine k_istore C (lv' := [(4, .int vt0), (0, .ref (g_a g 83))]) d_Mo_behind_64 rfl rfl ?_
  refine k_aload_n C d_Mo_behind_66 1 rfl ?_
  obtain ⟨p1, ep1, h⟩ := bd_some h
  refine k_callVv C q_Mo_183 (fun l => m_Mo_close (cx_g C) l m xx oo p1 ep1) rfl rfl (rtI_c q) (by decide) sh_Mo rfl rfl rfl rfl d_Mo_behind_67 ?_
  refine k_iload C d_Mo_behind_70 0 rfl ?_
  obtain rfl := Option.some.inj h
  exact k_iret C q d_Mo_behind_72

def f_Mo_behind (v1 : Int32) (v2 : Int32) (v3 : Int32) (m : MD) : Option (Int32 × MD) := lt ((x_up m.1 83 14 0, m.2)) fun (m1 : MD) => (f_Mo_isHorse v1 m1).bind fun p2 => ((if p2.1 = 0 then some ((-1), p2.2) else (f_Mo_in v2.toInt64 0 60 p2.2).bind fun p4 => ((if p4.1 = 0 then some ((-1), p4.2) else (f_Mo_in v3.toInt64 0 1 p4.2).bind fun p6 => ((if p6.1 = 0 then some ((-1), p6.2) else (f_Mo_open p6.2).bind fun p8 => ((f_Mo_goDays v2 p8.2).bind fun p9 => ((if v3 = 0 then gI v1 7 (b_Mo_behind_64 (p9.2.1 88 v1.toNatClampNeg) p9.2) else (f_Mo_paceOf v1 p9.2).bind fun p11 => (b_Mo_behind_64 p11.1 p11.2))))))))))
theorem m_Mo_behind {g : GC} (hg : gOk g) (l : Launch)  (v1 : Int32) (v2 : Int32) (v3 : Int32) (m : MD) (xx : XD) (oo : Nat → Int64) (r : Int32 × MD) (h : f_Mo_behind v1 v2 v3 m = some r) : Mi g l y_Mo_behind c_Mo_behind 5 (some .int) 5 [.ref (g_a g 83), .int v1, .int v2, .int v3] (xx, m, oo) r.1 (xx, r.2, oo) := by
  refine m_i hg pn_Mo rfl fun X q C => ?_
  refine k_sub (lv' := [(0, .ref (g_a g 83)), (1, .int v1), (2, .int v2), (3, .int v3)]) [0, 1, 2, 3] rfl ?_
  unfold f_Mo_behind at h
  refine k_aload_n C d_Mo_behind_0 0 rfl ?_
  refine k_iconst C 0 d_Mo_behind_1 ic_0 ?_
  obtain ⟨m1, em1, h⟩ := lt_some h
  refine kp_Mo_71 C em1 d_Mo_behind_2 ?_
  refine k_aload_n C d_Mo_behind_5 0 rfl ?_
  refine k_iload_n C d_Mo_behind_6 1 rfl ?_
  obtain ⟨p2, ep2, h⟩ := bd_some h
  refine k_callVi C q_Mo_162 (fun l => m_Mo_isHorse (cx_g C) l v1 m1 xx oo p2 ep2) rfl rfl (rtI_c q) (by decide) sh_Mo rfl rfl rfl rfl d_Mo_behind_7 ?_
  refine k_if_eq C 35 d_Mo_behind_10 (by decide) (fun c3 => ?_) (fun c3 => ?_)
  · have h := (if_pos c3).symm.trans h
    refine k_iconst C (-1) d_Mo_behind_35 ic_m1 ?_
    obtain rfl := Option.some.inj h
    exact k_iret C q d_Mo_behind_36
  · have h := (if_neg c3).symm.trans h
    refine k_iload_n C d_Mo_behind_13 2 rfl ?_
    refine k_i2l C d_Mo_behind_14 ?_
    refine k_lconst C 0 d_Mo_behind_15 rfl ?_
    refine k_ldc2 C 60 l_1154 d_Mo_behind_16 ?_
    obtain ⟨p4, ep4, h⟩ := bd_some h
    refine k_callSi C q_Mo_77 (fun l => m_Mo_in (cx_g C) l v2.toInt64 0 60 p2.2 xx oo p4 ep4) rfl rfl (rtI_c q) rfl rfl rfl d_Mo_behind_19 ?_
    refine k_if_eq C 35 d_Mo_behind_22 (by decide) (fun c5 => ?_) (fun c5 => ?_)
    · have h := (if_pos c5).symm.trans h
      refine k_iconst C (-1) d_Mo_behind_35 ic_m1 ?_
      obtain rfl := Option.some.inj h
      exact k_iret C q d_Mo_behind_36
    · have h := (if_neg c5).symm.trans h
      refine k_iload_n C d_Mo_behind_25 3 rfl ?_
      refine k_i2l C d_Mo_behind_26 ?_
      refine k_lconst C 0 d_Mo_behind_27 rfl ?_
      refine k_lconst C 1 d_Mo_behind_28 rfl ?_
      obtain ⟨p6, ep6, h⟩ := bd_some h
      refine k_callSi C q_Mo_77 (fun l => m_Mo_in (cx_g C) l v3.toInt64 0 1 p4.2 xx oo p6 ep6) rfl rfl (rtI_c q) rfl rfl rfl d_Mo_behind_29 ?_
      refine k_if_ne C 37 d_Mo_behind_32 (by decide) (fun c7 => ?_) (fun c7 => ?_)
      · have h := (if_neg c7).symm.trans h
        refine k_aload_n C d_Mo_behind_37 0 rfl ?_
        obtain ⟨p8, ep8, h⟩ := bd_some h
        refine k_callVv C q_Mo_177 (fun l => m_Mo_open (cx_g C) l p6.2 xx oo p8 ep8) rfl rfl (rtI_c q) (by decide) sh_Mo rfl rfl rfl rfl d_Mo_behind_38 ?_
        refine k_aload_n C d_Mo_behind_41 0 rfl ?_
        refine k_iload_n C d_Mo_behind_42 2 rfl ?_
        obtain ⟨p9, ep9, h⟩ := bd_some h
        refine k_callVv C q_Mo_154 (fun l => m_Mo_goDays (cx_g C) l v2 p8.2 xx oo p9 ep9) rfl rfl (rtI_c q) (by decide) sh_Mo rfl rfl rfl rfl d_Mo_behind_43 ?_
        refine k_iload_n C d_Mo_behind_46 3 rfl ?_
        refine k_if_ne C 59 d_Mo_behind_47 (by decide) (fun c10 => ?_) (fun c10 => ?_)
        · have h := (if_neg c10).symm.trans h
          refine k_aload_n C d_Mo_behind_59 0 rfl ?_
          refine k_iload_n C d_Mo_behind_60 1 rfl ?_
          obtain ⟨p11, ep11, h⟩ := bd_some h
          refine k_callVi C q_Mo_108 (fun l => m_Mo_paceOf (cx_g C) l v1 p9.2 xx oo p11 ep11) rfl rfl (rtI_c q) (by decide) sh_Mo rfl rfl rfl rfl d_Mo_behind_61 ?_
          exact k_sub [0] rfl (t_Mo_behind_64 C q p11.1 p11.2 h)
        · have h := (if_pos c10).symm.trans h
          refine k_aload_n C d_Mo_behind_50 0 rfl ?_
          refine kg_Mo_22 C d_Mo_behind_51 ?_
          refine k_iload_n C d_Mo_behind_54 1 rfl ?_
          obtain ⟨i12, h⟩ := gI_some h
          refine k_ialdM C (by decide) (by decide) i12 d_Mo_behind_55 ?_
          refine k_goto C 64 d_Mo_behind_56 (by decide) ?_
          exact k_sub [0] rfl (t_Mo_behind_64 C q (p9.2.1 88 v1.toNatClampNeg) p9.2 h)
      · have h := (if_pos c7).symm.trans h
        refine k_iconst C (-1) d_Mo_behind_35 ic_m1 ?_
        obtain rfl := Option.some.inj h
        exact k_iret C q d_Mo_behind_36

def b_Mo_daysCome_29 (v1 : Int32) (vt0 : Int32) (m : MD) : Option (Int32 × MD) := (if vt0 = 0 then gB vt0 (some (vt0, m)) else (f_Mo_goDays v1 m).bind fun p3 => (gB vt0 (some (vt0, p3.2))))
theorem t_Mo_daysCome_29 {g : GC} {X : MX} (C : Cx g X c_Mo_daysCome 3 n_Mo 5) {r : Int32 × MD} {xx : XD} {oo : Nat → Int64} (q : RtI g X (some .boolean) r.1 (xx, r.2, oo)) (v1 : Int32) (vt0 : Int32) (m : MD) (h : b_Mo_daysCome_29 v1 vt0 m = some r) : Wk g X 3 29 [(0, .ref (g_a g 83)), (1, .int v1)] [.int vt0] (xx, m, oo) := by
  unfold b_Mo_daysCome_29 at h
  refine k_istore_n C (lv' := [(2, .int vt0), (0, .ref (g_a g 83)), (1, .int v1)]) d_Mo_daysCome_29 rfl rfl ?_
  refine k_iload_n C d_Mo_daysCome_30 0 rfl ?_
  refine k_if_eq C 39 d_Mo_daysCome_31 (by decide) (fun c1 => ?_) (fun c1 => ?_)
  · have h := (if_pos c1).symm.trans h
    refine k_iload_n C d_Mo_daysCome_39 0 rfl ?_
    obtain ⟨i2, h⟩ := gB_some h
    obtain rfl := Option.some.inj h
    exact k_zret C q i2 d_Mo_daysCome_40
  · have h := (if_neg c1).symm.trans h
    refine k_aload_n C d_Mo_daysCome_34 1 rfl ?_
    refine k_iload_n C d_Mo_daysCome_35 2 rfl ?_
    obtain ⟨p3, ep3, h⟩ := bd_some h
    refine k_callVv C q_Mo_154 (fun l => m_Mo_goDays (cx_g C) l v1 m xx oo p3 ep3) rfl rfl (rtI_c q) (by decide) sh_Mo rfl rfl rfl rfl d_Mo_daysCome_36 ?_
    refine k_iload_n C d_Mo_daysCome_39 0 rfl ?_
    obtain ⟨i4, h⟩ := gB_some h
    obtain rfl := Option.some.inj h
    exact k_zret C q i4 d_Mo_daysCome_40

def b_Mo_daysCome_28 (v1 : Int32) (m : MD) : Option (Int32 × MD) := b_Mo_daysCome_29 v1 0 m
theorem t_Mo_daysCome_28 {g : GC} {X : MX} (C : Cx g X c_Mo_daysCome 3 n_Mo 5) {r : Int32 × MD} {xx : XD} {oo : Nat → Int64} (q : RtI g X (some .boolean) r.1 (xx, r.2, oo)) (v1 : Int32) (m : MD) (h : b_Mo_daysCome_28 v1 m = some r) : Wk g X 3 28 [(0, .ref (g_a g 83)), (1, .int v1)] [] (xx, m, oo) := by
  unfold b_Mo_daysCome_28 at h
  refine k_iconst C 0 d_Mo_daysCome_28 ic_0 ?_
  exact k_sub [0, 1] rfl (t_Mo_daysCome_29 C q v1 0 m h)

def f_Mo_daysCome (v1 : Int32) (m : MD) : Option (Int32 × MD) := (f_Mo_in v1.toInt64 1 60 m).bind fun p1 => ((if p1.1 = 0 then b_Mo_daysCome_28 v1 p1.2 else (if 999 < (p1.2.1 83 7) + v1 then b_Mo_daysCome_28 v1 p1.2 else b_Mo_daysCome_29 v1 1 p1.2)))
theorem m_Mo_daysCome {g : GC} (hg : gOk g) (l : Launch)  (v1 : Int32) (m : MD) (xx : XD) (oo : Nat → Int64) (r : Int32 × MD) (h : f_Mo_daysCome v1 m = some r) : Mi g l y_Mo_daysCome c_Mo_daysCome 3 (some .boolean) 5 [.ref (g_a g 83), .int v1] (xx, m, oo) r.1 (xx, r.2, oo) := by
  refine m_i hg pn_Mo rfl fun X q C => ?_
  refine k_sub (lv' := [(0, .ref (g_a g 83)), (1, .int v1)]) [0, 1] rfl ?_
  unfold f_Mo_daysCome at h
  refine k_iload_n C d_Mo_daysCome_0 1 rfl ?_
  refine k_i2l C d_Mo_daysCome_1 ?_
  refine k_lconst C 1 d_Mo_daysCome_2 rfl ?_
  refine k_ldc2 C 60 l_1154 d_Mo_daysCome_3 ?_
  obtain ⟨p1, ep1, h⟩ := bd_some h
  refine k_callSi C q_Mo_77 (fun l => m_Mo_in (cx_g C) l v1.toInt64 1 60 m xx oo p1 ep1) rfl rfl (rtI_c q) rfl rfl rfl d_Mo_daysCome_6 ?_
  refine k_if_eq C 28 d_Mo_daysCome_9 (by decide) (fun c2 => ?_) (fun c2 => ?_)
  · have h := (if_pos c2).symm.trans h
    exact k_sub [0, 1] rfl (t_Mo_daysCome_28 C q v1 p1.2 h)
  · have h := (if_neg c2).symm.trans h
    refine k_aload_n C d_Mo_daysCome_12 0 rfl ?_
    refine kg_Mo_95 C d_Mo_daysCome_13 ?_
    refine k_iload_n C d_Mo_daysCome_16 1 rfl ?_
    refine k_iadd C d_Mo_daysCome_17 ?_
    refine k_sipush C 999 d_Mo_daysCome_18 sp_999 ?_
    refine k_icmp_gt C 28 d_Mo_daysCome_21 (by decide) (fun c3 => ?_) (fun c3 => ?_)
    · have h := (if_pos c3).symm.trans h
      exact k_sub [0, 1] rfl (t_Mo_daysCome_28 C q v1 p1.2 h)
    · have h := (if_neg c3).symm.trans h
      refine k_iconst C 1 d_Mo_daysCome_24 ic_1 ?_
      refine k_goto C 29 d_Mo_daysCome_25 (by decide) ?_
      exact k_sub [0, 1] rfl (t_Mo_daysCome_29 C q v1 1 p1.2 h)

def b_Mo_fastest_63 (K33 : Int32 → Int32 → MD → Option (Int32 × MD)) (v3 : Int32) (vt0 : Int32) (m : MD) : Option (Int32 × MD) := K33 vt0 (v3 + 1) m
theorem t_Mo_fastest_63 {g : GC} {X : MX} (C : Cx g X c_Mo_fastest 4 n_Mo 5) {r : Int32 × MD} {xx : XD} {oo : Nat → Int64} (q : RtI g X (some .int) r.1 (xx, r.2, oo)) (v3 : Int32) (vt0 : Int32) (K33 : Int32 → Int32 → MD → Option (Int32 × MD)) (hK33 : ∀ (v2 : Int32) (v3 : Int32) (m : MD), K33 v2 v3 m = some r → Wk g X 4 33 [(0, .ref (g_a g 83)), (2, .int v2), (3, .int v3)] [] (xx, m, oo)) (m : MD) (h : b_Mo_fastest_63 K33 v3 vt0 m = some r) : Wk g X 4 63 [(0, .ref (g_a g 83)), (3, .int v3)] [.int vt0] (xx, m, oo) := by
  unfold b_Mo_fastest_63 at h
  refine k_istore_n C (lv' := [(2, .int vt0), (0, .ref (g_a g 83)), (3, .int v3)]) d_Mo_fastest_63 rfl rfl ?_
  refine k_inc C (lv' := [(3, .int (v3 + 1)), (2, .int vt0), (0, .ref (g_a g 83))]) d_Mo_fastest_64 2 rfl ic_1 rfl rfl ?_
  refine k_goto C 33 d_Mo_fastest_67 (by decide) ?_
  exact k_sub [2, 1, 0] rfl (hK33 vt0 (v3 + 1) m h)

def b_Mo_fastest_58 (K33 : Int32 → Int32 → MD → Option (Int32 × MD)) (v3 : Int32) (m : MD) : Option (Int32 × MD) := b_Mo_fastest_63 K33 v3 v3 m
theorem t_Mo_fastest_58 {g : GC} {X : MX} (C : Cx g X c_Mo_fastest 4 n_Mo 5) {r : Int32 × MD} {xx : XD} {oo : Nat → Int64} (q : RtI g X (some .int) r.1 (xx, r.2, oo)) (v3 : Int32) (K33 : Int32 → Int32 → MD → Option (Int32 × MD)) (hK33 : ∀ (v2 : Int32) (v3 : Int32) (m : MD), K33 v2 v3 m = some r → Wk g X 4 33 [(0, .ref (g_a g 83)), (2, .int v2), (3, .int v3)] [] (xx, m, oo)) (m : MD) (h : b_Mo_fastest_58 K33 v3 m = some r) : Wk g X 4 58 [(0, .ref (g_a g 83)), (3, .int v3)] [] (xx, m, oo) := by
  unfold b_Mo_fastest_58 at h
  refine k_iload_n C d_Mo_fastest_58 1 rfl ?_
  refine k_goto C 63 d_Mo_fastest_59 (by decide) ?_
  exact k_sub [0, 1] rfl (t_Mo_fastest_63 C q v3 v3 K33 hK33 m h)

def b_Mo_fastest_33 : Nat → Int32 → Int32 → MD → Option (Int32 × MD)
  | 0, _, _, _ => none
  | n + 1, v2, v3, m => (if m.1 83 0 ≤ v3 then (f_Mo_close m).bind fun p2 => (some (v2, p2.2)) else (if v2 < 0 then b_Mo_fastest_58 (b_Mo_fastest_33 n) v3 m else (f_Mo_paceOf v3 m).bind fun p4 => ((f_Mo_paceOf v2 p4.2).bind fun p5 => ((if p4.1 ≤ p5.1 then b_Mo_fastest_63 (b_Mo_fastest_33 n) v3 v2 p5.2 else b_Mo_fastest_58 (b_Mo_fastest_33 n) v3 p5.2)))))
theorem t_Mo_fastest_33 {g : GC} {X : MX} (C : Cx g X c_Mo_fastest 4 n_Mo 5) {r : Int32 × MD} {xx : XD} {oo : Nat → Int64} (q : RtI g X (some .int) r.1 (xx, r.2, oo)) : ∀ (n : Nat) (v2 : Int32) (v3 : Int32) (m : MD) (h : b_Mo_fastest_33 n v2 v3 m = some r), Wk g X 4 33 [(0, .ref (g_a g 83)), (2, .int v2), (3, .int v3)] [] (xx, m, oo) := by
  intro n
  induction n with
  | zero =>
    intro v2 v3 m h
    rw [b_Mo_fastest_33] at h
    cases h
  | succ n ih =>
    intro v2 v3 m h
    rw [b_Mo_fastest_33] at h
    refine k_iload_n C d_Mo_fastest_33 2 rfl ?_
    refine k_aload_n C d_Mo_fastest_34 0 rfl ?_
    refine kg_Mo_81 C d_Mo_fastest_35 ?_
    refine k_icmp_ge C 70 d_Mo_fastest_38 (by decide) (fun c1 => ?_) (fun c1 => ?_)
    · have h := (if_pos c1).symm.trans h
      refine k_aload_n C d_Mo_fastest_70 0 rfl ?_
      obtain ⟨p2, ep2, h⟩ := bd_some h
      refine k_callVv C q_Mo_183 (fun l => m_Mo_close (cx_g C) l m xx oo p2 ep2) rfl rfl (rtI_c q) (by decide) sh_Mo rfl rfl rfl rfl d_Mo_fastest_71 ?_
      refine k_iload_n C d_Mo_fastest_74 1 rfl ?_
      obtain rfl := Option.some.inj h
      exact k_iret C q d_Mo_fastest_75
    · have h := (if_neg c1).symm.trans h
      refine k_iload_n C d_Mo_fastest_41 1 rfl ?_
      refine k_if_lt C 58 d_Mo_fastest_42 (by decide) (fun c3 => ?_) (fun c3 => ?_)
      · have h := (if_pos c3).symm.trans h
        exact k_sub [0, 2] rfl (t_Mo_fastest_58 C q v3 (b_Mo_fastest_33 n) ih m h)
      · have h := (if_neg c3).symm.trans h
        refine k_aload_n C d_Mo_fastest_45 0 rfl ?_
        refine k_iload_n C d_Mo_fastest_46 2 rfl ?_
        obtain ⟨p4, ep4, h⟩ := bd_some h
        refine k_callVi C q_Mo_108 (fun l => m_Mo_paceOf (cx_g C) l v3 m xx oo p4 ep4) rfl rfl (rtI_c q) (by decide) sh_Mo rfl rfl rfl rfl d_Mo_fastest_47 ?_
        refine k_aload_n C d_Mo_fastest_50 0 rfl ?_
        refine k_iload_n C d_Mo_fastest_51 1 rfl ?_
        obtain ⟨p5, ep5, h⟩ := bd_some h
        refine k_callVi C q_Mo_108 (fun l => m_Mo_paceOf (cx_g C) l v2 p4.2 xx oo p5 ep5) rfl rfl (rtI_c q) (by decide) sh_Mo rfl rfl rfl rfl d_Mo_fastest_52 ?_
        refine k_icmp_le C 62 d_Mo_fastest_55 (by decide) (fun c6 => ?_) (fun c6 => ?_)
        · have h := (if_pos c6).symm.trans h
          refine k_iload_n C d_Mo_fastest_62 1 rfl ?_
          exact k_sub [0, 2] rfl (t_Mo_fastest_63 C q v3 v2 (b_Mo_fastest_33 n) ih p5.2 h)
        · have h := (if_neg c6).symm.trans h
          exact k_sub [0, 2] rfl (t_Mo_fastest_58 C q v3 (b_Mo_fastest_33 n) ih p5.2 h)

def f_Mo_fastest (v1 : Int32) (m : MD) : Option (Int32 × MD) := lt ((x_up m.1 83 14 0, m.2)) fun (m1 : MD) => (f_Mo_in v1.toInt64 0 60 m1).bind fun p2 => ((if p2.1 = 0 then some ((-1), p2.2) else (f_Mo_open p2.2).bind fun p4 => ((f_Mo_goDays v1 p4.2).bind fun p5 => (b_Mo_fastest_33 fu (-4) 0 p5.2))))
theorem m_Mo_fastest {g : GC} (hg : gOk g) (l : Launch)  (v1 : Int32) (m : MD) (xx : XD) (oo : Nat → Int64) (r : Int32 × MD) (h : f_Mo_fastest v1 m = some r) : Mi g l y_Mo_fastest c_Mo_fastest 4 (some .int) 5 [.ref (g_a g 83), .int v1] (xx, m, oo) r.1 (xx, r.2, oo) := by
  refine m_i hg pn_Mo rfl fun X q C => ?_
  refine k_sub (lv' := [(0, .ref (g_a g 83)), (1, .int v1)]) [0, 1] rfl ?_
  unfold f_Mo_fastest at h
  refine k_aload_n C d_Mo_fastest_0 0 rfl ?_
  refine k_iconst C 0 d_Mo_fastest_1 ic_0 ?_
  obtain ⟨m1, em1, h⟩ := lt_some h
  refine kp_Mo_71 C em1 d_Mo_fastest_2 ?_
  refine k_iload_n C d_Mo_fastest_5 1 rfl ?_
  refine k_i2l C d_Mo_fastest_6 ?_
  refine k_lconst C 0 d_Mo_fastest_7 rfl ?_
  refine k_ldc2 C 60 l_1154 d_Mo_fastest_8 ?_
  obtain ⟨p2, ep2, h⟩ := bd_some h
  refine k_callSi C q_Mo_77 (fun l => m_Mo_in (cx_g C) l v1.toInt64 0 60 m1 xx oo p2 ep2) rfl rfl (rtI_c q) rfl rfl rfl d_Mo_fastest_11 ?_
  refine k_if_ne C 19 d_Mo_fastest_14 (by decide) (fun c3 => ?_) (fun c3 => ?_)
  · have h := (if_neg c3).symm.trans h
    refine k_aload_n C d_Mo_fastest_19 0 rfl ?_
    obtain ⟨p4, ep4, h⟩ := bd_some h
    refine k_callVv C q_Mo_177 (fun l => m_Mo_open (cx_g C) l p2.2 xx oo p4 ep4) rfl rfl (rtI_c q) (by decide) sh_Mo rfl rfl rfl rfl d_Mo_fastest_20 ?_
    refine k_aload_n C d_Mo_fastest_23 0 rfl ?_
    refine k_iload_n C d_Mo_fastest_24 1 rfl ?_
    obtain ⟨p5, ep5, h⟩ := bd_some h
    refine k_callVv C q_Mo_154 (fun l => m_Mo_goDays (cx_g C) l v1 p4.2 xx oo p5 ep5) rfl rfl (rtI_c q) (by decide) sh_Mo rfl rfl rfl rfl d_Mo_fastest_25 ?_
    refine k_bipush C (-4) d_Mo_fastest_28 bp_m4 ?_
    refine k_istore_n C (lv' := [(2, .int (-4)), (0, .ref (g_a g 83)), (1, .int v1)]) d_Mo_fastest_30 rfl rfl ?_
    refine k_iconst C 0 d_Mo_fastest_31 ic_0 ?_
    refine k_istore_n C (lv' := [(3, .int 0), (2, .int (-4)), (0, .ref (g_a g 83)), (1, .int v1)]) d_Mo_fastest_32 rfl rfl ?_
    exact k_sub [2, 1, 0] rfl (t_Mo_fastest_33 C q fu (-4) 0 p5.2 h)
  · have h := (if_pos c3).symm.trans h
    refine k_iconst C (-1) d_Mo_fastest_17 ic_m1 ?_
    obtain rfl := Option.some.inj h
    exact k_iret C q d_Mo_fastest_18

def b_Mo_hang_97 (K41 : Int32 → Int32 → Int32 → MD → Option (Int32 × MD)) (v1 : Int32) (v2 : Int32) (v3 : Int32) (v5 : Int32) (vt0 : Int32) (m : MD) : Option (Int32 × MD) := K41 v3 vt0 (v5 + 1) m
theorem t_Mo_hang_97 {g : GC} {X : MX} (C : Cx g X c_Mo_hang 7 n_Mo 5) {r : Int32 × MD} {xx : XD} {oo : Nat → Int64} (q : RtI g X (some .int) r.1 (xx, r.2, oo)) (v1 : Int32) (v2 : Int32) (v3 : Int32) (v5 : Int32) (vt0 : Int32) (K41 : Int32 → Int32 → Int32 → MD → Option (Int32 × MD)) (hK41 : ∀ (v3 : Int32) (v4 : Int32) (v5 : Int32) (m : MD), K41 v3 v4 v5 m = some r → Wk g X 7 41 [(0, .ref (g_a g 83)), (1, .int v1), (2, .int v2), (3, .int v3), (4, .int v4), (5, .int v5)] [] (xx, m, oo)) (m : MD) (h : b_Mo_hang_97 K41 v1 v2 v3 v5 vt0 m = some r) : Wk g X 7 97 [(0, .ref (g_a g 83)), (1, .int v1), (2, .int v2), (3, .int v3), (5, .int v5)] [.int vt0] (xx, m, oo) := by
  unfold b_Mo_hang_97 at h
  refine k_istore C (lv' := [(4, .int vt0), (0, .ref (g_a g 83)), (1, .int v1), (2, .int v2), (3, .int v3), (5, .int v5)]) d_Mo_hang_97 rfl rfl ?_
  refine k_inc C (lv' := [(5, .int (v5 + 1)), (4, .int vt0), (0, .ref (g_a g 83)), (1, .int v1), (2, .int v2), (3, .int v3)]) d_Mo_hang_99 5 rfl ic_1 rfl rfl ?_
  refine k_goto C 41 d_Mo_hang_102 (by decide) ?_
  exact k_sub [2, 3, 4, 5, 1, 0] rfl (hK41 v3 vt0 (v5 + 1) m h)

def b_Mo_hang_82 (K41 : Int32 → Int32 → Int32 → MD → Option (Int32 × MD)) (v1 : Int32) (v2 : Int32) (v4 : Int32) (v5 : Int32) (v6 : Int32) (vt0 : Int32) (m : MD) : Option (Int32 × MD) := (if v6 ≤ v4 then b_Mo_hang_97 K41 v1 v2 vt0 v5 v4 m else b_Mo_hang_97 K41 v1 v2 vt0 v5 v6 m)
theorem t_Mo_hang_82 {g : GC} {X : MX} (C : Cx g X c_Mo_hang 7 n_Mo 5) {r : Int32 × MD} {xx : XD} {oo : Nat → Int64} (q : RtI g X (some .int) r.1 (xx, r.2, oo)) (v1 : Int32) (v2 : Int32) (v4 : Int32) (v5 : Int32) (v6 : Int32) (vt0 : Int32) (K41 : Int32 → Int32 → Int32 → MD → Option (Int32 × MD)) (hK41 : ∀ (v3 : Int32) (v4 : Int32) (v5 : Int32) (m : MD), K41 v3 v4 v5 m = some r → Wk g X 7 41 [(0, .ref (g_a g 83)), (1, .int v1), (2, .int v2), (3, .int v3), (4, .int v4), (5, .int v5)] [] (xx, m, oo)) (m : MD) (h : b_Mo_hang_82 K41 v1 v2 v4 v5 v6 vt0 m = some r) : Wk g X 7 82 [(0, .ref (g_a g 83)), (1, .int v1), (2, .int v2), (4, .int v4), (5, .int v5), (6, .int v6)] [.int vt0] (xx, m, oo) := by
  unfold b_Mo_hang_82 at h
  refine k_istore_n C (lv' := [(3, .int vt0), (0, .ref (g_a g 83)), (1, .int v1), (2, .int v2), (4, .int v4), (5, .int v5), (6, .int v6)]) d_Mo_hang_82 rfl rfl ?_
  refine k_iload C d_Mo_hang_83 6 rfl ?_
  refine k_iload C d_Mo_hang_85 4 rfl ?_
  refine k_icmp_le C 95 d_Mo_hang_87 (by decide) (fun c1 => ?_) (fun c1 => ?_)
  · have h := (if_pos c1).symm.trans h
    refine k_iload C d_Mo_hang_95 4 rfl ?_
    exact k_sub [1, 2, 3, 0, 5] rfl (t_Mo_hang_97 C q v1 v2 vt0 v5 v4 K41 hK41 m h)
  · have h := (if_neg c1).symm.trans h
    refine k_iload C d_Mo_hang_90 6 rfl ?_
    refine k_goto C 97 d_Mo_hang_92 (by decide) ?_
    exact k_sub [1, 2, 3, 0, 5] rfl (t_Mo_hang_97 C q v1 v2 vt0 v5 v6 K41 hK41 m h)

def b_Mo_hang_41 (v1 : Int32) (v2 : Int32) : Nat → Int32 → Int32 → Int32 → MD → Option (Int32 × MD)
  | 0, _, _, _, _ => none
  | n + 1, v3, v4, v5, m => (if 20 < v5 then (if v2 = 0 then some (v3, m) else some (v4, m)) else lt ((x_up m.1 83 6 v5, m.2)) fun (m3 : MD) => (f_Mo_goDays v1 m3).bind fun p4 => ((f_Mo_allLonging p4.2).bind fun p5 => ((f_Mo_close p5.2).bind fun p6 => ((if p5.1 ≤ v4 then b_Mo_hang_82 (b_Mo_hang_41 v1 v2 n) v1 v2 v4 v5 p5.1 v3 p6.2 else b_Mo_hang_82 (b_Mo_hang_41 v1 v2 n) v1 v2 v4 v5 p5.1 v5 p6.2)))))
theorem t_Mo_hang_41 {g : GC} {X : MX} (C : Cx g X c_Mo_hang 7 n_Mo 5) {r : Int32 × MD} {xx : XD} {oo : Nat → Int64} (q : RtI g X (some .int) r.1 (xx, r.2, oo)) (v1 : Int32) (v2 : Int32) : ∀ (n : Nat) (v3 : Int32) (v4 : Int32) (v5 : Int32) (m : MD) (h : b_Mo_hang_41 v1 v2 n v3 v4 v5 m = some r), Wk g X 7 41 [(0, .ref (g_a g 83)), (1, .int v1), (2, .int v2), (3, .int v3), (4, .int v4), (5, .int v5)] [] (xx, m, oo) := by
  intro n
  induction n with
  | zero =>
    intro v3 v4 v5 m h
    rw [b_Mo_hang_41] at h
    cases h
  | succ n ih =>
    intro v3 v4 v5 m h
    rw [b_Mo_hang_41] at h
    refine k_iload C d_Mo_hang_41 5 rfl ?_
    refine k_bipush C 20 d_Mo_hang_43 bp_20 ?_
    refine k_icmp_gt C 105 d_Mo_hang_45 (by decide) (fun c1 => ?_) (fun c1 => ?_)
    · have h := (if_pos c1).symm.trans h
      refine k_iload_n C d_Mo_hang_105 2 rfl ?_
      refine k_if_ne C 113 d_Mo_hang_106 (by decide) (fun c2 => ?_) (fun c2 => ?_)
      · have h := (if_neg c2).symm.trans h
        refine k_iload C d_Mo_hang_113 4 rfl ?_
        obtain rfl := Option.some.inj h
        exact k_iret C q d_Mo_hang_115
      · have h := (if_pos c2).symm.trans h
        refine k_iload_n C d_Mo_hang_109 3 rfl ?_
        refine k_goto C 115 d_Mo_hang_110 (by decide) ?_
        obtain rfl := Option.some.inj h
        exact k_iret C q d_Mo_hang_115
    · have h := (if_neg c1).symm.trans h
      refine k_aload_n C d_Mo_hang_48 0 rfl ?_
      refine k_iload C d_Mo_hang_49 5 rfl ?_
      obtain ⟨m3, em3, h⟩ := lt_some h
      refine kp_Mo_88 C em3 d_Mo_hang_51 ?_
      refine k_aload_n C d_Mo_hang_54 0 rfl ?_
      refine k_iload_n C d_Mo_hang_55 1 rfl ?_
      obtain ⟨p4, ep4, h⟩ := bd_some h
      refine k_callVv C q_Mo_154 (fun l => m_Mo_goDays (cx_g C) l v1 m3 xx oo p4 ep4) rfl rfl (rtI_c q) (by decide) sh_Mo rfl rfl rfl rfl d_Mo_hang_56 ?_
      refine k_aload_n C d_Mo_hang_59 0 rfl ?_
      obtain ⟨p5, ep5, h⟩ := bd_some h
      refine k_callVi C q_Mo_212 (fun l => m_Mo_allLonging (cx_g C) l p4.2 xx oo p5 ep5) rfl rfl (rtI_c q) (by decide) sh_Mo rfl rfl rfl rfl d_Mo_hang_60 ?_
      refine k_istore C (lv' := [(6, .int p5.1), (0, .ref (g_a g 83)), (1, .int v1), (2, .int v2), (3, .int v3), (4, .int v4), (5, .int v5)]) d_Mo_hang_63 rfl rfl ?_
      refine k_aload_n C d_Mo_hang_65 1 rfl ?_
      obtain ⟨p6, ep6, h⟩ := bd_some h
      refine k_callVv C q_Mo_183 (fun l => m_Mo_close (cx_g C) l p5.2 xx oo p6 ep6) rfl rfl (rtI_c q) (by decide) sh_Mo rfl rfl rfl rfl d_Mo_hang_66 ?_
      refine k_iload C d_Mo_hang_69 0 rfl ?_
      refine k_iload C d_Mo_hang_71 5 rfl ?_
      refine k_icmp_le C 81 d_Mo_hang_73 (by decide) (fun c7 => ?_) (fun c7 => ?_)
      · have h := (if_pos c7).symm.trans h
        refine k_iload_n C d_Mo_hang_81 4 rfl ?_
        exact k_sub [1, 2, 3, 5, 6, 0] rfl (t_Mo_hang_82 C q v1 v2 v4 v5 p5.1 v3 (b_Mo_hang_41 v1 v2 n) ih p6.2 h)
      · have h := (if_neg c7).symm.trans h
        refine k_iload C d_Mo_hang_76 6 rfl ?_
        refine k_goto C 82 d_Mo_hang_78 (by decide) ?_
        exact k_sub [1, 2, 3, 5, 6, 0] rfl (t_Mo_hang_82 C q v1 v2 v4 v5 p5.1 v5 (b_Mo_hang_41 v1 v2 n) ih p6.2 h)

def f_Mo_hang (v1 : Int32) (v2 : Int32) (m : MD) : Option (Int32 × MD) := lt ((x_up m.1 83 14 0, m.2)) fun (m1 : MD) => (f_Mo_in v1.toInt64 0 60 m1).bind fun p2 => ((if p2.1 = 0 then some ((-1), p2.2) else (f_Mo_in v2.toInt64 0 1 p2.2).bind fun p4 => ((if p4.1 = 0 then some ((-1), p4.2) else (f_Mo_open p4.2).bind fun p6 => (b_Mo_hang_41 v1 v2 fu 0 (-1) 0 p6.2)))))
theorem m_Mo_hang {g : GC} (hg : gOk g) (l : Launch)  (v1 : Int32) (v2 : Int32) (m : MD) (xx : XD) (oo : Nat → Int64) (r : Int32 × MD) (h : f_Mo_hang v1 v2 m = some r) : Mi g l y_Mo_hang c_Mo_hang 7 (some .int) 5 [.ref (g_a g 83), .int v1, .int v2] (xx, m, oo) r.1 (xx, r.2, oo) := by
  refine m_i hg pn_Mo rfl fun X q C => ?_
  refine k_sub (lv' := [(0, .ref (g_a g 83)), (1, .int v1), (2, .int v2)]) [0, 1, 2] rfl ?_
  unfold f_Mo_hang at h
  refine k_aload_n C d_Mo_hang_0 0 rfl ?_
  refine k_iconst C 0 d_Mo_hang_1 ic_0 ?_
  obtain ⟨m1, em1, h⟩ := lt_some h
  refine kp_Mo_71 C em1 d_Mo_hang_2 ?_
  refine k_iload_n C d_Mo_hang_5 1 rfl ?_
  refine k_i2l C d_Mo_hang_6 ?_
  refine k_lconst C 0 d_Mo_hang_7 rfl ?_
  refine k_ldc2 C 60 l_1154 d_Mo_hang_8 ?_
  obtain ⟨p2, ep2, h⟩ := bd_some h
  refine k_callSi C q_Mo_77 (fun l => m_Mo_in (cx_g C) l v1.toInt64 0 60 m1 xx oo p2 ep2) rfl rfl (rtI_c q) rfl rfl rfl d_Mo_hang_11 ?_
  refine k_if_eq C 27 d_Mo_hang_14 (by decide) (fun c3 => ?_) (fun c3 => ?_)
  · have h := (if_pos c3).symm.trans h
    refine k_iconst C (-1) d_Mo_hang_27 ic_m1 ?_
    obtain rfl := Option.some.inj h
    exact k_iret C q d_Mo_hang_28
  · have h := (if_neg c3).symm.trans h
    refine k_iload_n C d_Mo_hang_17 2 rfl ?_
    refine k_i2l C d_Mo_hang_18 ?_
    refine k_lconst C 0 d_Mo_hang_19 rfl ?_
    refine k_lconst C 1 d_Mo_hang_20 rfl ?_
    obtain ⟨p4, ep4, h⟩ := bd_some h
    refine k_callSi C q_Mo_77 (fun l => m_Mo_in (cx_g C) l v2.toInt64 0 1 p2.2 xx oo p4 ep4) rfl rfl (rtI_c q) rfl rfl rfl d_Mo_hang_21 ?_
    refine k_if_ne C 29 d_Mo_hang_24 (by decide) (fun c5 => ?_) (fun c5 => ?_)
    · have h := (if_neg c5).symm.trans h
      refine k_iconst C 0 d_Mo_hang_29 ic_0 ?_
      refine k_istore_n C (lv' := [(3, .int 0), (0, .ref (g_a g 83)), (1, .int v1), (2, .int v2)]) d_Mo_hang_30 rfl rfl ?_
      refine k_iconst C (-1) d_Mo_hang_31 ic_m1 ?_
      refine k_istore C (lv' := [(4, .int (-1)), (3, .int 0), (0, .ref (g_a g 83)), (1, .int v1), (2, .int v2)]) d_Mo_hang_32 rfl rfl ?_
      refine k_aload_n C d_Mo_hang_34 2 rfl ?_
      obtain ⟨p6, ep6, h⟩ := bd_some h
      refine k_callVv C q_Mo_177 (fun l => m_Mo_open (cx_g C) l p4.2 xx oo p6 ep6) rfl rfl (rtI_c q) (by decide) sh_Mo rfl rfl rfl rfl d_Mo_hang_35 ?_
      refine k_iconst C 0 d_Mo_hang_38 ic_0 ?_
      refine k_istore C (lv' := [(5, .int 0), (4, .int (-1)), (3, .int 0), (0, .ref (g_a g 83)), (1, .int v1), (2, .int v2)]) d_Mo_hang_39 rfl rfl ?_
      exact k_sub [3, 4, 5, 2, 1, 0] rfl (t_Mo_hang_41 C q v1 v2 fu 0 (-1) 0 p6.2 h)
    · have h := (if_pos c5).symm.trans h
      refine k_iconst C (-1) d_Mo_hang_27 ic_m1 ?_
      obtain rfl := Option.some.inj h
      exact k_iret C q d_Mo_hang_28

def b_Mo_isRow_89 (v4 : Int32) (m : MD) : Option (Int32 × MD) := (f_Mo_close m).bind fun p1 => (gB v4 (some (v4, p1.2)))
theorem t_Mo_isRow_89 {g : GC} {X : MX} (C : Cx g X c_Mo_isRow 8 n_Mo 5) {r : Int32 × MD} {xx : XD} {oo : Nat → Int64} (q : RtI g X (some .boolean) r.1 (xx, r.2, oo)) (v4 : Int32) (m : MD) (h : b_Mo_isRow_89 v4 m = some r) : Wk g X 8 89 [(0, .ref (g_a g 83)), (4, .int v4)] [] (xx, m, oo) := by
  unfold b_Mo_isRow_89 at h
  refine k_aload_n C d_Mo_isRow_89 0 rfl ?_
  obtain ⟨p1, ep1, h⟩ := bd_some h
  refine k_callVv C q_Mo_183 (fun l => m_Mo_close (cx_g C) l m xx oo p1 ep1) rfl rfl (rtI_c q) (by decide) sh_Mo rfl rfl rfl rfl d_Mo_isRow_90 ?_
  refine k_iload C d_Mo_isRow_93 1 rfl ?_
  obtain ⟨i2, h⟩ := gB_some h
  obtain rfl := Option.some.inj h
  exact k_zret C q i2 d_Mo_isRow_95

def b_Mo_isRow_83 (K6 : Int32 → Int32 → MD → Option (Int32 × MD)) (v1 : Int32) (v2 : Int32) (v3 : Int32) (v4 : Int32) (v5 : Int32) (m : MD) : Option (Int32 × MD) := K6 v4 (v5 + 1) m
theorem t_Mo_isRow_83 {g : GC} {X : MX} (C : Cx g X c_Mo_isRow 8 n_Mo 5) {r : Int32 × MD} {xx : XD} {oo : Nat → Int64} (q : RtI g X (some .boolean) r.1 (xx, r.2, oo)) (v1 : Int32) (v2 : Int32) (v3 : Int32) (v4 : Int32) (v5 : Int32) (K6 : Int32 → Int32 → MD → Option (Int32 × MD)) (hK6 : ∀ (v4 : Int32) (v5 : Int32) (m : MD), K6 v4 v5 m = some r → Wk g X 8 6 [(0, .ref (g_a g 83)), (1, .int v1), (2, .int v2), (3, .int v3), (4, .int v4), (5, .int v5)] [] (xx, m, oo)) (m : MD) (h : b_Mo_isRow_83 K6 v1 v2 v3 v4 v5 m = some r) : Wk g X 8 83 [(0, .ref (g_a g 83)), (1, .int v1), (2, .int v2), (3, .int v3), (4, .int v4), (5, .int v5)] [] (xx, m, oo) := by
  unfold b_Mo_isRow_83 at h
  refine k_inc C (lv' := [(5, .int (v5 + 1)), (0, .ref (g_a g 83)), (1, .int v1), (2, .int v2), (3, .int v3), (4, .int v4)]) d_Mo_isRow_83 5 rfl ic_1 rfl rfl ?_
  refine k_goto C 6 d_Mo_isRow_86 (by decide) ?_
  exact k_sub [1, 2, 3, 4, 5, 0] rfl (hK6 v4 (v5 + 1) m h)

def b_Mo_isRow_65 (K6 : Int32 → Int32 → MD → Option (Int32 × MD)) (v1 : Int32) (v2 : Int32) (v3 : Int32) (v5 : Int32) (vt0 : Int32) (m : MD) : Option (Int32 × MD) := gI v2 7 ((if m.1 87 v2.toNatClampNeg = v3 then b_Mo_isRow_83 K6 v1 v2 v3 vt0 v5 m else (f_Mo_rideOn v2 v3 m).bind fun p3 => (b_Mo_isRow_83 K6 v1 v2 v3 vt0 v5 p3.2)))
theorem t_Mo_isRow_65 {g : GC} {X : MX} (C : Cx g X c_Mo_isRow 8 n_Mo 5) {r : Int32 × MD} {xx : XD} {oo : Nat → Int64} (q : RtI g X (some .boolean) r.1 (xx, r.2, oo)) (v1 : Int32) (v2 : Int32) (v3 : Int32) (v5 : Int32) (vt0 : Int32) (K6 : Int32 → Int32 → MD → Option (Int32 × MD)) (hK6 : ∀ (v4 : Int32) (v5 : Int32) (m : MD), K6 v4 v5 m = some r → Wk g X 8 6 [(0, .ref (g_a g 83)), (1, .int v1), (2, .int v2), (3, .int v3), (4, .int v4), (5, .int v5)] [] (xx, m, oo)) (m : MD) (h : b_Mo_isRow_65 K6 v1 v2 v3 v5 vt0 m = some r) : Wk g X 8 65 [(0, .ref (g_a g 83)), (1, .int v1), (2, .int v2), (3, .int v3), (5, .int v5)] [.int vt0] (xx, m, oo) := by
  unfold b_Mo_isRow_65 at h
  refine k_istore C (lv' := [(4, .int vt0), (0, .ref (g_a g 83)), (1, .int v1), (2, .int v2), (3, .int v3), (5, .int v5)]) d_Mo_isRow_65 rfl rfl ?_
  refine k_aload_n C d_Mo_isRow_67 1 rfl ?_
  refine kg_Mo_19 C d_Mo_isRow_68 ?_
  refine k_iload_n C d_Mo_isRow_71 3 rfl ?_
  obtain ⟨i1, h⟩ := gI_some h
  refine k_ialdM C (by decide) (by decide) i1 d_Mo_isRow_72 ?_
  refine k_iload_n C d_Mo_isRow_73 4 rfl ?_
  refine k_icmp_eq C 83 d_Mo_isRow_74 (by decide) (fun c2 => ?_) (fun c2 => ?_)
  · have h := (if_pos c2).symm.trans h
    exact k_sub [1, 2, 3, 4, 0, 5] rfl (t_Mo_isRow_83 C q v1 v2 v3 vt0 v5 K6 hK6 m h)
  · have h := (if_neg c2).symm.trans h
    refine k_aload_n C d_Mo_isRow_77 1 rfl ?_
    refine k_iload_n C d_Mo_isRow_78 3 rfl ?_
    refine k_iload_n C d_Mo_isRow_79 4 rfl ?_
    obtain ⟨p3, ep3, h⟩ := bd_some h
    refine k_callVv C q_Mo_114 (fun l => m_Mo_rideOn (cx_g C) l v2 v3 m xx oo p3 ep3) rfl rfl (rtI_c q) (by decide) sh_Mo rfl rfl rfl rfl d_Mo_isRow_80 ?_
    exact k_sub [1, 2, 3, 4, 0, 5] rfl (t_Mo_isRow_83 C q v1 v2 v3 vt0 v5 K6 hK6 p3.2 h)

def b_Mo_isRow_60 (K6 : Int32 → Int32 → MD → Option (Int32 × MD)) (v1 : Int32) (v2 : Int32) (v3 : Int32) (v5 : Int32) (m : MD) : Option (Int32 × MD) := b_Mo_isRow_65 K6 v1 v2 v3 v5 1 m
theorem t_Mo_isRow_60 {g : GC} {X : MX} (C : Cx g X c_Mo_isRow 8 n_Mo 5) {r : Int32 × MD} {xx : XD} {oo : Nat → Int64} (q : RtI g X (some .boolean) r.1 (xx, r.2, oo)) (v1 : Int32) (v2 : Int32) (v3 : Int32) (v5 : Int32) (K6 : Int32 → Int32 → MD → Option (Int32 × MD)) (hK6 : ∀ (v4 : Int32) (v5 : Int32) (m : MD), K6 v4 v5 m = some r → Wk g X 8 6 [(0, .ref (g_a g 83)), (1, .int v1), (2, .int v2), (3, .int v3), (4, .int v4), (5, .int v5)] [] (xx, m, oo)) (m : MD) (h : b_Mo_isRow_60 K6 v1 v2 v3 v5 m = some r) : Wk g X 8 60 [(0, .ref (g_a g 83)), (1, .int v1), (2, .int v2), (3, .int v3), (5, .int v5)] [] (xx, m, oo) := by
  unfold b_Mo_isRow_60 at h
  refine k_iconst C 1 d_Mo_isRow_60 ic_1 ?_
  refine k_goto C 65 d_Mo_isRow_61 (by decide) ?_
  exact k_sub [0, 1, 2, 3, 4] rfl (t_Mo_isRow_65 C q v1 v2 v3 v5 1 K6 hK6 m h)

def b_Mo_isRow_6 (v1 : Int32) (v2 : Int32) (v3 : Int32) : Nat → Int32 → Int32 → MD → Option (Int32 × MD)
  | 0, _, _, _ => none
  | n + 1, v4, v5, m => gI v1 8 ((if m.1 93 v1.toNatClampNeg ≤ v5 then b_Mo_isRow_89 v4 m else (if v4 = 0 then b_Mo_isRow_89 v4 m else gI ((100 * v1) + v5) 800 ((f_Mo_skipped v1 m).bind fun p5 => ((if lg_cmp (m.2.1 94 ((100 * v1) + v5).toNatClampNeg) p5.1 = 0 then b_Mo_isRow_60 (b_Mo_isRow_6 v1 v2 v3 n) v1 v2 v3 v5 p5.2 else gI v2 7 ((if lg_cmp (m.2.1 94 ((100 * v1) + v5).toNatClampNeg) ((p5.2.1 87 v2.toNatClampNeg).toInt64) = 0 then b_Mo_isRow_60 (b_Mo_isRow_6 v1 v2 v3 n) v1 v2 v3 v5 p5.2 else b_Mo_isRow_65 (b_Mo_isRow_6 v1 v2 v3 n) v1 v2 v3 v5 0 p5.2))))))))
theorem t_Mo_isRow_6 {g : GC} {X : MX} (C : Cx g X c_Mo_isRow 8 n_Mo 5) {r : Int32 × MD} {xx : XD} {oo : Nat → Int64} (q : RtI g X (some .boolean) r.1 (xx, r.2, oo)) (v1 : Int32) (v2 : Int32) (v3 : Int32) : ∀ (n : Nat) (v4 : Int32) (v5 : Int32) (m : MD) (h : b_Mo_isRow_6 v1 v2 v3 n v4 v5 m = some r), Wk g X 8 6 [(0, .ref (g_a g 83)), (1, .int v1), (2, .int v2), (3, .int v3), (4, .int v4), (5, .int v5)] [] (xx, m, oo) := by
  intro n
  induction n with
  | zero =>
    intro v4 v5 m h
    rw [b_Mo_isRow_6] at h
    cases h
  | succ n ih =>
    intro v4 v5 m h
    rw [b_Mo_isRow_6] at h
    refine k_iload C d_Mo_isRow_6 5 rfl ?_
    refine k_aload_n C d_Mo_isRow_8 0 rfl ?_
    refine kg_Mo_37 C d_Mo_isRow_9 ?_
    refine k_iload_n C d_Mo_isRow_12 1 rfl ?_
    obtain ⟨i1, h⟩ := gI_some h
    refine k_ialdM C (by decide) (by decide) i1 d_Mo_isRow_13 ?_
    refine k_icmp_ge C 89 d_Mo_isRow_14 (by decide) (fun c2 => ?_) (fun c2 => ?_)
    · have h := (if_pos c2).symm.trans h
      exact k_sub [0, 4] rfl (t_Mo_isRow_89 C q v4 m h)
    · have h := (if_neg c2).symm.trans h
      refine k_iload C d_Mo_isRow_17 4 rfl ?_
      refine k_if_eq C 89 d_Mo_isRow_19 (by decide) (fun c3 => ?_) (fun c3 => ?_)
      · have h := (if_pos c3).symm.trans h
        exact k_sub [0, 4] rfl (t_Mo_isRow_89 C q v4 m h)
      · have h := (if_neg c3).symm.trans h
        refine k_aload_n C d_Mo_isRow_22 0 rfl ?_
        refine kg_Mo_40 C d_Mo_isRow_23 ?_
        refine k_bipush C 100 d_Mo_isRow_26 bp_100 ?_
        refine k_iload_n C d_Mo_isRow_28 1 rfl ?_
        refine k_imul C d_Mo_isRow_29 ?_
        refine k_iload C d_Mo_isRow_30 5 rfl ?_
        refine k_iadd C d_Mo_isRow_32 ?_
        obtain ⟨i4, h⟩ := gI_some h
        refine k_lald94 C i4 d_Mo_isRow_33 ?_
        refine k_lstore C (lv' := [(6, .long (m.2.1 94 ((100 * v1) + v5).toNatClampNeg)), (0, .ref (g_a g 83)), (1, .int v1), (2, .int v2), (3, .int v3), (4, .int v4), (5, .int v5)]) d_Mo_isRow_34 rfl rfl ?_
        refine k_lload C d_Mo_isRow_36 0 rfl ?_
        refine k_aload_n C d_Mo_isRow_38 1 rfl ?_
        refine k_iload_n C d_Mo_isRow_39 2 rfl ?_
        obtain ⟨p5, ep5, h⟩ := bd_some h
        refine k_callVl C q_Mo_251 (fun l => m_Mo_skipped (cx_g C) l v1 m xx oo p5 ep5) rfl rfl (rtI_c q) (by decide) sh_Mo rfl rfl rfl rfl d_Mo_isRow_40 ?_
        refine k_lcmp C d_Mo_isRow_43 ?_
        refine k_if_eq C 60 d_Mo_isRow_44 (by decide) (fun c6 => ?_) (fun c6 => ?_)
        · have h := (if_pos c6).symm.trans h
          exact k_sub [1, 2, 3, 4, 6] rfl (t_Mo_isRow_60 C q v1 v2 v3 v5 (b_Mo_isRow_6 v1 v2 v3 n) ih p5.2 h)
        · have h := (if_neg c6).symm.trans h
          refine k_lload C d_Mo_isRow_47 0 rfl ?_
          refine k_aload_n C d_Mo_isRow_49 1 rfl ?_
          refine kg_Mo_19 C d_Mo_isRow_50 ?_
          refine k_iload_n C d_Mo_isRow_53 3 rfl ?_
          obtain ⟨i7, h⟩ := gI_some h
          refine k_ialdM C (by decide) (by decide) i7 d_Mo_isRow_54 ?_
          refine k_i2l C d_Mo_isRow_55 ?_
          refine k_lcmp C d_Mo_isRow_56 ?_
          refine k_if_ne C 64 d_Mo_isRow_57 (by decide) (fun c8 => ?_) (fun c8 => ?_)
          · have h := (if_neg c8).symm.trans h
            refine k_iconst C 0 d_Mo_isRow_64 ic_0 ?_
            exact k_sub [1, 2, 3, 4, 6] rfl (t_Mo_isRow_65 C q v1 v2 v3 v5 0 (b_Mo_isRow_6 v1 v2 v3 n) ih p5.2 h)
          · have h := (if_pos c8).symm.trans h
            exact k_sub [1, 2, 3, 4, 6] rfl (t_Mo_isRow_60 C q v1 v2 v3 v5 (b_Mo_isRow_6 v1 v2 v3 n) ih p5.2 h)

def f_Mo_isRow (v1 : Int32) (v2 : Int32) (v3 : Int32) (m : MD) : Option (Int32 × MD) := b_Mo_isRow_6 v1 v2 v3 fu 1 0 m
theorem m_Mo_isRow {g : GC} (hg : gOk g) (l : Launch)  (v1 : Int32) (v2 : Int32) (v3 : Int32) (m : MD) (xx : XD) (oo : Nat → Int64) (r : Int32 × MD) (h : f_Mo_isRow v1 v2 v3 m = some r) : Mi g l y_Mo_isRow c_Mo_isRow 8 (some .boolean) 5 [.ref (g_a g 83), .int v1, .int v2, .int v3] (xx, m, oo) r.1 (xx, r.2, oo) := by
  refine m_i hg pn_Mo rfl fun X q C => ?_
  refine k_sub (lv' := [(0, .ref (g_a g 83)), (1, .int v1), (2, .int v2), (3, .int v3)]) [0, 1, 2, 3] rfl ?_
  unfold f_Mo_isRow at h
  refine k_iconst C 1 d_Mo_isRow_0 ic_1 ?_
  refine k_istore C (lv' := [(4, .int 1), (0, .ref (g_a g 83)), (1, .int v1), (2, .int v2), (3, .int v3)]) d_Mo_isRow_1 rfl rfl ?_
  refine k_iconst C 0 d_Mo_isRow_3 ic_0 ?_
  refine k_istore C (lv' := [(5, .int 0), (4, .int 1), (0, .ref (g_a g 83)), (1, .int v1), (2, .int v2), (3, .int v3)]) d_Mo_isRow_4 rfl rfl ?_
  exact k_sub [2, 3, 4, 5, 1, 0] rfl (t_Mo_isRow_6 C q v1 v2 v3 fu 1 0 m h)

def b_Mo_lands_104 (K44 : Int32 → Int32 → MD → Option (Int32 × MD)) (v1 : Int32) (v3 : Int32) (v5 : Int32) (vt0 : Int32) (vt1 : Int32) (m : MD) : Option (Int32 × MD) := (f_Mo_close m).bind fun p1 => (K44 (vt0 + vt1) (v5 + 1) p1.2)
theorem t_Mo_lands_104 {g : GC} {X : MX} (C : Cx g X c_Mo_lands 7 n_Mo 5) {r : Int32 × MD} {xx : XD} {oo : Nat → Int64} (q : RtI g X (some .int) r.1 (xx, r.2, oo)) (v1 : Int32) (v3 : Int32) (v5 : Int32) (vt0 : Int32) (vt1 : Int32) (K44 : Int32 → Int32 → MD → Option (Int32 × MD)) (hK44 : ∀ (v4 : Int32) (v5 : Int32) (m : MD), K44 v4 v5 m = some r → Wk g X 7 44 [(0, .ref (g_a g 83)), (1, .int v1), (3, .int v3), (4, .int v4), (5, .int v5)] [] (xx, m, oo)) (m : MD) (h : b_Mo_lands_104 K44 v1 v3 v5 vt0 vt1 m = some r) : Wk g X 7 104 [(0, .ref (g_a g 83)), (1, .int v1), (3, .int v3), (5, .int v5)] [.int vt1, .int vt0] (xx, m, oo) := by
  unfold b_Mo_lands_104 at h
  refine k_iadd C d_Mo_lands_104 ?_
  refine k_istore C (lv' := [(4, .int (vt0 + vt1)), (0, .ref (g_a g 83)), (1, .int v1), (3, .int v3), (5, .int v5)]) d_Mo_lands_105 rfl rfl ?_
  refine k_aload_n C d_Mo_lands_107 1 rfl ?_
  obtain ⟨p1, ep1, h⟩ := bd_some h
  refine k_callVv C q_Mo_183 (fun l => m_Mo_close (cx_g C) l m xx oo p1 ep1) rfl rfl (rtI_c q) (by decide) sh_Mo rfl rfl rfl rfl d_Mo_lands_108 ?_
  refine k_inc C (lv' := [(5, .int (v5 + 1)), (4, .int (vt0 + vt1)), (0, .ref (g_a g 83)), (1, .int v1), (3, .int v3)]) d_Mo_lands_111 4 rfl ic_1 rfl rfl ?_
  refine k_goto C 44 d_Mo_lands_114 (by decide) ?_
  exact k_sub [2, 3, 4, 1, 0] rfl (hK44 (vt0 + vt1) (v5 + 1) p1.2 h)

def b_Mo_lands_53 (K44 : Int32 → Int32 → MD → Option (Int32 × MD)) (v1 : Int32) (v3 : Int32) (v4 : Int32) (v5 : Int32) : Nat → Int32 → MD → Option (Int32 × MD)
  | 0, _, _ => none
  | n + 1, v6, m => (if m.1 83 0 ≤ v6 then (f_Mo_goDays 10 m).bind fun p2 => ((if v3 = 0 then (f_Mo_allLonging p2.2).bind fun p5 => (b_Mo_lands_104 K44 v1 v3 v5 v4 p5.1 p5.2) else (f_Mo_atGoals p2.2).bind fun p4 => (b_Mo_lands_104 K44 v1 v3 v5 v4 p4.1 p4.2))) else (f_Mo_drawBelow 21 m).bind fun p6 => (gI v6 7 (lt ((x_up p6.2.1 87 v6.toNatClampNeg p6.1, p6.2.2)) fun (m7 : MD) => b_Mo_lands_53 K44 v1 v3 v4 v5 n (v6 + 1) m7)))
theorem t_Mo_lands_53 {g : GC} {X : MX} (C : Cx g X c_Mo_lands 7 n_Mo 5) {r : Int32 × MD} {xx : XD} {oo : Nat → Int64} (q : RtI g X (some .int) r.1 (xx, r.2, oo)) (v1 : Int32) (v3 : Int32) (v4 : Int32) (v5 : Int32) (K44 : Int32 → Int32 → MD → Option (Int32 × MD)) (hK44 : ∀ (v4 : Int32) (v5 : Int32) (m : MD), K44 v4 v5 m = some r → Wk g X 7 44 [(0, .ref (g_a g 83)), (1, .int v1), (3, .int v3), (4, .int v4), (5, .int v5)] [] (xx, m, oo)) : ∀ (n : Nat) (v6 : Int32) (m : MD) (h : b_Mo_lands_53 K44 v1 v3 v4 v5 n v6 m = some r), Wk g X 7 53 [(0, .ref (g_a g 83)), (1, .int v1), (3, .int v3), (4, .int v4), (5, .int v5), (6, .int v6)] [] (xx, m, oo) := by
  intro n
  induction n with
  | zero =>
    intro v6 m h
    rw [b_Mo_lands_53] at h
    cases h
  | succ n ih =>
    intro v6 m h
    rw [b_Mo_lands_53] at h
    refine k_iload C d_Mo_lands_53 5 rfl ?_
    refine k_aload_n C d_Mo_lands_55 0 rfl ?_
    refine kg_Mo_81 C d_Mo_lands_56 ?_
    refine k_icmp_ge C 81 d_Mo_lands_59 (by decide) (fun c1 => ?_) (fun c1 => ?_)
    · have h := (if_pos c1).symm.trans h
      refine k_aload_n C d_Mo_lands_81 0 rfl ?_
      refine k_bipush C 10 d_Mo_lands_82 bp_10 ?_
      obtain ⟨p2, ep2, h⟩ := bd_some h
      refine k_callVv C q_Mo_154 (fun l => m_Mo_goDays (cx_g C) l 10 m xx oo p2 ep2) rfl rfl (rtI_c q) (by decide) sh_Mo rfl rfl rfl rfl d_Mo_lands_84 ?_
      refine k_iload C d_Mo_lands_87 3 rfl ?_
      refine k_iload_n C d_Mo_lands_89 2 rfl ?_
      refine k_if_ne C 100 d_Mo_lands_90 (by decide) (fun c3 => ?_) (fun c3 => ?_)
      · have h := (if_neg c3).symm.trans h
        refine k_aload_n C d_Mo_lands_100 0 rfl ?_
        obtain ⟨p4, ep4, h⟩ := bd_some h
        refine k_callVi C q_Mo_291 (fun l => m_Mo_atGoals (cx_g C) l p2.2 xx oo p4 ep4) rfl rfl (rtI_c q) (by decide) sh_Mo rfl rfl rfl rfl d_Mo_lands_101 ?_
        exact k_sub [0, 1, 2, 4] rfl (t_Mo_lands_104 C q v1 v3 v5 v4 p4.1 K44 hK44 p4.2 h)
      · have h := (if_pos c3).symm.trans h
        refine k_aload_n C d_Mo_lands_93 0 rfl ?_
        obtain ⟨p5, ep5, h⟩ := bd_some h
        refine k_callVi C q_Mo_212 (fun l => m_Mo_allLonging (cx_g C) l p2.2 xx oo p5 ep5) rfl rfl (rtI_c q) (by decide) sh_Mo rfl rfl rfl rfl d_Mo_lands_94 ?_
        refine k_goto C 104 d_Mo_lands_97 (by decide) ?_
        exact k_sub [0, 1, 2, 4] rfl (t_Mo_lands_104 C q v1 v3 v5 v4 p5.1 K44 hK44 p5.2 h)
    · have h := (if_neg c1).symm.trans h
      refine k_aload_n C d_Mo_lands_62 0 rfl ?_
      refine kg_Mo_19 C d_Mo_lands_63 ?_
      refine k_iload C d_Mo_lands_66 5 rfl ?_
      refine k_aload_n C d_Mo_lands_68 0 rfl ?_
      refine k_bipush C 21 d_Mo_lands_69 bp_21 ?_
      obtain ⟨p6, ep6, h⟩ := bd_some h
      refine k_callVi C q_Mo_288 (fun l => m_Mo_drawBelow (cx_g C) l 21 m xx oo p6 ep6) rfl rfl (rtI_c q) (by decide) sh_Mo rfl rfl rfl rfl d_Mo_lands_71 ?_
      obtain ⟨i8, h⟩ := gI_some h
      obtain ⟨m7, em7, h⟩ := lt_some h
      refine k_iastM C (by decide) (by decide) i8 em7 d_Mo_lands_74 ?_
      refine k_inc C (lv' := [(6, .int (v6 + 1)), (0, .ref (g_a g 83)), (1, .int v1), (3, .int v3), (4, .int v4), (5, .int v5)]) d_Mo_lands_75 5 rfl ic_1 rfl rfl ?_
      refine k_goto C 53 d_Mo_lands_78 (by decide) ?_
      exact k_sub [1, 2, 3, 4, 5, 0] rfl (ih (v6 + 1) m7 h)

def b_Mo_lands_44 (v1 : Int32) (v3 : Int32) : Nat → Int32 → Int32 → MD → Option (Int32 × MD)
  | 0, _, _, _ => none
  | n + 1, v4, v5, m => (if v1 ≤ v5 then some (v4, m) else b_Mo_lands_53 (b_Mo_lands_44 v1 v3 n) v1 v3 v4 v5 fu 0 m)
theorem t_Mo_lands_44 {g : GC} {X : MX} (C : Cx g X c_Mo_lands 7 n_Mo 5) {r : Int32 × MD} {xx : XD} {oo : Nat → Int64} (q : RtI g X (some .int) r.1 (xx, r.2, oo)) (v1 : Int32) (v3 : Int32) : ∀ (n : Nat) (v4 : Int32) (v5 : Int32) (m : MD) (h : b_Mo_lands_44 v1 v3 n v4 v5 m = some r), Wk g X 7 44 [(0, .ref (g_a g 83)), (1, .int v1), (3, .int v3), (4, .int v4), (5, .int v5)] [] (xx, m, oo) := by
  intro n
  induction n with
  | zero =>
    intro v4 v5 m h
    rw [b_Mo_lands_44] at h
    cases h
  | succ n ih =>
    intro v4 v5 m h
    rw [b_Mo_lands_44] at h
    refine k_iload C d_Mo_lands_44 4 rfl ?_
    refine k_iload_n C d_Mo_lands_46 1 rfl ?_
    refine k_icmp_ge C 117 d_Mo_lands_47 (by decide) (fun c1 => ?_) (fun c1 => ?_)
    · have h := (if_pos c1).symm.trans h
      refine k_iload C d_Mo_lands_117 3 rfl ?_
      obtain rfl := Option.some.inj h
      exact k_iret C q d_Mo_lands_119
    · have h := (if_neg c1).symm.trans h
      refine k_iconst C 0 d_Mo_lands_50 ic_0 ?_
      refine k_istore C (lv' := [(6, .int 0), (0, .ref (g_a g 83)), (1, .int v1), (3, .int v3), (4, .int v4), (5, .int v5)]) d_Mo_lands_51 rfl rfl ?_
      exact k_sub [1, 2, 3, 4, 5, 0] rfl (t_Mo_lands_53 C q v1 v3 v4 v5 (b_Mo_lands_44 v1 v3 n) ih fu 0 m h)

def f_Mo_lands (v1 : Int32) (v2 : Int32) (v3 : Int32) (m : MD) : Option (Int32 × MD) := lt ((x_up m.1 83 14 0, m.2)) fun (m1 : MD) => (f_Mo_in v1.toInt64 1 20 m1).bind fun p2 => ((if p2.1 = 0 then some ((-1), p2.2) else (f_Mo_in v3.toInt64 0 1 p2.2).bind fun p4 => ((if p4.1 = 0 then some ((-1), p4.2) else lt ((x_up p4.2.1 83 33 v2, p4.2.2)) fun (m6 : MD) => (f_Mo_open m6).bind fun p7 => (b_Mo_lands_44 v1 v3 fu 0 0 p7.2)))))
theorem m_Mo_lands {g : GC} (hg : gOk g) (l : Launch)  (v1 : Int32) (v2 : Int32) (v3 : Int32) (m : MD) (xx : XD) (oo : Nat → Int64) (r : Int32 × MD) (h : f_Mo_lands v1 v2 v3 m = some r) : Mi g l y_Mo_lands c_Mo_lands 7 (some .int) 5 [.ref (g_a g 83), .int v1, .int v2, .int v3] (xx, m, oo) r.1 (xx, r.2, oo) := by
  refine m_i hg pn_Mo rfl fun X q C => ?_
  refine k_sub (lv' := [(0, .ref (g_a g 83)), (1, .int v1), (2, .int v2), (3, .int v3)]) [0, 1, 2, 3] rfl ?_
  unfold f_Mo_lands at h
  refine k_aload_n C d_Mo_lands_0 0 rfl ?_
  refine k_iconst C 0 d_Mo_lands_1 ic_0 ?_
  obtain ⟨m1, em1, h⟩ := lt_some h
  refine kp_Mo_71 C em1 d_Mo_lands_2 ?_
  refine k_iload_n C d_Mo_lands_5 1 rfl ?_
  refine k_i2l C d_Mo_lands_6 ?_
  refine k_lconst C 1 d_Mo_lands_7 rfl ?_
  refine k_ldc2 C 20 l_1111 d_Mo_lands_8 ?_
  obtain ⟨p2, ep2, h⟩ := bd_some h
  refine k_callSi C q_Mo_77 (fun l => m_Mo_in (cx_g C) l v1.toInt64 1 20 m1 xx oo p2 ep2) rfl rfl (rtI_c q) rfl rfl rfl d_Mo_lands_11 ?_
  refine k_if_eq C 27 d_Mo_lands_14 (by decide) (fun c3 => ?_) (fun c3 => ?_)
  · have h := (if_pos c3).symm.trans h
    refine k_iconst C (-1) d_Mo_lands_27 ic_m1 ?_
    obtain rfl := Option.some.inj h
    exact k_iret C q d_Mo_lands_28
  · have h := (if_neg c3).symm.trans h
    refine k_iload_n C d_Mo_lands_17 3 rfl ?_
    refine k_i2l C d_Mo_lands_18 ?_
    refine k_lconst C 0 d_Mo_lands_19 rfl ?_
    refine k_lconst C 1 d_Mo_lands_20 rfl ?_
    obtain ⟨p4, ep4, h⟩ := bd_some h
    refine k_callSi C q_Mo_77 (fun l => m_Mo_in (cx_g C) l v3.toInt64 0 1 p2.2 xx oo p4 ep4) rfl rfl (rtI_c q) rfl rfl rfl d_Mo_lands_21 ?_
    refine k_if_ne C 29 d_Mo_lands_24 (by decide) (fun c5 => ?_) (fun c5 => ?_)
    · have h := (if_neg c5).symm.trans h
      refine k_aload_n C d_Mo_lands_29 0 rfl ?_
      refine k_iload_n C d_Mo_lands_30 2 rfl ?_
      obtain ⟨m6, em6, h⟩ := lt_some h
      refine kp_Mo_282 C em6 d_Mo_lands_31 ?_
      refine k_iconst C 0 d_Mo_lands_34 ic_0 ?_
      refine k_istore C (lv' := [(4, .int 0), (0, .ref (g_a g 83)), (1, .int v1), (2, .int v2), (3, .int v3)]) d_Mo_lands_35 rfl rfl ?_
      refine k_aload_n C d_Mo_lands_37 1 rfl ?_
      obtain ⟨p7, ep7, h⟩ := bd_some h
      refine k_callVv C q_Mo_177 (fun l => m_Mo_open (cx_g C) l m6 xx oo p7 ep7) rfl rfl (rtI_c q) (by decide) sh_Mo rfl rfl rfl rfl d_Mo_lands_38 ?_
      refine k_iconst C 0 d_Mo_lands_41 ic_0 ?_
      refine k_istore C (lv' := [(5, .int 0), (4, .int 0), (0, .ref (g_a g 83)), (1, .int v1), (2, .int v2), (3, .int v3)]) d_Mo_lands_42 rfl rfl ?_
      exact k_sub [2, 3, 5, 1, 0] rfl (t_Mo_lands_44 C q v1 v3 fu 0 0 p7.2 h)
    · have h := (if_pos c5).symm.trans h
      refine k_iconst C (-1) d_Mo_lands_27 ic_m1 ?_
      obtain rfl := Option.some.inj h
      exact k_iret C q d_Mo_lands_28

def b_Mo_ride_2 (v1 : Int32) (v2 : Int32) : Nat → Int32 → MD → Option (Int32 × MD)
  | 0, _, _ => none
  | n + 1, v3, m => gI v1 7 ((if m.1 87 v1.toNatClampNeg = v2 then some (v3, m) else (f_Mo_rideOn v1 v2 m).bind fun p3 => (b_Mo_ride_2 v1 v2 n (v3 + 1) p3.2)))
theorem t_Mo_ride_2 {g : GC} {X : MX} (C : Cx g X c_Mo_ride 4 n_Mo 5) {r : Int32 × MD} {xx : XD} {oo : Nat → Int64} (q : RtI g X (some .int) r.1 (xx, r.2, oo)) (v1 : Int32) (v2 : Int32) : ∀ (n : Nat) (v3 : Int32) (m : MD) (h : b_Mo_ride_2 v1 v2 n v3 m = some r), Wk g X 4 2 [(0, .ref (g_a g 83)), (1, .int v1), (2, .int v2), (3, .int v3)] [] (xx, m, oo) := by
  intro n
  induction n with
  | zero =>
    intro v3 m h
    rw [b_Mo_ride_2] at h
    cases h
  | succ n ih =>
    intro v3 m h
    rw [b_Mo_ride_2] at h
    refine k_aload_n C d_Mo_ride_2 0 rfl ?_
    refine kg_Mo_19 C d_Mo_ride_3 ?_
    refine k_iload_n C d_Mo_ride_6 1 rfl ?_
    obtain ⟨i1, h⟩ := gI_some h
    refine k_ialdM C (by decide) (by decide) i1 d_Mo_ride_7 ?_
    refine k_iload_n C d_Mo_ride_8 2 rfl ?_
    refine k_icmp_eq C 24 d_Mo_ride_9 (by decide) (fun c2 => ?_) (fun c2 => ?_)
    · have h := (if_pos c2).symm.trans h
      refine k_iload_n C d_Mo_ride_24 3 rfl ?_
      obtain rfl := Option.some.inj h
      exact k_iret C q d_Mo_ride_25
    · have h := (if_neg c2).symm.trans h
      refine k_aload_n C d_Mo_ride_12 0 rfl ?_
      refine k_iload_n C d_Mo_ride_13 1 rfl ?_
      refine k_iload_n C d_Mo_ride_14 2 rfl ?_
      obtain ⟨p3, ep3, h⟩ := bd_some h
      refine k_callVv C q_Mo_114 (fun l => m_Mo_rideOn (cx_g C) l v1 v2 m xx oo p3 ep3) rfl rfl (rtI_c q) (by decide) sh_Mo rfl rfl rfl rfl d_Mo_ride_15 ?_
      refine k_inc C (lv' := [(3, .int (v3 + 1)), (0, .ref (g_a g 83)), (1, .int v1), (2, .int v2)]) d_Mo_ride_18 3 rfl ic_1 rfl rfl ?_
      refine k_goto C 2 d_Mo_ride_21 (by decide) ?_
      exact k_sub [1, 2, 3, 0] rfl (ih (v3 + 1) p3.2 h)

def f_Mo_ride (v1 : Int32) (v2 : Int32) (m : MD) : Option (Int32 × MD) := b_Mo_ride_2 v1 v2 fu 0 m
theorem m_Mo_ride {g : GC} (hg : gOk g) (l : Launch)  (v1 : Int32) (v2 : Int32) (m : MD) (xx : XD) (oo : Nat → Int64) (r : Int32 × MD) (h : f_Mo_ride v1 v2 m = some r) : Mi g l y_Mo_ride c_Mo_ride 4 (some .int) 5 [.ref (g_a g 83), .int v1, .int v2] (xx, m, oo) r.1 (xx, r.2, oo) := by
  refine m_i hg pn_Mo rfl fun X q C => ?_
  refine k_sub (lv' := [(0, .ref (g_a g 83)), (1, .int v1), (2, .int v2)]) [0, 1, 2] rfl ?_
  unfold f_Mo_ride at h
  refine k_iconst C 0 d_Mo_ride_0 ic_0 ?_
  refine k_istore_n C (lv' := [(3, .int 0), (0, .ref (g_a g 83)), (1, .int v1), (2, .int v2)]) d_Mo_ride_1 rfl rfl ?_
  exact k_sub [1, 2, 3, 0] rfl (t_Mo_ride_2 C q v1 v2 fu 0 m h)

def b_Mo_comesTold_159 (v4 : Int32) (vt1 : Int32) (m : MD) : Option (Int32 × MD) := lt ((x_up m.1 83 6 vt1, m.2)) fun (m1 : MD) => gB v4 (some (v4, m1))
theorem t_Mo_comesTold_159 {g : GC} {X : MX} (C : Cx g X c_Mo_comesTold 5 n_Mo 6) {r : Int32 × MD} {xx : XD} {oo : Nat → Int64} (q : RtI g X (some .boolean) r.1 (xx, r.2, oo)) (v4 : Int32) (vt1 : Int32) (m : MD) (h : b_Mo_comesTold_159 v4 vt1 m = some r) : Wk g X 5 159 [(4, .int v4)] [.int vt1, .ref (g_a g 83)] (xx, m, oo) := by
  unfold b_Mo_comesTold_159 at h
  obtain ⟨m1, em1, h⟩ := lt_some h
  refine kp_Mo_88 C em1 d_Mo_comesTold_159 ?_
  refine k_iload C d_Mo_comesTold_162 0 rfl ?_
  obtain ⟨i2, h⟩ := gB_some h
  obtain rfl := Option.some.inj h
  exact k_zret C q i2 d_Mo_comesTold_164

def f_Mo_comesTold (v1 : Int32) (m : MD) : Option (Int32 × MD) := gI (4 * v1) 204 (gI ((4 * v1) + 1) 204 (gI v1 51 (lt (m.1 96 v1.toNatClampNeg) fun (y4 : Int32) => (if y4 = 100 then (f_Mo_daysCome (m.1 97 (4 * v1).toNatClampNeg) m).bind fun p6 => (gB p6.1 (some (p6.1, p6.2))) else (if y4 = 104 then gI ((4 * v1) + 2) 204 (gI ((4 * v1) + 3) 204 ((f_Mo_horseComes (m.1 97 (4 * v1).toNatClampNeg) (m.1 97 ((4 * v1) + 1).toNatClampNeg) (m.1 97 ((4 * v1) + 2).toNatClampNeg) (m.1 97 ((4 * v1) + 3).toNatClampNeg) m).bind fun p11 => (gB p11.1 (some (p11.1, p11.2))))) else (if y4 = 111 then (f_Mo_isYard (m.1 97 (4 * v1).toNatClampNeg) m).bind fun p14 => ((if p14.1 = 0 then b_Mo_comesTold_159 p14.1 (p14.2.1 83 6) p14.2 else b_Mo_comesTold_159 p14.1 (m.1 97 (4 * v1).toNatClampNeg) p14.2)) else (if y4 = 114 then (f_Mo_isHorse (m.1 97 (4 * v1).toNatClampNeg) m).bind fun p17 => ((if p17.1 = 0 then some (0, p17.2) else (f_Mo_isYard (m.1 97 ((4 * v1) + 1).toNatClampNeg) p17.2).bind fun p19 => ((if p19.1 = 0 then some (0, p19.2) else (f_Mo_ride (m.1 97 (4 * v1).toNatClampNeg) (m.1 97 ((4 * v1) + 1).toNatClampNeg) p19.2).bind fun p21 => ((if 999 < p21.2.1 83 7 then some (0, p21.2) else some (1, p21.2))))))) else ((f_Mo_isHorse (m.1 97 (4 * v1).toNatClampNeg) m).bind fun p23 => ((if p23.1 = 0 then gB p23.1 (some (p23.1, p23.2)) else gI (m.1 97 (4 * v1).toNatClampNeg) 7 (lt ((x_up p23.2.1 88 (m.1 97 (4 * v1).toNatClampNeg).toNatClampNeg (m.1 97 ((4 * v1) + 1).toNatClampNeg), p23.2.2)) fun (m26 : MD) => gB p23.1 (some (p23.1, m26)))))))))))))
theorem m_Mo_comesTold {g : GC} (hg : gOk g) (l : Launch)  (v1 : Int32) (m : MD) (xx : XD) (oo : Nat → Int64) (r : Int32 × MD) (h : f_Mo_comesTold v1 m = some r) : Mi g l y_Mo_comesTold c_Mo_comesTold 5 (some .boolean) 6 [.ref (g_a g 83), .int v1] (xx, m, oo) r.1 (xx, r.2, oo) := by
  refine m_i hg pn_Mo rfl fun X q C => ?_
  refine k_sub (lv' := [(0, .ref (g_a g 83)), (1, .int v1)]) [0, 1] rfl ?_
  unfold f_Mo_comesTold at h
  refine k_aload_n C d_Mo_comesTold_0 0 rfl ?_
  refine kg_Mo_50 C d_Mo_comesTold_1 ?_
  refine k_iconst C 4 d_Mo_comesTold_4 ic_4 ?_
  refine k_iload_n C d_Mo_comesTold_5 1 rfl ?_
  refine k_imul C d_Mo_comesTold_6 ?_
  obtain ⟨i1, h⟩ := gI_some h
  refine k_ialdM C (by decide) (by decide) i1 d_Mo_comesTold_7 ?_
  refine k_istore_n C (lv' := [(2, .int (m.1 97 (4 * v1).toNatClampNeg)), (0, .ref (g_a g 83)), (1, .int v1)]) d_Mo_comesTold_8 rfl rfl ?_
  refine k_aload_n C d_Mo_comesTold_9 1 rfl ?_
  refine kg_Mo_50 C d_Mo_comesTold_10 ?_
  refine k_iconst C 4 d_Mo_comesTold_13 ic_4 ?_
  refine k_iload_n C d_Mo_comesTold_14 2 rfl ?_
  refine k_imul C d_Mo_comesTold_15 ?_
  refine k_iconst C 1 d_Mo_comesTold_16 ic_1 ?_
  refine k_iadd C d_Mo_comesTold_17 ?_
  obtain ⟨i2, h⟩ := gI_some h
  refine k_ialdM C (by decide) (by decide) i2 d_Mo_comesTold_18 ?_
  refine k_istore_n C (lv' := [(3, .int (m.1 97 ((4 * v1) + 1).toNatClampNeg)), (2, .int (m.1 97 (4 * v1).toNatClampNeg)), (0, .ref (g_a g 83)), (1, .int v1)]) d_Mo_comesTold_19 rfl rfl ?_
  refine k_iconst C 1 d_Mo_comesTold_20 ic_1 ?_
  refine k_istore C (lv' := [(4, .int 1), (3, .int (m.1 97 ((4 * v1) + 1).toNatClampNeg)), (2, .int (m.1 97 (4 * v1).toNatClampNeg)), (0, .ref (g_a g 83)), (1, .int v1)]) d_Mo_comesTold_21 rfl rfl ?_
  refine k_aload_n C d_Mo_comesTold_23 3 rfl ?_
  refine kg_Mo_47 C d_Mo_comesTold_24 ?_
  refine k_iload_n C d_Mo_comesTold_27 4 rfl ?_
  obtain ⟨i3, h⟩ := gI_some h
  refine k_ialdM C (by decide) (by decide) i3 d_Mo_comesTold_28 ?_
  obtain ⟨y4, ey4, h⟩ := lt_some h
  refine k_nmI ey4 ?_
  by_cases c5 : y4 = 100
  · have h := (if_pos c5).symm.trans h
    refine k_lookup C (136) 165 d_Mo_comesTold_29 (by decide) (by rw [c5]; decide) (by decide) ?_
    refine k_aload_n C d_Mo_comesTold_165 3 rfl ?_
    refine k_iload_n C d_Mo_comesTold_166 2 rfl ?_
    obtain ⟨p6, ep6, h⟩ := bd_some h
    refine k_callVi C q_Mo_168 (fun l => m_Mo_daysCome (cx_g C) l (m.1 97 (4 * v1).toNatClampNeg) m xx oo p6 ep6) rfl rfl (rtI_c q) (by decide) sh_Mo rfl rfl rfl rfl d_Mo_comesTold_167 ?_
    obtain ⟨i7, h⟩ := gB_some h
    obtain rfl := Option.some.inj h
    exact k_zret C q i7 d_Mo_comesTold_170
  have h := (if_neg c5).symm.trans h
  by_cases c8 : y4 = 104
  · have h := (if_pos c8).symm.trans h
    refine k_lookup C (43) 72 d_Mo_comesTold_29 (by decide) (by rw [c8]; decide) (by decide) ?_
    refine k_aload_n C d_Mo_comesTold_72 3 rfl ?_
    refine k_iload_n C d_Mo_comesTold_73 2 rfl ?_
    refine k_iload_n C d_Mo_comesTold_74 1 rfl ?_
    refine k_aload_n C d_Mo_comesTold_75 3 rfl ?_
    refine kg_Mo_50 C d_Mo_comesTold_76 ?_
    refine k_iconst C 4 d_Mo_comesTold_79 ic_4 ?_
    refine k_iload_n C d_Mo_comesTold_80 4 rfl ?_
    refine k_imul C d_Mo_comesTold_81 ?_
    refine k_iconst C 2 d_Mo_comesTold_82 ic_2 ?_
    refine k_iadd C d_Mo_comesTold_83 ?_
    obtain ⟨i9, h⟩ := gI_some h
    refine k_ialdM C (by decide) (by decide) i9 d_Mo_comesTold_84 ?_
    refine k_aload_n C d_Mo_comesTold_85 3 rfl ?_
    refine kg_Mo_50 C d_Mo_comesTold_86 ?_
    refine k_iconst C 4 d_Mo_comesTold_89 ic_4 ?_
    refine k_iload_n C d_Mo_comesTold_90 4 rfl ?_
    refine k_imul C d_Mo_comesTold_91 ?_
    refine k_iconst C 3 d_Mo_comesTold_92 ic_3 ?_
    refine k_iadd C d_Mo_comesTold_93 ?_
    obtain ⟨i10, h⟩ := gI_some h
    refine k_ialdM C (by decide) (by decide) i10 d_Mo_comesTold_94 ?_
    obtain ⟨p11, ep11, h⟩ := bd_some h
    refine k_callVi C q_Mo_158 (fun l => m_Mo_horseComes (cx_g C) l (m.1 97 (4 * v1).toNatClampNeg) (m.1 97 ((4 * v1) + 1).toNatClampNeg) (m.1 97 ((4 * v1) + 2).toNatClampNeg) (m.1 97 ((4 * v1) + 3).toNatClampNeg) m xx oo p11 ep11) rfl rfl (rtI_c q) (by decide) sh_Mo rfl rfl rfl rfl d_Mo_comesTold_95 ?_
    obtain ⟨i12, h⟩ := gB_some h
    obtain rfl := Option.some.inj h
    exact k_zret C q i12 d_Mo_comesTold_98
  have h := (if_neg c8).symm.trans h
  by_cases c13 : y4 = 111
  · have h := (if_pos c13).symm.trans h
    refine k_lookup C (110) 139 d_Mo_comesTold_29 (by decide) (by rw [c13]; decide) (by decide) ?_
    refine k_iload_n C d_Mo_comesTold_139 2 rfl ?_
    obtain ⟨p14, ep14, h⟩ := bd_some h
    refine k_callSi C q_Mo_149 (fun l => m_Mo_isYard (cx_g C) l (m.1 97 (4 * v1).toNatClampNeg) m xx oo p14 ep14) rfl rfl (rtI_c q) rfl rfl rfl d_Mo_comesTold_140 ?_
    refine k_istore C (lv' := [(4, .int p14.1), (3, .int (m.1 97 ((4 * v1) + 1).toNatClampNeg)), (2, .int (m.1 97 (4 * v1).toNatClampNeg)), (0, .ref (g_a g 83)), (1, .int v1)]) d_Mo_comesTold_143 rfl rfl ?_
    refine k_aload_n C d_Mo_comesTold_145 3 rfl ?_
    refine k_iload C d_Mo_comesTold_146 0 rfl ?_
    refine k_if_eq C 155 d_Mo_comesTold_148 (by decide) (fun c15 => ?_) (fun c15 => ?_)
    · have h := (if_pos c15).symm.trans h
      refine k_aload_n C d_Mo_comesTold_155 3 rfl ?_
      refine kg_Mo_88 C d_Mo_comesTold_156 ?_
      exact k_sub [0] rfl (t_Mo_comesTold_159 C q p14.1 (p14.2.1 83 6) p14.2 h)
    · have h := (if_neg c15).symm.trans h
      refine k_iload_n C d_Mo_comesTold_151 2 rfl ?_
      refine k_goto C 159 d_Mo_comesTold_152 (by decide) ?_
      exact k_sub [0] rfl (t_Mo_comesTold_159 C q p14.1 (m.1 97 (4 * v1).toNatClampNeg) p14.2 h)
  have h := (if_neg c13).symm.trans h
  by_cases c16 : y4 = 114
  · have h := (if_pos c16).symm.trans h
    refine k_lookup C (70) 99 d_Mo_comesTold_29 (by decide) (by rw [c16]; decide) (by decide) ?_
    refine k_aload_n C d_Mo_comesTold_99 3 rfl ?_
    refine k_iload_n C d_Mo_comesTold_100 2 rfl ?_
    obtain ⟨p17, ep17, h⟩ := bd_some h
    refine k_callVi C q_Mo_162 (fun l => m_Mo_isHorse (cx_g C) l (m.1 97 (4 * v1).toNatClampNeg) m xx oo p17 ep17) rfl rfl (rtI_c q) (by decide) sh_Mo rfl rfl rfl rfl d_Mo_comesTold_101 ?_
    refine k_if_eq C 114 d_Mo_comesTold_104 (by decide) (fun c18 => ?_) (fun c18 => ?_)
    · have h := (if_pos c18).symm.trans h
      refine k_iconst C 0 d_Mo_comesTold_114 ic_0 ?_
      obtain rfl := Option.some.inj h
      exact k_zret C q (Or.inl rfl) d_Mo_comesTold_115
    · have h := (if_neg c18).symm.trans h
      refine k_iload_n C d_Mo_comesTold_107 1 rfl ?_
      obtain ⟨p19, ep19, h⟩ := bd_some h
      refine k_callSi C q_Mo_149 (fun l => m_Mo_isYard (cx_g C) l (m.1 97 ((4 * v1) + 1).toNatClampNeg) p17.2 xx oo p19 ep19) rfl rfl (rtI_c q) rfl rfl rfl d_Mo_comesTold_108 ?_
      refine k_if_ne C 116 d_Mo_comesTold_111 (by decide) (fun c20 => ?_) (fun c20 => ?_)
      · have h := (if_neg c20).symm.trans h
        refine k_aload_n C d_Mo_comesTold_116 3 rfl ?_
        refine k_iload_n C d_Mo_comesTold_117 2 rfl ?_
        refine k_iload_n C d_Mo_comesTold_118 1 rfl ?_
        obtain ⟨p21, ep21, h⟩ := bd_some h
        refine k_callVi C q_Mo_165 (fun l => m_Mo_ride (cx_g C) l (m.1 97 (4 * v1).toNatClampNeg) (m.1 97 ((4 * v1) + 1).toNatClampNeg) p19.2 xx oo p21 ep21) rfl rfl (rtI_c q) (by decide) sh_Mo rfl rfl rfl rfl d_Mo_comesTold_119 ?_
        refine k_pop C d_Mo_comesTold_122 rfl ?_
        refine k_aload_n C d_Mo_comesTold_123 3 rfl ?_
        refine kg_Mo_95 C d_Mo_comesTold_124 ?_
        refine k_sipush C 999 d_Mo_comesTold_127 sp_999 ?_
        refine k_icmp_gt C 137 d_Mo_comesTold_130 (by decide) (fun c22 => ?_) (fun c22 => ?_)
        · have h := (if_pos c22).symm.trans h
          refine k_iconst C 0 d_Mo_comesTold_137 ic_0 ?_
          obtain rfl := Option.some.inj h
          exact k_zret C q (Or.inl rfl) d_Mo_comesTold_138
        · have h := (if_neg c22).symm.trans h
          refine k_iconst C 1 d_Mo_comesTold_133 ic_1 ?_
          refine k_goto C 138 d_Mo_comesTold_134 (by decide) ?_
          obtain rfl := Option.some.inj h
          exact k_zret C q (Or.inr rfl) d_Mo_comesTold_138
      · have h := (if_pos c20).symm.trans h
        refine k_iconst C 0 d_Mo_comesTold_114 ic_0 ?_
        obtain rfl := Option.some.inj h
        exact k_zret C q (Or.inl rfl) d_Mo_comesTold_115
  have h := (if_neg c16).symm.trans h
  have ac5 : ¬ y4.toInt = 100 := nti c5
  have ac8 : ¬ y4.toInt = 104 := nti c8
  have ac13 : ¬ y4.toInt = 111 := nti c13
  have ac16 : ¬ y4.toInt = 114 := nti c16
  refine k_lookup C (142) 171 d_Mo_comesTold_29 (by decide) (by simp [Op.lookupswitch.offset, ac5, Ne.symm ac5, ac8, Ne.symm ac8, ac13, Ne.symm ac13, ac16, Ne.symm ac16]) (by decide) ?_
  refine k_aload_n C d_Mo_comesTold_171 3 rfl ?_
  refine k_iload_n C d_Mo_comesTold_172 2 rfl ?_
  obtain ⟨p23, ep23, h⟩ := bd_some h
  refine k_callVi C q_Mo_162 (fun l => m_Mo_isHorse (cx_g C) l (m.1 97 (4 * v1).toNatClampNeg) m xx oo p23 ep23) rfl rfl (rtI_c q) (by decide) sh_Mo rfl rfl rfl rfl d_Mo_comesTold_173 ?_
  refine k_istore C (lv' := [(4, .int p23.1), (3, .int (m.1 97 ((4 * v1) + 1).toNatClampNeg)), (2, .int (m.1 97 (4 * v1).toNatClampNeg)), (0, .ref (g_a g 83)), (1, .int v1)]) d_Mo_comesTold_176 rfl rfl ?_
  refine k_iload C d_Mo_comesTold_178 0 rfl ?_
  refine k_if_eq C 190 d_Mo_comesTold_180 (by decide) (fun c24 => ?_) (fun c24 => ?_)
  · have h := (if_pos c24).symm.trans h
    refine k_iload C d_Mo_comesTold_190 0 rfl ?_
    obtain ⟨i25, h⟩ := gB_some h
    obtain rfl := Option.some.inj h
    exact k_zret C q i25 d_Mo_comesTold_192
  · have h := (if_neg c24).symm.trans h
    refine k_aload_n C d_Mo_comesTold_183 3 rfl ?_
    refine kg_Mo_22 C d_Mo_comesTold_184 ?_
    refine k_iload_n C d_Mo_comesTold_187 2 rfl ?_
    refine k_iload_n C d_Mo_comesTold_188 1 rfl ?_
    obtain ⟨i27, h⟩ := gI_some h
    obtain ⟨m26, em26, h⟩ := lt_some h
    refine k_iastM C (by decide) (by decide) i27 em26 d_Mo_comesTold_189 ?_
    refine k_iload C d_Mo_comesTold_190 0 rfl ?_
    obtain ⟨i28, h⟩ := gB_some h
    obtain rfl := Option.some.inj h
    exact k_zret C q i28 d_Mo_comesTold_192

def f_Mo_days (v1 : Int32) (m : MD) : Option (Int32 × MD) := lt ((x_up m.1 83 14 0, m.2)) fun (m1 : MD) => (f_Mo_in v1.toInt64 1 60 m1).bind fun p2 => ((if p2.1 = 0 then some ((-1), p2.2) else (f_Mo_daysCome v1 p2.2).bind fun p4 => ((if p4.1 = 0 then some ((-3), p4.2) else (f_Mo_allLonging p4.2).bind fun p6 => (some (p6.1, p6.2))))))
theorem m_Mo_days {g : GC} (hg : gOk g) (l : Launch)  (v1 : Int32) (m : MD) (xx : XD) (oo : Nat → Int64) (r : Int32 × MD) (h : f_Mo_days v1 m = some r) : Mi g l y_Mo_days c_Mo_days 2 (some .int) 6 [.ref (g_a g 83), .int v1] (xx, m, oo) r.1 (xx, r.2, oo) := by
  refine m_i hg pn_Mo rfl fun X q C => ?_
  refine k_sub (lv' := [(0, .ref (g_a g 83)), (1, .int v1)]) [0, 1] rfl ?_
  unfold f_Mo_days at h
  refine k_aload_n C d_Mo_days_0 0 rfl ?_
  refine k_iconst C 0 d_Mo_days_1 ic_0 ?_
  obtain ⟨m1, em1, h⟩ := lt_some h
  refine kp_Mo_71 C em1 d_Mo_days_2 ?_
  refine k_iload_n C d_Mo_days_5 1 rfl ?_
  refine k_i2l C d_Mo_days_6 ?_
  refine k_lconst C 1 d_Mo_days_7 rfl ?_
  refine k_ldc2 C 60 l_1154 d_Mo_days_8 ?_
  obtain ⟨p2, ep2, h⟩ := bd_some h
  refine k_callSi C q_Mo_77 (fun l => m_Mo_in (cx_g C) l v1.toInt64 1 60 m1 xx oo p2 ep2) rfl rfl (rtI_c q) rfl rfl rfl d_Mo_days_11 ?_
  refine k_if_ne C 19 d_Mo_days_14 (by decide) (fun c3 => ?_) (fun c3 => ?_)
  · have h := (if_neg c3).symm.trans h
    refine k_aload_n C d_Mo_days_19 0 rfl ?_
    refine k_iload_n C d_Mo_days_20 1 rfl ?_
    obtain ⟨p4, ep4, h⟩ := bd_some h
    refine k_callVi C q_Mo_168 (fun l => m_Mo_daysCome (cx_g C) l v1 p2.2 xx oo p4 ep4) rfl rfl (rtI_c q) (by decide) sh_Mo rfl rfl rfl rfl d_Mo_days_21 ?_
    refine k_if_eq C 34 d_Mo_days_24 (by decide) (fun c5 => ?_) (fun c5 => ?_)
    · have h := (if_pos c5).symm.trans h
      refine k_bipush C (-3) d_Mo_days_34 bp_m3 ?_
      obtain rfl := Option.some.inj h
      exact k_iret C q d_Mo_days_36
    · have h := (if_neg c5).symm.trans h
      refine k_aload_n C d_Mo_days_27 0 rfl ?_
      obtain ⟨p6, ep6, h⟩ := bd_some h
      refine k_callVi C q_Mo_212 (fun l => m_Mo_allLonging (cx_g C) l p4.2 xx oo p6 ep6) rfl rfl (rtI_c q) (by decide) sh_Mo rfl rfl rfl rfl d_Mo_days_28 ?_
      refine k_goto C 36 d_Mo_days_31 (by decide) ?_
      obtain rfl := Option.some.inj h
      exact k_iret C q d_Mo_days_36
  · have h := (if_pos c3).symm.trans h
    refine k_iconst C (-1) d_Mo_days_17 ic_m1 ?_
    obtain rfl := Option.some.inj h
    exact k_iret C q d_Mo_days_18

def b_Mo_forged_209 (v3 : Int32) (m : MD) : Option (Int32 × MD) := (f_Mo_close m).bind fun p1 => (some (v3, p1.2))
theorem t_Mo_forged_209 {g : GC} {X : MX} (C : Cx g X c_Mo_forged 11 n_Mo 6) {r : Int32 × MD} {xx : XD} {oo : Nat → Int64} (q : RtI g X (some .int) r.1 (xx, r.2, oo)) (v3 : Int32) (m : MD) (h : b_Mo_forged_209 v3 m = some r) : Wk g X 11 209 [(0, .ref (g_a g 83)), (3, .int v3)] [] (xx, m, oo) := by
  unfold b_Mo_forged_209 at h
  refine k_aload_n C d_Mo_forged_209 0 rfl ?_
  obtain ⟨p1, ep1, h⟩ := bd_some h
  refine k_callVv C q_Mo_183 (fun l => m_Mo_close (cx_g C) l m xx oo p1 ep1) rfl rfl (rtI_c q) (by decide) sh_Mo rfl rfl rfl rfl d_Mo_forged_210 ?_
  refine k_iload_n C d_Mo_forged_213 1 rfl ?_
  obtain rfl := Option.some.inj h
  exact k_iret C q d_Mo_forged_214

def b_Mo_forged_203 (K53 : Int32 → Int32 → Int32 → MD → Option (Int32 × MD)) (v1 : Int32) (v3 : Int32) (v4 : Int32) (v5 : Int32) (m : MD) : Option (Int32 × MD) := K53 v3 v4 (v5 + 1) m
theorem t_Mo_forged_203 {g : GC} {X : MX} (C : Cx g X c_Mo_forged 11 n_Mo 6) {r : Int32 × MD} {xx : XD} {oo : Nat → Int64} (q : RtI g X (some .int) r.1 (xx, r.2, oo)) (v1 : Int32) (v3 : Int32) (v4 : Int32) (v5 : Int32) (K53 : Int32 → Int32 → Int32 → MD → Option (Int32 × MD)) (hK53 : ∀ (v3 : Int32) (v4 : Int32) (v5 : Int32) (m : MD), K53 v3 v4 v5 m = some r → Wk g X 11 53 [(0, .ref (g_a g 83)), (1, .int v1), (3, .int v3), (4, .int v4), (5, .int v5)] [] (xx, m, oo)) (m : MD) (h : b_Mo_forged_203 K53 v1 v3 v4 v5 m = some r) : Wk g X 11 203 [(0, .ref (g_a g 83)), (1, .int v1), (3, .int v3), (4, .int v4), (5, .int v5)] [] (xx, m, oo) := by
  unfold b_Mo_forged_203 at h
  refine k_inc C (lv' := [(5, .int (v5 + 1)), (0, .ref (g_a g 83)), (1, .int v1), (3, .int v3), (4, .int v4)]) d_Mo_forged_203 4 rfl ic_1 rfl rfl ?_
  refine k_goto C 53 d_Mo_forged_206 (by decide) ?_
  exact k_sub [1, 2, 3, 4, 0] rfl (hK53 v3 v4 (v5 + 1) m h)

def b_Mo_forged_181 (K53 : Int32 → Int32 → Int32 → MD → Option (Int32 × MD)) (v1 : Int32) (v4 : Int32) (v5 : Int32) (v6 : Int64) (v8 : Int64) (v10 : Int32) (vt0 : Int32) (m : MD) : Option (Int32 × MD) := (if v10 = 0 then b_Mo_forged_203 K53 v1 vt0 v4 v5 m else (f_Mo_ride v6.toInt32 v8.toInt32 m).bind fun p2 => (b_Mo_forged_203 K53 v1 vt0 v8.toInt32 v5 p2.2))
theorem t_Mo_forged_181 {g : GC} {X : MX} (C : Cx g X c_Mo_forged 11 n_Mo 6) {r : Int32 × MD} {xx : XD} {oo : Nat → Int64} (q : RtI g X (some .int) r.1 (xx, r.2, oo)) (v1 : Int32) (v4 : Int32) (v5 : Int32) (v6 : Int64) (v8 : Int64) (v10 : Int32) (vt0 : Int32) (K53 : Int32 → Int32 → Int32 → MD → Option (Int32 × MD)) (hK53 : ∀ (v3 : Int32) (v4 : Int32) (v5 : Int32) (m : MD), K53 v3 v4 v5 m = some r → Wk g X 11 53 [(0, .ref (g_a g 83)), (1, .int v1), (3, .int v3), (4, .int v4), (5, .int v5)] [] (xx, m, oo)) (m : MD) (h : b_Mo_forged_181 K53 v1 v4 v5 v6 v8 v10 vt0 m = some r) : Wk g X 11 181 [(0, .ref (g_a g 83)), (1, .int v1), (4, .int v4), (5, .int v5), (6, .long v6), (8, .long v8), (10, .int v10)] [.int vt0] (xx, m, oo) := by
  unfold b_Mo_forged_181 at h
  refine k_istore_n C (lv' := [(3, .int vt0), (0, .ref (g_a g 83)), (1, .int v1), (4, .int v4), (5, .int v5), (6, .long v6), (8, .long v8), (10, .int v10)]) d_Mo_forged_181 rfl rfl ?_
  refine k_iload C d_Mo_forged_182 7 rfl ?_
  refine k_if_eq C 203 d_Mo_forged_184 (by decide) (fun c1 => ?_) (fun c1 => ?_)
  · have h := (if_pos c1).symm.trans h
    exact k_sub [1, 2, 0, 3, 4] rfl (t_Mo_forged_203 C q v1 vt0 v4 v5 K53 hK53 m h)
  · have h := (if_neg c1).symm.trans h
    refine k_aload_n C d_Mo_forged_187 1 rfl ?_
    refine k_lload C d_Mo_forged_188 5 rfl ?_
    refine k_l2i C d_Mo_forged_190 ?_
    refine k_lload C d_Mo_forged_191 6 rfl ?_
    refine k_l2i C d_Mo_forged_193 ?_
    obtain ⟨p2, ep2, h⟩ := bd_some h
    refine k_callVi C q_Mo_165 (fun l => m_Mo_ride (cx_g C) l v6.toInt32 v8.toInt32 m xx oo p2 ep2) rfl rfl (rtI_c q) (by decide) sh_Mo rfl rfl rfl rfl d_Mo_forged_194 ?_
    refine k_pop C d_Mo_forged_197 rfl ?_
    refine k_lload C d_Mo_forged_198 6 rfl ?_
    refine k_l2i C d_Mo_forged_200 ?_
    refine k_istore C (lv' := [(4, .int v8.toInt32), (3, .int vt0), (0, .ref (g_a g 83)), (1, .int v1), (5, .int v5), (6, .long v6), (8, .long v8), (10, .int v10)]) d_Mo_forged_201 rfl rfl ?_
    exact k_sub [2, 3, 1, 0, 4] rfl (t_Mo_forged_203 C q v1 vt0 v8.toInt32 v5 K53 hK53 p2.2 h)

def b_Mo_forged_167 (K53 : Int32 → Int32 → Int32 → MD → Option (Int32 × MD)) (v1 : Int32) (v4 : Int32) (v5 : Int32) (v6 : Int64) (v8 : Int64) (vt0 : Int32) (m : MD) : Option (Int32 × MD) := (if vt0 = 0 then b_Mo_forged_181 K53 v1 v4 v5 v6 v8 vt0 v5 m else b_Mo_forged_181 K53 v1 v4 v5 v6 v8 vt0 (-4) m)
theorem t_Mo_forged_167 {g : GC} {X : MX} (C : Cx g X c_Mo_forged 11 n_Mo 6) {r : Int32 × MD} {xx : XD} {oo : Nat → Int64} (q : RtI g X (some .int) r.1 (xx, r.2, oo)) (v1 : Int32) (v4 : Int32) (v5 : Int32) (v6 : Int64) (v8 : Int64) (vt0 : Int32) (K53 : Int32 → Int32 → Int32 → MD → Option (Int32 × MD)) (hK53 : ∀ (v3 : Int32) (v4 : Int32) (v5 : Int32) (m : MD), K53 v3 v4 v5 m = some r → Wk g X 11 53 [(0, .ref (g_a g 83)), (1, .int v1), (3, .int v3), (4, .int v4), (5, .int v5)] [] (xx, m, oo)) (m : MD) (h : b_Mo_forged_167 K53 v1 v4 v5 v6 v8 vt0 m = some r) : Wk g X 11 167 [(0, .ref (g_a g 83)), (1, .int v1), (4, .int v4), (5, .int v5), (6, .long v6), (8, .long v8)] [.int vt0] (xx, m, oo) := by
  unfold b_Mo_forged_167 at h
  refine k_istore C (lv' := [(10, .int vt0), (0, .ref (g_a g 83)), (1, .int v1), (4, .int v4), (5, .int v5), (6, .long v6), (8, .long v8)]) d_Mo_forged_167 rfl rfl ?_
  refine k_iload C d_Mo_forged_169 0 rfl ?_
  refine k_if_eq C 179 d_Mo_forged_171 (by decide) (fun c1 => ?_) (fun c1 => ?_)
  · have h := (if_pos c1).symm.trans h
    refine k_iload C d_Mo_forged_179 4 rfl ?_
    exact k_sub [1, 2, 3, 4, 5, 6, 0] rfl (t_Mo_forged_181 C q v1 v4 v5 v6 v8 vt0 v5 K53 hK53 m h)
  · have h := (if_neg c1).symm.trans h
    refine k_bipush C (-4) d_Mo_forged_174 bp_m4 ?_
    refine k_goto C 181 d_Mo_forged_176 (by decide) ?_
    exact k_sub [1, 2, 3, 4, 5, 6, 0] rfl (t_Mo_forged_181 C q v1 v4 v5 v6 v8 vt0 (-4) K53 hK53 m h)

def b_Mo_forged_166 (K53 : Int32 → Int32 → Int32 → MD → Option (Int32 × MD)) (v1 : Int32) (v4 : Int32) (v5 : Int32) (v6 : Int64) (v8 : Int64) (m : MD) : Option (Int32 × MD) := b_Mo_forged_167 K53 v1 v4 v5 v6 v8 0 m
theorem t_Mo_forged_166 {g : GC} {X : MX} (C : Cx g X c_Mo_forged 11 n_Mo 6) {r : Int32 × MD} {xx : XD} {oo : Nat → Int64} (q : RtI g X (some .int) r.1 (xx, r.2, oo)) (v1 : Int32) (v4 : Int32) (v5 : Int32) (v6 : Int64) (v8 : Int64) (K53 : Int32 → Int32 → Int32 → MD → Option (Int32 × MD)) (hK53 : ∀ (v3 : Int32) (v4 : Int32) (v5 : Int32) (m : MD), K53 v3 v4 v5 m = some r → Wk g X 11 53 [(0, .ref (g_a g 83)), (1, .int v1), (3, .int v3), (4, .int v4), (5, .int v5)] [] (xx, m, oo)) (m : MD) (h : b_Mo_forged_166 K53 v1 v4 v5 v6 v8 m = some r) : Wk g X 11 166 [(0, .ref (g_a g 83)), (1, .int v1), (4, .int v4), (5, .int v5), (6, .long v6), (8, .long v8)] [] (xx, m, oo) := by
  unfold b_Mo_forged_166 at h
  refine k_iconst C 0 d_Mo_forged_166 ic_0 ?_
  exact k_sub [0, 1, 2, 3, 4, 5] rfl (t_Mo_forged_167 C q v1 v4 v5 v6 v8 0 K53 hK53 m h)

def b_Mo_forged_162 (K53 : Int32 → Int32 → Int32 → MD → Option (Int32 × MD)) (v1 : Int32) (v4 : Int32) (v5 : Int32) (v6 : Int64) (v8 : Int64) (m : MD) : Option (Int32 × MD) := b_Mo_forged_167 K53 v1 v4 v5 v6 v8 1 m
theorem t_Mo_forged_162 {g : GC} {X : MX} (C : Cx g X c_Mo_forged 11 n_Mo 6) {r : Int32 × MD} {xx : XD} {oo : Nat → Int64} (q : RtI g X (some .int) r.1 (xx, r.2, oo)) (v1 : Int32) (v4 : Int32) (v5 : Int32) (v6 : Int64) (v8 : Int64) (K53 : Int32 → Int32 → Int32 → MD → Option (Int32 × MD)) (hK53 : ∀ (v3 : Int32) (v4 : Int32) (v5 : Int32) (m : MD), K53 v3 v4 v5 m = some r → Wk g X 11 53 [(0, .ref (g_a g 83)), (1, .int v1), (3, .int v3), (4, .int v4), (5, .int v5)] [] (xx, m, oo)) (m : MD) (h : b_Mo_forged_162 K53 v1 v4 v5 v6 v8 m = some r) : Wk g X 11 162 [(0, .ref (g_a g 83)), (1, .int v1), (4, .int v4), (5, .int v5), (6, .long v6), (8, .long v8)] [] (xx, m, oo) := by
  unfold b_Mo_forged_162 at h
  refine k_iconst C 1 d_Mo_forged_162 ic_1 ?_
  refine k_goto C 167 d_Mo_forged_163 (by decide) ?_
  exact k_sub [0, 1, 2, 3, 4, 5] rfl (t_Mo_forged_167 C q v1 v4 v5 v6 v8 1 K53 hK53 m h)

def b_Mo_forged_137 (K53 : Int32 → Int32 → Int32 → MD → Option (Int32 × MD)) (v1 : Int32) (v4 : Int32) (v5 : Int32) (v6 : Int64) (v8 : Int64) (vt0 : Int32) (m : MD) : Option (Int32 × MD) := (if vt0 = 0 then b_Mo_forged_166 K53 v1 v4 v5 v6 v8 m else (if v5 = 0 then b_Mo_forged_162 K53 v1 v4 v5 v6 v8 m else gI v6.toInt32 7 ((if m.1 87 v6.toInt32.toNatClampNeg = v4 then b_Mo_forged_162 K53 v1 v4 v5 v6 v8 m else b_Mo_forged_166 K53 v1 v4 v5 v6 v8 m))))
theorem t_Mo_forged_137 {g : GC} {X : MX} (C : Cx g X c_Mo_forged 11 n_Mo 6) {r : Int32 × MD} {xx : XD} {oo : Nat → Int64} (q : RtI g X (some .int) r.1 (xx, r.2, oo)) (v1 : Int32) (v4 : Int32) (v5 : Int32) (v6 : Int64) (v8 : Int64) (vt0 : Int32) (K53 : Int32 → Int32 → Int32 → MD → Option (Int32 × MD)) (hK53 : ∀ (v3 : Int32) (v4 : Int32) (v5 : Int32) (m : MD), K53 v3 v4 v5 m = some r → Wk g X 11 53 [(0, .ref (g_a g 83)), (1, .int v1), (3, .int v3), (4, .int v4), (5, .int v5)] [] (xx, m, oo)) (m : MD) (h : b_Mo_forged_137 K53 v1 v4 v5 v6 v8 vt0 m = some r) : Wk g X 11 137 [(0, .ref (g_a g 83)), (1, .int v1), (4, .int v4), (5, .int v5), (6, .long v6), (8, .long v8)] [.int vt0] (xx, m, oo) := by
  unfold b_Mo_forged_137 at h
  refine k_istore C (lv' := [(10, .int vt0), (0, .ref (g_a g 83)), (1, .int v1), (4, .int v4), (5, .int v5), (6, .long v6), (8, .long v8)]) d_Mo_forged_137 rfl rfl ?_
  refine k_iload C d_Mo_forged_139 0 rfl ?_
  refine k_if_eq C 166 d_Mo_forged_141 (by decide) (fun c1 => ?_) (fun c1 => ?_)
  · have h := (if_pos c1).symm.trans h
    exact k_sub [1, 2, 3, 4, 5, 6] rfl (t_Mo_forged_166 C q v1 v4 v5 v6 v8 K53 hK53 m h)
  · have h := (if_neg c1).symm.trans h
    refine k_iload C d_Mo_forged_144 4 rfl ?_
    refine k_if_eq C 162 d_Mo_forged_146 (by decide) (fun c2 => ?_) (fun c2 => ?_)
    · have h := (if_pos c2).symm.trans h
      exact k_sub [1, 2, 3, 4, 5, 6] rfl (t_Mo_forged_162 C q v1 v4 v5 v6 v8 K53 hK53 m h)
    · have h := (if_neg c2).symm.trans h
      refine k_aload_n C d_Mo_forged_149 1 rfl ?_
      refine kg_Mo_19 C d_Mo_forged_150 ?_
      refine k_lload C d_Mo_forged_153 5 rfl ?_
      refine k_l2i C d_Mo_forged_155 ?_
      obtain ⟨i3, h⟩ := gI_some h
      refine k_ialdM C (by decide) (by decide) i3 d_Mo_forged_156 ?_
      refine k_iload C d_Mo_forged_157 3 rfl ?_
      refine k_icmp_ne C 166 d_Mo_forged_159 (by decide) (fun c4 => ?_) (fun c4 => ?_)
      · have h := (if_neg c4).symm.trans h
        exact k_sub [1, 2, 3, 4, 5, 6] rfl (t_Mo_forged_166 C q v1 v4 v5 v6 v8 K53 hK53 m h)
      · have h := (if_pos c4).symm.trans h
        exact k_sub [1, 2, 3, 4, 5, 6] rfl (t_Mo_forged_162 C q v1 v4 v5 v6 v8 K53 hK53 m h)

def b_Mo_forged_136 (K53 : Int32 → Int32 → Int32 → MD → Option (Int32 × MD)) (v1 : Int32) (v4 : Int32) (v5 : Int32) (v6 : Int64) (v8 : Int64) (m : MD) : Option (Int32 × MD) := b_Mo_forged_137 K53 v1 v4 v5 v6 v8 0 m
theorem t_Mo_forged_136 {g : GC} {X : MX} (C : Cx g X c_Mo_forged 11 n_Mo 6) {r : Int32 × MD} {xx : XD} {oo : Nat → Int64} (q : RtI g X (some .int) r.1 (xx, r.2, oo)) (v1 : Int32) (v4 : Int32) (v5 : Int32) (v6 : Int64) (v8 : Int64) (K53 : Int32 → Int32 → Int32 → MD → Option (Int32 × MD)) (hK53 : ∀ (v3 : Int32) (v4 : Int32) (v5 : Int32) (m : MD), K53 v3 v4 v5 m = some r → Wk g X 11 53 [(0, .ref (g_a g 83)), (1, .int v1), (3, .int v3), (4, .int v4), (5, .int v5)] [] (xx, m, oo)) (m : MD) (h : b_Mo_forged_136 K53 v1 v4 v5 v6 v8 m = some r) : Wk g X 11 136 [(0, .ref (g_a g 83)), (1, .int v1), (4, .int v4), (5, .int v5), (6, .long v6), (8, .long v8)] [] (xx, m, oo) := by
  unfold b_Mo_forged_136 at h
  refine k_iconst C 0 d_Mo_forged_136 ic_0 ?_
  exact k_sub [0, 1, 2, 3, 4, 5] rfl (t_Mo_forged_137 C q v1 v4 v5 v6 v8 0 K53 hK53 m h)

def b_Mo_forged_53 (v1 : Int32) : Nat → Int32 → Int32 → Int32 → MD → Option (Int32 × MD)
  | 0, _, _, _, _ => none
  | n + 1, v3, v4, v5, m => gI v1 8 ((if (m.1 93 v1.toNatClampNeg) / 2 ≤ v5 then b_Mo_forged_209 v3 m else (if 0 ≤ v3 then b_Mo_forged_209 v3 m else gI ((100 * v1) + (2 * v5)) 800 (gI (((100 * v1) + (2 * v5)) + 1) 800 (lt (m.2.1 94 (((100 * v1) + (2 * v5)) + 1).toNatClampNeg) fun (y6 : Int64) => (f_Mo_in (m.2.1 94 ((100 * v1) + (2 * v5)).toNatClampNeg) 0 (((m.1 83 0) - 1).toInt64) m).bind fun p7 => ((if p7.1 = 0 then b_Mo_forged_136 (b_Mo_forged_53 v1 n) v1 v4 v5 (m.2.1 94 ((100 * v1) + (2 * v5)).toNatClampNeg) y6 p7.2 else (f_Mo_in y6 0 20 p7.2).bind fun p9 => ((if p9.1 = 0 then b_Mo_forged_136 (b_Mo_forged_53 v1 n) v1 v4 v5 (m.2.1 94 ((100 * v1) + (2 * v5)).toNatClampNeg) y6 p9.2 else b_Mo_forged_137 (b_Mo_forged_53 v1 n) v1 v4 v5 (m.2.1 94 ((100 * v1) + (2 * v5)).toNatClampNeg) y6 1 p9.2)))))))))
theorem t_Mo_forged_53 {g : GC} {X : MX} (C : Cx g X c_Mo_forged 11 n_Mo 6) {r : Int32 × MD} {xx : XD} {oo : Nat → Int64} (q : RtI g X (some .int) r.1 (xx, r.2, oo)) (v1 : Int32) : ∀ (n : Nat) (v3 : Int32) (v4 : Int32) (v5 : Int32) (m : MD) (h : b_Mo_forged_53 v1 n v3 v4 v5 m = some r), Wk g X 11 53 [(0, .ref (g_a g 83)), (1, .int v1), (3, .int v3), (4, .int v4), (5, .int v5)] [] (xx, m, oo) := by
  intro n
  induction n with
  | zero =>
    intro v3 v4 v5 m h
    rw [b_Mo_forged_53] at h
    cases h
  | succ n ih =>
    intro v3 v4 v5 m h
    rw [b_Mo_forged_53] at h
    refine k_iload C d_Mo_forged_53 4 rfl ?_
    refine k_aload_n C d_Mo_forged_55 0 rfl ?_
    refine kg_Mo_37 C d_Mo_forged_56 ?_
    refine k_iload_n C d_Mo_forged_59 1 rfl ?_
    obtain ⟨i1, h⟩ := gI_some h
    refine k_ialdM C (by decide) (by decide) i1 d_Mo_forged_60 ?_
    refine k_iconst C 2 d_Mo_forged_61 ic_2 ?_
    refine k_idiv C nz_2 d_Mo_forged_62 ?_
    refine k_icmp_ge C 209 d_Mo_forged_63 (by decide) (fun c2 => ?_) (fun c2 => ?_)
    · have h := (if_pos c2).symm.trans h
      exact k_sub [0, 2] rfl (t_Mo_forged_209 C q v3 m h)
    · have h := (if_neg c2).symm.trans h
      refine k_iload_n C d_Mo_forged_66 2 rfl ?_
      refine k_if_ge C 209 d_Mo_forged_67 (by decide) (fun c3 => ?_) (fun c3 => ?_)
      · have h := (if_pos c3).symm.trans h
        exact k_sub [0, 2] rfl (t_Mo_forged_209 C q v3 m h)
      · have h := (if_neg c3).symm.trans h
        refine k_aload_n C d_Mo_forged_70 0 rfl ?_
        refine kg_Mo_40 C d_Mo_forged_71 ?_
        refine k_bipush C 100 d_Mo_forged_74 bp_100 ?_
        refine k_iload_n C d_Mo_forged_76 1 rfl ?_
        refine k_imul C d_Mo_forged_77 ?_
        refine k_iconst C 2 d_Mo_forged_78 ic_2 ?_
        refine k_iload C d_Mo_forged_79 4 rfl ?_
        refine k_imul C d_Mo_forged_81 ?_
        refine k_iadd C d_Mo_forged_82 ?_
        obtain ⟨i4, h⟩ := gI_some h
        refine k_lald94 C i4 d_Mo_forged_83 ?_
        refine k_lstore C (lv' := [(6, .long (m.2.1 94 ((100 * v1) + (2 * v5)).toNatClampNeg)), (0, .ref (g_a g 83)), (1, .int v1), (3, .int v3), (4, .int v4), (5, .int v5)]) d_Mo_forged_84 rfl rfl ?_
        refine k_aload_n C d_Mo_forged_86 1 rfl ?_
        refine kg_Mo_40 C d_Mo_forged_87 ?_
        refine k_bipush C 100 d_Mo_forged_90 bp_100 ?_
        refine k_iload_n C d_Mo_forged_92 2 rfl ?_
        refine k_imul C d_Mo_forged_93 ?_
        refine k_iconst C 2 d_Mo_forged_94 ic_2 ?_
        refine k_iload C d_Mo_forged_95 5 rfl ?_
        refine k_imul C d_Mo_forged_97 ?_
        refine k_iadd C d_Mo_forged_98 ?_
        refine k_iconst C 1 d_Mo_forged_99 ic_1 ?_
        refine k_iadd C d_Mo_forged_100 ?_
        obtain ⟨i5, h⟩ := gI_some h
        refine k_lald94 C i5 d_Mo_forged_101 ?_
        obtain ⟨y6, ey6, h⟩ := lt_some h
        refine k_nmJ ey6 ?_
        refine k_lstore C (lv' := [(8, .long y6), (6, .long (m.2.1 94 ((100 * v1) + (2 * v5)).toNatClampNeg)), (0, .ref (g_a g 83)), (1, .int v1), (3, .int v3), (4, .int v4), (5, .int v5)]) d_Mo_forged_102 rfl rfl ?_
        refine k_lload C d_Mo_forged_104 1 rfl ?_
        refine k_lconst C 0 d_Mo_forged_106 rfl ?_
        refine k_aload_n C d_Mo_forged_107 2 rfl ?_
        refine kg_Mo_81 C d_Mo_forged_108 ?_
        refine k_iconst C 1 d_Mo_forged_111 ic_1 ?_
        refine k_isub C d_Mo_forged_112 ?_
        refine k_i2l C d_Mo_forged_113 ?_
        obtain ⟨p7, ep7, h⟩ := bd_some h
        refine k_callSi C q_Mo_77 (fun l => m_Mo_in (cx_g C) l (m.2.1 94 ((100 * v1) + (2 * v5)).toNatClampNeg) 0 (((m.1 83 0) - 1).toInt64) m xx oo p7 ep7) rfl rfl (rtI_c q) rfl rfl rfl d_Mo_forged_114 ?_
        refine k_if_eq C 136 d_Mo_forged_117 (by decide) (fun c8 => ?_) (fun c8 => ?_)
        · have h := (if_pos c8).symm.trans h
          exact k_sub [2, 3, 5, 6, 1, 0] rfl (t_Mo_forged_136 C q v1 v4 v5 (m.2.1 94 ((100 * v1) + (2 * v5)).toNatClampNeg) y6 (b_Mo_forged_53 v1 n) ih p7.2 h)
        · have h := (if_neg c8).symm.trans h
          refine k_lload C d_Mo_forged_120 0 rfl ?_
          refine k_lconst C 0 d_Mo_forged_122 rfl ?_
          refine k_ldc2 C 20 l_1111 d_Mo_forged_123 ?_
          obtain ⟨p9, ep9, h⟩ := bd_some h
          refine k_callSi C q_Mo_77 (fun l => m_Mo_in (cx_g C) l y6 0 20 p7.2 xx oo p9 ep9) rfl rfl (rtI_c q) rfl rfl rfl d_Mo_forged_126 ?_
          refine k_if_eq C 136 d_Mo_forged_129 (by decide) (fun c10 => ?_) (fun c10 => ?_)
          · have h := (if_pos c10).symm.trans h
            exact k_sub [2, 3, 5, 6, 1, 0] rfl (t_Mo_forged_136 C q v1 v4 v5 (m.2.1 94 ((100 * v1) + (2 * v5)).toNatClampNeg) y6 (b_Mo_forged_53 v1 n) ih p9.2 h)
          · have h := (if_neg c10).symm.trans h
            refine k_iconst C 1 d_Mo_forged_132 ic_1 ?_
            refine k_goto C 137 d_Mo_forged_133 (by decide) ?_
            exact k_sub [2, 3, 5, 6, 1, 0] rfl (t_Mo_forged_137 C q v1 v4 v5 (m.2.1 94 ((100 * v1) + (2 * v5)).toNatClampNeg) y6 1 (b_Mo_forged_53 v1 n) ih p9.2 h)

def b_Mo_forged_33 (v1 : Int32) (vt0 : Int32) (m : MD) : Option (Int32 × MD) := (if 0 ≤ vt0 then (f_Mo_open m).bind fun p2 => (b_Mo_forged_53 v1 fu (-4) (-1) 0 p2.2) else some (vt0, m))
theorem t_Mo_forged_33 {g : GC} {X : MX} (C : Cx g X c_Mo_forged 11 n_Mo 6) {r : Int32 × MD} {xx : XD} {oo : Nat → Int64} (q : RtI g X (some .int) r.1 (xx, r.2, oo)) (v1 : Int32) (vt0 : Int32) (m : MD) (h : b_Mo_forged_33 v1 vt0 m = some r) : Wk g X 11 33 [(0, .ref (g_a g 83)), (1, .int v1)] [.int vt0] (xx, m, oo) := by
  unfold b_Mo_forged_33 at h
  refine k_istore_n C (lv' := [(2, .int vt0), (0, .ref (g_a g 83)), (1, .int v1)]) d_Mo_forged_33 rfl rfl ?_
  refine k_iload_n C d_Mo_forged_34 0 rfl ?_
  refine k_if_ge C 40 d_Mo_forged_35 (by decide) (fun c1 => ?_) (fun c1 => ?_)
  · have h := (if_pos c1).symm.trans h
    refine k_bipush C (-4) d_Mo_forged_40 bp_m4 ?_
    refine k_istore_n C (lv' := [(3, .int (-4)), (2, .int vt0), (0, .ref (g_a g 83)), (1, .int v1)]) d_Mo_forged_42 rfl rfl ?_
    refine k_iconst C (-1) d_Mo_forged_43 ic_m1 ?_
    refine k_istore C (lv' := [(4, .int (-1)), (3, .int (-4)), (2, .int vt0), (0, .ref (g_a g 83)), (1, .int v1)]) d_Mo_forged_44 rfl rfl ?_
    refine k_aload_n C d_Mo_forged_46 3 rfl ?_
    obtain ⟨p2, ep2, h⟩ := bd_some h
    refine k_callVv C q_Mo_177 (fun l => m_Mo_open (cx_g C) l m xx oo p2 ep2) rfl rfl (rtI_c q) (by decide) sh_Mo rfl rfl rfl rfl d_Mo_forged_47 ?_
    refine k_iconst C 0 d_Mo_forged_50 ic_0 ?_
    refine k_istore C (lv' := [(5, .int 0), (4, .int (-1)), (3, .int (-4)), (2, .int vt0), (0, .ref (g_a g 83)), (1, .int v1)]) d_Mo_forged_51 rfl rfl ?_
    exact k_sub [4, 5, 2, 1, 0] rfl (t_Mo_forged_53 C q v1 fu (-4) (-1) 0 p2.2 h)
  · have h := (if_neg c1).symm.trans h
    refine k_iload_n C d_Mo_forged_38 0 rfl ?_
    obtain rfl := Option.some.inj h
    exact k_iret C q d_Mo_forged_39

def b_Mo_forged_32 (v1 : Int32) (v2 : Int32) (m : MD) : Option (Int32 × MD) := b_Mo_forged_33 v1 v2 m
theorem t_Mo_forged_32 {g : GC} {X : MX} (C : Cx g X c_Mo_forged 11 n_Mo 6) {r : Int32 × MD} {xx : XD} {oo : Nat → Int64} (q : RtI g X (some .int) r.1 (xx, r.2, oo)) (v1 : Int32) (v2 : Int32) (m : MD) (h : b_Mo_forged_32 v1 v2 m = some r) : Wk g X 11 32 [(0, .ref (g_a g 83)), (1, .int v1), (2, .int v2)] [] (xx, m, oo) := by
  unfold b_Mo_forged_32 at h
  refine k_iload_n C d_Mo_forged_32 2 rfl ?_
  exact k_sub [0, 1] rfl (t_Mo_forged_33 C q v1 v2 m h)

def f_Mo_forged (v1 : Int32) (m : MD) : Option (Int32 × MD) := lt ((x_up m.1 83 14 0, m.2)) fun (m1 : MD) => (f_Mo_wrongRow v1 m1).bind fun p2 => ((if p2.1 = 0 then gI v1 8 ((if x_rem (p2.2.1 93 v1.toNatClampNeg) 2 = 1 then b_Mo_forged_33 v1 (-13) p2.2 else b_Mo_forged_32 v1 p2.1 p2.2)) else b_Mo_forged_32 v1 p2.1 p2.2))
theorem m_Mo_forged {g : GC} (hg : gOk g) (l : Launch)  (v1 : Int32) (m : MD) (xx : XD) (oo : Nat → Int64) (r : Int32 × MD) (h : f_Mo_forged v1 m = some r) : Mi g l y_Mo_forged c_Mo_forged 11 (some .int) 6 [.ref (g_a g 83), .int v1] (xx, m, oo) r.1 (xx, r.2, oo) := by
  refine m_i hg pn_Mo rfl fun X q C => ?_
  refine k_sub (lv' := [(0, .ref (g_a g 83)), (1, .int v1)]) [0, 1] rfl ?_
  unfold f_Mo_forged at h
  refine k_aload_n C d_Mo_forged_0 0 rfl ?_
  refine k_iconst C 0 d_Mo_forged_1 ic_0 ?_
  obtain ⟨m1, em1, h⟩ := lt_some h
  refine kp_Mo_71 C em1 d_Mo_forged_2 ?_
  refine k_aload_n C d_Mo_forged_5 0 rfl ?_
  refine k_iload_n C d_Mo_forged_6 1 rfl ?_
  obtain ⟨p2, ep2, h⟩ := bd_some h
  refine k_callVi C q_Mo_171 (fun l => m_Mo_wrongRow (cx_g C) l v1 m1 xx oo p2 ep2) rfl rfl (rtI_c q) (by decide) sh_Mo rfl rfl rfl rfl d_Mo_forged_7 ?_
  refine k_istore_n C (lv' := [(2, .int p2.1), (0, .ref (g_a g 83)), (1, .int v1)]) d_Mo_forged_10 rfl rfl ?_
  refine k_iload_n C d_Mo_forged_11 0 rfl ?_
  refine k_if_ne C 32 d_Mo_forged_12 (by decide) (fun c3 => ?_) (fun c3 => ?_)
  · have h := (if_neg c3).symm.trans h
    exact k_sub [1, 2, 0] rfl (t_Mo_forged_32 C q v1 p2.1 p2.2 h)
  · have h := (if_pos c3).symm.trans h
    refine k_aload_n C d_Mo_forged_15 1 rfl ?_
    refine kg_Mo_37 C d_Mo_forged_16 ?_
    refine k_iload_n C d_Mo_forged_19 2 rfl ?_
    obtain ⟨i4, h⟩ := gI_some h
    refine k_ialdM C (by decide) (by decide) i4 d_Mo_forged_20 ?_
    refine k_iconst C 2 d_Mo_forged_21 ic_2 ?_
    refine k_irem C nz_2 d_Mo_forged_22 ?_
    refine k_iconst C 1 d_Mo_forged_23 ic_1 ?_
    refine k_icmp_ne C 32 d_Mo_forged_24 (by decide) (fun c5 => ?_) (fun c5 => ?_)
    · have h := (if_neg c5).symm.trans h
      exact k_sub [1, 2, 0] rfl (t_Mo_forged_32 C q v1 p2.1 p2.2 h)
    · have h := (if_pos c5).symm.trans h
      refine k_bipush C (-13) d_Mo_forged_27 bp_m13 ?_
      refine k_goto C 33 d_Mo_forged_29 (by decide) ?_
      exact k_sub [1, 2] rfl (t_Mo_forged_33 C q v1 (-13) p2.2 h)

def b_Mo_homes_117 (K63 : Int32 → Int32 → Int32 → MD → Option (Int32 × MD)) (v1 : Int32) (v2 : Int32) (v3 : Int32) (v4 : Int32) (v6 : Int32) (v8 : Int32) (vt0 : Int32) (vt1 : Int32) (m : MD) : Option (Int32 × MD) := K63 v6 (vt0 + vt1) (v8 + 1) m
theorem t_Mo_homes_117 {g : GC} {X : MX} (C : Cx g X c_Mo_homes 10 n_Mo 6) {r : Int32 × MD} {xx : XD} {oo : Nat → Int64} (q : RtI g X (some .int) r.1 (xx, r.2, oo)) (v1 : Int32) (v2 : Int32) (v3 : Int32) (v4 : Int32) (v6 : Int32) (v8 : Int32) (vt0 : Int32) (vt1 : Int32) (K63 : Int32 → Int32 → Int32 → MD → Option (Int32 × MD)) (hK63 : ∀ (v6 : Int32) (v7 : Int32) (v8 : Int32) (m : MD), K63 v6 v7 v8 m = some r → Wk g X 10 63 [(0, .ref (g_a g 83)), (1, .int v1), (2, .int v2), (3, .int v3), (4, .int v4), (6, .int v6), (7, .int v7), (8, .int v8)] [] (xx, m, oo)) (m : MD) (h : b_Mo_homes_117 K63 v1 v2 v3 v4 v6 v8 vt0 vt1 m = some r) : Wk g X 10 117 [(0, .ref (g_a g 83)), (1, .int v1), (2, .int v2), (3, .int v3), (4, .int v4), (6, .int v6), (8, .int v8)] [.int vt1, .int vt0] (xx, m, oo) := by
  unfold b_Mo_homes_117 at h
  refine k_iadd C d_Mo_homes_117 ?_
  refine k_istore C (lv' := [(7, .int (vt0 + vt1)), (0, .ref (g_a g 83)), (1, .int v1), (2, .int v2), (3, .int v3), (4, .int v4), (6, .int v6), (8, .int v8)]) d_Mo_homes_118 rfl rfl ?_
  refine k_inc C (lv' := [(8, .int (v8 + 1)), (7, .int (vt0 + vt1)), (0, .ref (g_a g 83)), (1, .int v1), (2, .int v2), (3, .int v3), (4, .int v4), (6, .int v6)]) d_Mo_homes_120 7 rfl ic_1 rfl rfl ?_
  refine k_goto C 63 d_Mo_homes_123 (by decide) ?_
  exact k_sub [2, 3, 4, 5, 6, 7, 1, 0] rfl (hK63 v6 (vt0 + vt1) (v8 + 1) m h)

def b_Mo_homes_102 (K63 : Int32 → Int32 → Int32 → MD → Option (Int32 × MD)) (v1 : Int32) (v2 : Int32) (v3 : Int32) (v4 : Int32) (v7 : Int32) (v8 : Int32) (v9 : Int32) (vt0 : Int32) (vt1 : Int32) (m : MD) : Option (Int32 × MD) := (if v9 = 0 then b_Mo_homes_117 K63 v1 v2 v3 v4 (vt0 ||| vt1) v8 v7 0 m else b_Mo_homes_117 K63 v1 v2 v3 v4 (vt0 ||| vt1) v8 v7 1 m)
theorem t_Mo_homes_102 {g : GC} {X : MX} (C : Cx g X c_Mo_homes 10 n_Mo 6) {r : Int32 × MD} {xx : XD} {oo : Nat → Int64} (q : RtI g X (some .int) r.1 (xx, r.2, oo)) (v1 : Int32) (v2 : Int32) (v3 : Int32) (v4 : Int32) (v7 : Int32) (v8 : Int32) (v9 : Int32) (vt0 : Int32) (vt1 : Int32) (K63 : Int32 → Int32 → Int32 → MD → Option (Int32 × MD)) (hK63 : ∀ (v6 : Int32) (v7 : Int32) (v8 : Int32) (m : MD), K63 v6 v7 v8 m = some r → Wk g X 10 63 [(0, .ref (g_a g 83)), (1, .int v1), (2, .int v2), (3, .int v3), (4, .int v4), (6, .int v6), (7, .int v7), (8, .int v8)] [] (xx, m, oo)) (m : MD) (h : b_Mo_homes_102 K63 v1 v2 v3 v4 v7 v8 v9 vt0 vt1 m = some r) : Wk g X 10 102 [(0, .ref (g_a g 83)), (1, .int v1), (2, .int v2), (3, .int v3), (4, .int v4), (7, .int v7), (8, .int v8), (9, .int v9)] [.int vt1, .int vt0] (xx, m, oo) := by
  unfold b_Mo_homes_102 at h
  refine k_ior C d_Mo_homes_102 ?_
  refine k_istore C (lv' := [(6, .int (vt0 ||| vt1)), (0, .ref (g_a g 83)), (1, .int v1), (2, .int v2), (3, .int v3), (4, .int v4), (7, .int v7), (8, .int v8), (9, .int v9)]) d_Mo_homes_103 rfl rfl ?_
  refine k_iload C d_Mo_homes_105 6 rfl ?_
  refine k_iload C d_Mo_homes_107 8 rfl ?_
  refine k_if_eq C 116 d_Mo_homes_109 (by decide) (fun c1 => ?_) (fun c1 => ?_)
  · have h := (if_pos c1).symm.trans h
    refine k_iconst C 0 d_Mo_homes_116 ic_0 ?_
    exact k_sub [1, 2, 3, 4, 5, 0, 7] rfl (t_Mo_homes_117 C q v1 v2 v3 v4 (vt0 ||| vt1) v8 v7 0 K63 hK63 m h)
  · have h := (if_neg c1).symm.trans h
    refine k_iconst C 1 d_Mo_homes_112 ic_1 ?_
    refine k_goto C 117 d_Mo_homes_113 (by decide) ?_
    exact k_sub [1, 2, 3, 4, 5, 0, 7] rfl (t_Mo_homes_117 C q v1 v2 v3 v4 (vt0 ||| vt1) v8 v7 1 K63 hK63 m h)

def b_Mo_homes_63 (v1 : Int32) (v2 : Int32) (v3 : Int32) (v4 : Int32) : Nat → Int32 → Int32 → Int32 → MD → Option (Int32 × MD)
  | 0, _, _, _, _ => none
  | n + 1, v6, v7, v8, m => (if 20 < v8 then (if v4 = 0 then some (v6, m) else some (v7, m)) else gI v2 7 (lt ((x_up m.1 86 v2.toNatClampNeg v8, m.2)) fun (m3 : MD) => (f_Mo_isRow v1 v2 v3 m3).bind fun p5 => ((if p5.1 = 0 then b_Mo_homes_102 (b_Mo_homes_63 v1 v2 v3 v4 n) v1 v2 v3 v4 v7 v8 p5.1 v6 0 p5.2 else b_Mo_homes_102 (b_Mo_homes_63 v1 v2 v3 v4 n) v1 v2 v3 v4 v7 v8 p5.1 v6 (1 <<< (v8 &&& 31)) p5.2))))
theorem t_Mo_homes_63 {g : GC} {X : MX} (C : Cx g X c_Mo_homes 10 n_Mo 6) {r : Int32 × MD} {xx : XD} {oo : Nat → Int64} (q : RtI g X (some .int) r.1 (xx, r.2, oo)) (v1 : Int32) (v2 : Int32) (v3 : Int32) (v4 : Int32) : ∀ (n : Nat) (v6 : Int32) (v7 : Int32) (v8 : Int32) (m : MD) (h : b_Mo_homes_63 v1 v2 v3 v4 n v6 v7 v8 m = some r), Wk g X 10 63 [(0, .ref (g_a g 83)), (1, .int v1), (2, .int v2), (3, .int v3), (4, .int v4), (6, .int v6), (7, .int v7), (8, .int v8)] [] (xx, m, oo) := by
  intro n
  induction n with
  | zero =>
    intro v6 v7 v8 m h
    rw [b_Mo_homes_63] at h
    cases h
  | succ n ih =>
    intro v6 v7 v8 m h
    rw [b_Mo_homes_63] at h
    refine k_iload C d_Mo_homes_63 7 rfl ?_
    refine k_bipush C 20 d_Mo_homes_65 bp_20 ?_
    refine k_icmp_gt C 126 d_Mo_homes_67 (by decide) (fun c1 => ?_) (fun c1 => ?_)
    · have h := (if_pos c1).symm.trans h
      refine k_iload C d_Mo_homes_126 4 rfl ?_
      refine k_if_ne C 136 d_Mo_homes_128 (by decide) (fun c2 => ?_) (fun c2 => ?_)
      · have h := (if_neg c2).symm.trans h
        refine k_iload C d_Mo_homes_136 6 rfl ?_
        obtain rfl := Option.some.inj h
        exact k_iret C q d_Mo_homes_138
      · have h := (if_pos c2).symm.trans h
        refine k_iload C d_Mo_homes_131 5 rfl ?_
        refine k_goto C 138 d_Mo_homes_133 (by decide) ?_
        obtain rfl := Option.some.inj h
        exact k_iret C q d_Mo_homes_138
    · have h := (if_neg c1).symm.trans h
      refine k_aload_n C d_Mo_homes_70 0 rfl ?_
      refine kg_Mo_16 C d_Mo_homes_71 ?_
      refine k_iload_n C d_Mo_homes_74 2 rfl ?_
      refine k_iload C d_Mo_homes_75 7 rfl ?_
      obtain ⟨i4, h⟩ := gI_some h
      obtain ⟨m3, em3, h⟩ := lt_some h
      refine k_iastM C (by decide) (by decide) i4 em3 d_Mo_homes_77 ?_
      refine k_aload_n C d_Mo_homes_78 0 rfl ?_
      refine k_iload_n C d_Mo_homes_79 1 rfl ?_
      refine k_iload_n C d_Mo_homes_80 2 rfl ?_
      refine k_iload_n C d_Mo_homes_81 3 rfl ?_
      obtain ⟨p5, ep5, h⟩ := bd_some h
      refine k_callVi C q_Mo_255 (fun l => m_Mo_isRow (cx_g C) l v1 v2 v3 m3 xx oo p5 ep5) rfl rfl (rtI_c q) (by decide) sh_Mo rfl rfl rfl rfl d_Mo_homes_82 ?_
      refine k_istore C (lv' := [(9, .int p5.1), (0, .ref (g_a g 83)), (1, .int v1), (2, .int v2), (3, .int v3), (4, .int v4), (6, .int v6), (7, .int v7), (8, .int v8)]) d_Mo_homes_85 rfl rfl ?_
      refine k_iload C d_Mo_homes_87 6 rfl ?_
      refine k_iload C d_Mo_homes_89 0 rfl ?_
      refine k_if_eq C 101 d_Mo_homes_91 (by decide) (fun c6 => ?_) (fun c6 => ?_)
      · have h := (if_pos c6).symm.trans h
        refine k_iconst C 0 d_Mo_homes_101 ic_0 ?_
        exact k_sub [1, 2, 3, 4, 5, 7, 8, 0] rfl (t_Mo_homes_102 C q v1 v2 v3 v4 v7 v8 p5.1 v6 0 (b_Mo_homes_63 v1 v2 v3 v4 n) ih p5.2 h)
      · have h := (if_neg c6).symm.trans h
        refine k_iconst C 1 d_Mo_homes_94 ic_1 ?_
        refine k_iload C d_Mo_homes_95 8 rfl ?_
        refine k_ishl C d_Mo_homes_97 ?_
        refine k_goto C 102 d_Mo_homes_98 (by decide) ?_
        exact k_sub [1, 2, 3, 4, 5, 7, 8, 0] rfl (t_Mo_homes_102 C q v1 v2 v3 v4 v7 v8 p5.1 v6 (1 <<< (v8 &&& 31)) (b_Mo_homes_63 v1 v2 v3 v4 n) ih p5.2 h)

def b_Mo_homes_40 (v1 : Int32) (v2 : Int32) (v3 : Int32) (v4 : Int32) (vt0 : Int32) (m : MD) : Option (Int32 × MD) := (if 0 ≤ vt0 then (f_Mo_open m).bind fun p2 => (b_Mo_homes_63 v1 v2 v3 v4 fu 0 0 0 p2.2) else some (vt0, m))
theorem t_Mo_homes_40 {g : GC} {X : MX} (C : Cx g X c_Mo_homes 10 n_Mo 6) {r : Int32 × MD} {xx : XD} {oo : Nat → Int64} (q : RtI g X (some .int) r.1 (xx, r.2, oo)) (v1 : Int32) (v2 : Int32) (v3 : Int32) (v4 : Int32) (vt0 : Int32) (m : MD) (h : b_Mo_homes_40 v1 v2 v3 v4 vt0 m = some r) : Wk g X 10 40 [(0, .ref (g_a g 83)), (1, .int v1), (2, .int v2), (3, .int v3), (4, .int v4)] [.int vt0] (xx, m, oo) := by
  unfold b_Mo_homes_40 at h
  refine k_istore C (lv' := [(5, .int vt0), (0, .ref (g_a g 83)), (1, .int v1), (2, .int v2), (3, .int v3), (4, .int v4)]) d_Mo_homes_40 rfl rfl ?_
  refine k_iload C d_Mo_homes_42 0 rfl ?_
  refine k_if_ge C 50 d_Mo_homes_44 (by decide) (fun c1 => ?_) (fun c1 => ?_)
  · have h := (if_pos c1).symm.trans h
    refine k_iconst C 0 d_Mo_homes_50 ic_0 ?_
    refine k_istore C (lv' := [(6, .int 0), (5, .int vt0), (0, .ref (g_a g 83)), (1, .int v1), (2, .int v2), (3, .int v3), (4, .int v4)]) d_Mo_homes_51 rfl rfl ?_
    refine k_iconst C 0 d_Mo_homes_53 ic_0 ?_
    refine k_istore C (lv' := [(7, .int 0), (6, .int 0), (5, .int vt0), (0, .ref (g_a g 83)), (1, .int v1), (2, .int v2), (3, .int v3), (4, .int v4)]) d_Mo_homes_54 rfl rfl ?_
    refine k_aload_n C d_Mo_homes_56 3 rfl ?_
    obtain ⟨p2, ep2, h⟩ := bd_some h
    refine k_callVv C q_Mo_177 (fun l => m_Mo_open (cx_g C) l m xx oo p2 ep2) rfl rfl (rtI_c q) (by decide) sh_Mo rfl rfl rfl rfl d_Mo_homes_57 ?_
    refine k_iconst C 0 d_Mo_homes_60 ic_0 ?_
    refine k_istore C (lv' := [(8, .int 0), (7, .int 0), (6, .int 0), (5, .int vt0), (0, .ref (g_a g 83)), (1, .int v1), (2, .int v2), (3, .int v3), (4, .int v4)]) d_Mo_homes_61 rfl rfl ?_
    exact k_sub [4, 5, 6, 7, 8, 2, 1, 0] rfl (t_Mo_homes_63 C q v1 v2 v3 v4 fu 0 0 0 p2.2 h)
  · have h := (if_neg c1).symm.trans h
    refine k_iload C d_Mo_homes_47 0 rfl ?_
    obtain rfl := Option.some.inj h
    exact k_iret C q d_Mo_homes_49

def b_Mo_homes_39 (v1 : Int32) (v2 : Int32) (v3 : Int32) (v4 : Int32) (m : MD) : Option (Int32 × MD) := b_Mo_homes_40 v1 v2 v3 v4 (-1) m
theorem t_Mo_homes_39 {g : GC} {X : MX} (C : Cx g X c_Mo_homes 10 n_Mo 6) {r : Int32 × MD} {xx : XD} {oo : Nat → Int64} (q : RtI g X (some .int) r.1 (xx, r.2, oo)) (v1 : Int32) (v2 : Int32) (v3 : Int32) (v4 : Int32) (m : MD) (h : b_Mo_homes_39 v1 v2 v3 v4 m = some r) : Wk g X 10 39 [(0, .ref (g_a g 83)), (1, .int v1), (2, .int v2), (3, .int v3), (4, .int v4)] [] (xx, m, oo) := by
  unfold b_Mo_homes_39 at h
  refine k_iconst C (-1) d_Mo_homes_39 ic_m1 ?_
  exact k_sub [0, 1, 2, 3, 4] rfl (t_Mo_homes_40 C q v1 v2 v3 v4 (-1) m h)

def f_Mo_homes (v1 : Int32) (v2 : Int32) (v3 : Int32) (v4 : Int32) (m : MD) : Option (Int32 × MD) := lt ((x_up m.1 83 14 0, m.2)) fun (m1 : MD) => (f_Mo_isHorse v2 m1).bind fun p2 => ((if p2.1 = 0 then b_Mo_homes_39 v1 v2 v3 v4 p2.2 else (f_Mo_isYard v3 p2.2).bind fun p4 => ((if p4.1 = 0 then b_Mo_homes_39 v1 v2 v3 v4 p4.2 else (f_Mo_in v4.toInt64 0 1 p4.2).bind fun p6 => ((if p6.1 = 0 then b_Mo_homes_39 v1 v2 v3 v4 p6.2 else (f_Mo_wrongRow v1 p6.2).bind fun p8 => (b_Mo_homes_40 v1 v2 v3 v4 p8.1 p8.2)))))))
theorem m_Mo_homes {g : GC} (hg : gOk g) (l : Launch)  (v1 : Int32) (v2 : Int32) (v3 : Int32) (v4 : Int32) (m : MD) (xx : XD) (oo : Nat → Int64) (r : Int32 × MD) (h : f_Mo_homes v1 v2 v3 v4 m = some r) : Mi g l y_Mo_homes c_Mo_homes 10 (some .int) 6 [.ref (g_a g 83), .int v1, .int v2, .int v3, .int v4] (xx, m, oo) r.1 (xx, r.2, oo) := by
  refine m_i hg pn_Mo rfl fun X q C => ?_
  refine k_sub (lv' := [(0, .ref (g_a g 83)), (1, .int v1), (2, .int v2), (3, .int v3), (4, .int v4)]) [0, 1, 2, 3, 4] rfl ?_
  unfold f_Mo_homes at h
  refine k_aload_n C d_Mo_homes_0 0 rfl ?_
  refine k_iconst C 0 d_Mo_homes_1 ic_0 ?_
  obtain ⟨m1, em1, h⟩ := lt_some h
  refine kp_Mo_71 C em1 d_Mo_homes_2 ?_
  refine k_aload_n C d_Mo_homes_5 0 rfl ?_
  refine k_iload_n C d_Mo_homes_6 2 rfl ?_
  obtain ⟨p2, ep2, h⟩ := bd_some h
  refine k_callVi C q_Mo_162 (fun l => m_Mo_isHorse (cx_g C) l v2 m1 xx oo p2 ep2) rfl rfl (rtI_c q) (by decide) sh_Mo rfl rfl rfl rfl d_Mo_homes_7 ?_
  refine k_if_eq C 39 d_Mo_homes_10 (by decide) (fun c3 => ?_) (fun c3 => ?_)
  · have h := (if_pos c3).symm.trans h
    exact k_sub [0, 1, 2, 3, 4] rfl (t_Mo_homes_39 C q v1 v2 v3 v4 p2.2 h)
  · have h := (if_neg c3).symm.trans h
    refine k_iload_n C d_Mo_homes_13 3 rfl ?_
    obtain ⟨p4, ep4, h⟩ := bd_some h
    refine k_callSi C q_Mo_149 (fun l => m_Mo_isYard (cx_g C) l v3 p2.2 xx oo p4 ep4) rfl rfl (rtI_c q) rfl rfl rfl d_Mo_homes_14 ?_
    refine k_if_eq C 39 d_Mo_homes_17 (by decide) (fun c5 => ?_) (fun c5 => ?_)
    · have h := (if_pos c5).symm.trans h
      exact k_sub [0, 1, 2, 3, 4] rfl (t_Mo_homes_39 C q v1 v2 v3 v4 p4.2 h)
    · have h := (if_neg c5).symm.trans h
      refine k_iload C d_Mo_homes_20 4 rfl ?_
      refine k_i2l C d_Mo_homes_22 ?_
      refine k_lconst C 0 d_Mo_homes_23 rfl ?_
      refine k_lconst C 1 d_Mo_homes_24 rfl ?_
      obtain ⟨p6, ep6, h⟩ := bd_some h
      refine k_callSi C q_Mo_77 (fun l => m_Mo_in (cx_g C) l v4.toInt64 0 1 p4.2 xx oo p6 ep6) rfl rfl (rtI_c q) rfl rfl rfl d_Mo_homes_25 ?_
      refine k_if_eq C 39 d_Mo_homes_28 (by decide) (fun c7 => ?_) (fun c7 => ?_)
      · have h := (if_pos c7).symm.trans h
        exact k_sub [0, 1, 2, 3, 4] rfl (t_Mo_homes_39 C q v1 v2 v3 v4 p6.2 h)
      · have h := (if_neg c7).symm.trans h
        refine k_aload_n C d_Mo_homes_31 0 rfl ?_
        refine k_iload_n C d_Mo_homes_32 1 rfl ?_
        obtain ⟨p8, ep8, h⟩ := bd_some h
        refine k_callVi C q_Mo_171 (fun l => m_Mo_wrongRow (cx_g C) l v1 p6.2 xx oo p8 ep8) rfl rfl (rtI_c q) (by decide) sh_Mo rfl rfl rfl rfl d_Mo_homes_33 ?_
        refine k_goto C 40 d_Mo_homes_36 (by decide) ?_
        exact k_sub [0, 1, 2, 3, 4] rfl (t_Mo_homes_40 C q v1 v2 v3 v4 p8.1 p8.2 h)

def b_Mo_leastLonging_82 (K45 : Int32 → Int32 → MD → Option (Int32 × MD)) (v1 : Int32) (v2 : Int32) (v3 : Int32) (v5 : Int32) (vt0 : Int32) (m : MD) : Option (Int32 × MD) := (f_Mo_close m).bind fun p1 => (K45 vt0 (v5 + 1) p1.2)
theorem t_Mo_leastLonging_82 {g : GC} {X : MX} (C : Cx g X c_Mo_leastLonging 6 n_Mo 6) {r : Int32 × MD} {xx : XD} {oo : Nat → Int64} (q : RtI g X (some .int) r.1 (xx, r.2, oo)) (v1 : Int32) (v2 : Int32) (v3 : Int32) (v5 : Int32) (vt0 : Int32) (K45 : Int32 → Int32 → MD → Option (Int32 × MD)) (hK45 : ∀ (v4 : Int32) (v5 : Int32) (m : MD), K45 v4 v5 m = some r → Wk g X 6 45 [(0, .ref (g_a g 83)), (1, .int v1), (2, .int v2), (3, .int v3), (4, .int v4), (5, .int v5)] [] (xx, m, oo)) (m : MD) (h : b_Mo_leastLonging_82 K45 v1 v2 v3 v5 vt0 m = some r) : Wk g X 6 82 [(0, .ref (g_a g 83)), (1, .int v1), (2, .int v2), (3, .int v3), (5, .int v5)] [.int vt0] (xx, m, oo) := by
  unfold b_Mo_leastLonging_82 at h
  refine k_istore C (lv' := [(4, .int vt0), (0, .ref (g_a g 83)), (1, .int v1), (2, .int v2), (3, .int v3), (5, .int v5)]) d_Mo_leastLonging_82 rfl rfl ?_
  refine k_aload_n C d_Mo_leastLonging_84 1 rfl ?_
  obtain ⟨p1, ep1, h⟩ := bd_some h
  refine k_callVv C q_Mo_183 (fun l => m_Mo_close (cx_g C) l m xx oo p1 ep1) rfl rfl (rtI_c q) (by decide) sh_Mo rfl rfl rfl rfl d_Mo_leastLonging_85 ?_
  refine k_inc C (lv' := [(5, .int (v5 + 1)), (4, .int vt0), (0, .ref (g_a g 83)), (1, .int v1), (2, .int v2), (3, .int v3)]) d_Mo_leastLonging_88 5 rfl ic_1 rfl rfl ?_
  refine k_goto C 45 d_Mo_leastLonging_91 (by decide) ?_
  exact k_sub [2, 3, 4, 5, 1, 0] rfl (hK45 vt0 (v5 + 1) p1.2 h)

def b_Mo_leastLonging_45 (v1 : Int32) (v2 : Int32) (v3 : Int32) : Nat → Int32 → Int32 → MD → Option (Int32 × MD)
  | 0, _, _, _ => none
  | n + 1, v4, v5, m => (if 99 < v5 then some (v4, m) else (if 0 ≤ v4 then some (v4, m) else gI v1 7 (lt ((x_up m.1 88 v1.toNatClampNeg v5, m.2)) fun (m3 : MD) => (f_Mo_ride v1 v2 m3).bind fun p5 => ((if v3 < p5.1 then b_Mo_leastLonging_82 (b_Mo_leastLonging_45 v1 v2 v3 n) v1 v2 v3 v5 (-4) p5.2 else b_Mo_leastLonging_82 (b_Mo_leastLonging_45 v1 v2 v3 n) v1 v2 v3 v5 v5 p5.2)))))
theorem t_Mo_leastLonging_45 {g : GC} {X : MX} (C : Cx g X c_Mo_leastLonging 6 n_Mo 6) {r : Int32 × MD} {xx : XD} {oo : Nat → Int64} (q : RtI g X (some .int) r.1 (xx, r.2, oo)) (v1 : Int32) (v2 : Int32) (v3 : Int32) : ∀ (n : Nat) (v4 : Int32) (v5 : Int32) (m : MD) (h : b_Mo_leastLonging_45 v1 v2 v3 n v4 v5 m = some r), Wk g X 6 45 [(0, .ref (g_a g 83)), (1, .int v1), (2, .int v2), (3, .int v3), (4, .int v4), (5, .int v5)] [] (xx, m, oo) := by
  intro n
  induction n with
  | zero =>
    intro v4 v5 m h
    rw [b_Mo_leastLonging_45] at h
    cases h
  | succ n ih =>
    intro v4 v5 m h
    rw [b_Mo_leastLonging_45] at h
    refine k_iload C d_Mo_leastLonging_45 5 rfl ?_
    refine k_bipush C 99 d_Mo_leastLonging_47 bp_99 ?_
    refine k_icmp_gt C 94 d_Mo_leastLonging_49 (by decide) (fun c1 => ?_) (fun c1 => ?_)
    · have h := (if_pos c1).symm.trans h
      refine k_iload C d_Mo_leastLonging_94 4 rfl ?_
      obtain rfl := Option.some.inj h
      exact k_iret C q d_Mo_leastLonging_96
    · have h := (if_neg c1).symm.trans h
      refine k_iload C d_Mo_leastLonging_52 4 rfl ?_
      refine k_if_ge C 94 d_Mo_leastLonging_54 (by decide) (fun c2 => ?_) (fun c2 => ?_)
      · have h := (if_pos c2).symm.trans h
        refine k_iload C d_Mo_leastLonging_94 4 rfl ?_
        obtain rfl := Option.some.inj h
        exact k_iret C q d_Mo_leastLonging_96
      · have h := (if_neg c2).symm.trans h
        refine k_aload_n C d_Mo_leastLonging_57 0 rfl ?_
        refine kg_Mo_22 C d_Mo_leastLonging_58 ?_
        refine k_iload_n C d_Mo_leastLonging_61 1 rfl ?_
        refine k_iload C d_Mo_leastLonging_62 5 rfl ?_
        obtain ⟨i4, h⟩ := gI_some h
        obtain ⟨m3, em3, h⟩ := lt_some h
        refine k_iastM C (by decide) (by decide) i4 em3 d_Mo_leastLonging_64 ?_
        refine k_aload_n C d_Mo_leastLonging_65 0 rfl ?_
        refine k_iload_n C d_Mo_leastLonging_66 1 rfl ?_
        refine k_iload_n C d_Mo_leastLonging_67 2 rfl ?_
        obtain ⟨p5, ep5, h⟩ := bd_some h
        refine k_callVi C q_Mo_165 (fun l => m_Mo_ride (cx_g C) l v1 v2 m3 xx oo p5 ep5) rfl rfl (rtI_c q) (by decide) sh_Mo rfl rfl rfl rfl d_Mo_leastLonging_68 ?_
        refine k_iload_n C d_Mo_leastLonging_71 3 rfl ?_
        refine k_icmp_gt C 80 d_Mo_leastLonging_72 (by decide) (fun c6 => ?_) (fun c6 => ?_)
        · have h := (if_pos c6).symm.trans h
          refine k_bipush C (-4) d_Mo_leastLonging_80 bp_m4 ?_
          exact k_sub [0, 1, 2, 3, 5] rfl (t_Mo_leastLonging_82 C q v1 v2 v3 v5 (-4) (b_Mo_leastLonging_45 v1 v2 v3 n) ih p5.2 h)
        · have h := (if_neg c6).symm.trans h
          refine k_iload C d_Mo_leastLonging_75 5 rfl ?_
          refine k_goto C 82 d_Mo_leastLonging_77 (by decide) ?_
          exact k_sub [0, 1, 2, 3, 5] rfl (t_Mo_leastLonging_82 C q v1 v2 v3 v5 v5 (b_Mo_leastLonging_45 v1 v2 v3 n) ih p5.2 h)

def f_Mo_leastLonging (v1 : Int32) (v2 : Int32) (v3 : Int32) (m : MD) : Option (Int32 × MD) := lt ((x_up m.1 83 14 0, m.2)) fun (m1 : MD) => (f_Mo_isHorse v1 m1).bind fun p2 => ((if p2.1 = 0 then some ((-1), p2.2) else (f_Mo_isYard v2 p2.2).bind fun p4 => ((if p4.1 = 0 then some ((-1), p4.2) else (f_Mo_in v3.toInt64 0 20 p4.2).bind fun p6 => ((if p6.1 = 0 then some ((-1), p6.2) else (f_Mo_open p6.2).bind fun p8 => (b_Mo_leastLonging_45 v1 v2 v3 fu (-4) 0 p8.2)))))))
theorem m_Mo_leastLonging {g : GC} (hg : gOk g) (l : Launch)  (v1 : Int32) (v2 : Int32) (v3 : Int32) (m : MD) (xx : XD) (oo : Nat → Int64) (r : Int32 × MD) (h : f_Mo_leastLonging v1 v2 v3 m = some r) : Mi g l y_Mo_leastLonging c_Mo_leastLonging 6 (some .int) 6 [.ref (g_a g 83), .int v1, .int v2, .int v3] (xx, m, oo) r.1 (xx, r.2, oo) := by
  refine m_i hg pn_Mo rfl fun X q C => ?_
  refine k_sub (lv' := [(0, .ref (g_a g 83)), (1, .int v1), (2, .int v2), (3, .int v3)]) [0, 1, 2, 3] rfl ?_
  unfold f_Mo_leastLonging at h
  refine k_aload_n C d_Mo_leastLonging_0 0 rfl ?_
  refine k_iconst C 0 d_Mo_leastLonging_1 ic_0 ?_
  obtain ⟨m1, em1, h⟩ := lt_some h
  refine kp_Mo_71 C em1 d_Mo_leastLonging_2 ?_
  refine k_aload_n C d_Mo_leastLonging_5 0 rfl ?_
  refine k_iload_n C d_Mo_leastLonging_6 1 rfl ?_
  obtain ⟨p2, ep2, h⟩ := bd_some h
  refine k_callVi C q_Mo_162 (fun l => m_Mo_isHorse (cx_g C) l v1 m1 xx oo p2 ep2) rfl rfl (rtI_c q) (by decide) sh_Mo rfl rfl rfl rfl d_Mo_leastLonging_7 ?_
  refine k_if_eq C 32 d_Mo_leastLonging_10 (by decide) (fun c3 => ?_) (fun c3 => ?_)
  · have h := (if_pos c3).symm.trans h
    refine k_iconst C (-1) d_Mo_leastLonging_32 ic_m1 ?_
    obtain rfl := Option.some.inj h
    exact k_iret C q d_Mo_leastLonging_33
  · have h := (if_neg c3).symm.trans h
    refine k_iload_n C d_Mo_leastLonging_13 2 rfl ?_
    obtain ⟨p4, ep4, h⟩ := bd_some h
    refine k_callSi C q_Mo_149 (fun l => m_Mo_isYard (cx_g C) l v2 p2.2 xx oo p4 ep4) rfl rfl (rtI_c q) rfl rfl rfl d_Mo_leastLonging_14 ?_
    refine k_if_eq C 32 d_Mo_leastLonging_17 (by decide) (fun c5 => ?_) (fun c5 => ?_)
    · have h := (if_pos c5).symm.trans h
      refine k_iconst C (-1) d_Mo_leastLonging_32 ic_m1 ?_
      obtain rfl := Option.some.inj h
      exact k_iret C q d_Mo_leastLonging_33
    · have h := (if_neg c5).symm.trans h
      refine k_iload_n C d_Mo_leastLonging_20 3 rfl ?_
      refine k_i2l C d_Mo_leastLonging_21 ?_
      refine k_lconst C 0 d_Mo_leastLonging_22 rfl ?_
      refine k_ldc2 C 20 l_1111 d_Mo_leastLonging_23 ?_
      obtain ⟨p6, ep6, h⟩ := bd_some h
      refine k_callSi C q_Mo_77 (fun l => m_Mo_in (cx_g C) l v3.toInt64 0 20 p4.2 xx oo p6 ep6) rfl rfl (rtI_c q) rfl rfl rfl d_Mo_leastLonging_26 ?_
      refine k_if_ne C 34 d_Mo_leastLonging_29 (by decide) (fun c7 => ?_) (fun c7 => ?_)
      · have h := (if_neg c7).symm.trans h
        refine k_bipush C (-4) d_Mo_leastLonging_34 bp_m4 ?_
        refine k_istore C (lv' := [(4, .int (-4)), (0, .ref (g_a g 83)), (1, .int v1), (2, .int v2), (3, .int v3)]) d_Mo_leastLonging_36 rfl rfl ?_
        refine k_aload_n C d_Mo_leastLonging_38 1 rfl ?_
        obtain ⟨p8, ep8, h⟩ := bd_some h
        refine k_callVv C q_Mo_177 (fun l => m_Mo_open (cx_g C) l p6.2 xx oo p8 ep8) rfl rfl (rtI_c q) (by decide) sh_Mo rfl rfl rfl rfl d_Mo_leastLonging_39 ?_
        refine k_iconst C 0 d_Mo_leastLonging_42 ic_0 ?_
        refine k_istore C (lv' := [(5, .int 0), (4, .int (-4)), (0, .ref (g_a g 83)), (1, .int v1), (2, .int v2), (3, .int v3)]) d_Mo_leastLonging_43 rfl rfl ?_
        exact k_sub [2, 3, 4, 5, 1, 0] rfl (t_Mo_leastLonging_45 C q v1 v2 v3 fu (-4) 0 p8.2 h)
      · have h := (if_pos c7).symm.trans h
        refine k_iconst C (-1) d_Mo_leastLonging_32 ic_m1 ?_
        obtain rfl := Option.some.inj h
        exact k_iret C q d_Mo_leastLonging_33

def f_Mo_ownRide (v1 : Int32) (v2 : Int32) (m : MD) : Option (Int32 × MD) := (f_Mo_open m).bind fun p1 => ((f_Mo_ride v1 v2 p1.2).bind fun p2 => ((f_Mo_close p2.2).bind fun p3 => (some (p2.1, p3.2))))
theorem m_Mo_ownRide {g : GC} (hg : gOk g) (l : Launch)  (v1 : Int32) (v2 : Int32) (m : MD) (xx : XD) (oo : Nat → Int64) (r : Int32 × MD) (h : f_Mo_ownRide v1 v2 m = some r) : Mi g l y_Mo_ownRide c_Mo_ownRide 4 (some .int) 6 [.ref (g_a g 83), .int v1, .int v2] (xx, m, oo) r.1 (xx, r.2, oo) := by
  refine m_i hg pn_Mo rfl fun X q C => ?_
  refine k_sub (lv' := [(0, .ref (g_a g 83)), (1, .int v1), (2, .int v2)]) [0, 1, 2] rfl ?_
  unfold f_Mo_ownRide at h
  refine k_aload_n C d_Mo_ownRide_0 0 rfl ?_
  obtain ⟨p1, ep1, h⟩ := bd_some h
  refine k_callVv C q_Mo_177 (fun l => m_Mo_open (cx_g C) l m xx oo p1 ep1) rfl rfl (rtI_c q) (by decide) sh_Mo rfl rfl rfl rfl d_Mo_ownRide_1 ?_
  refine k_aload_n C d_Mo_ownRide_4 0 rfl ?_
  refine k_iload_n C d_Mo_ownRide_5 1 rfl ?_
  refine k_iload_n C d_Mo_ownRide_6 2 rfl ?_
  obtain ⟨p2, ep2, h⟩ := bd_some h
  refine k_callVi C q_Mo_165 (fun l => m_Mo_ride (cx_g C) l v1 v2 p1.2 xx oo p2 ep2) rfl rfl (rtI_c q) (by decide) sh_Mo rfl rfl rfl rfl d_Mo_ownRide_7 ?_
  refine k_istore_n C (lv' := [(3, .int p2.1), (0, .ref (g_a g 83)), (1, .int v1), (2, .int v2)]) d_Mo_ownRide_10 rfl rfl ?_
  refine k_aload_n C d_Mo_ownRide_11 1 rfl ?_
  obtain ⟨p3, ep3, h⟩ := bd_some h
  refine k_callVv C q_Mo_183 (fun l => m_Mo_close (cx_g C) l p2.2 xx oo p3 ep3) rfl rfl (rtI_c q) (by decide) sh_Mo rfl rfl rfl rfl d_Mo_ownRide_12 ?_
  refine k_iload_n C d_Mo_ownRide_15 0 rfl ?_
  obtain rfl := Option.some.inj h
  exact k_iret C q d_Mo_ownRide_16

def f_Mo_rides (v1 : Int32) (v2 : Int32) (m : MD) : Option (Int32 × MD) := lt ((x_up m.1 83 14 0, m.2)) fun (m1 : MD) => (f_Mo_isHorse v1 m1).bind fun p2 => ((if p2.1 = 0 then some ((-1), p2.2) else (f_Mo_isYard v2 p2.2).bind fun p4 => ((if p4.1 = 0 then some ((-1), p4.2) else (f_Mo_open p4.2).bind fun p6 => ((f_Mo_ride v1 v2 p6.2).bind fun p7 => ((if p7.2.1 83 7 ≤ 999 then some (p7.1, p7.2) else (f_Mo_close p7.2).bind fun p9 => (some ((-3), p9.2)))))))))
theorem m_Mo_rides {g : GC} (hg : gOk g) (l : Launch)  (v1 : Int32) (v2 : Int32) (m : MD) (xx : XD) (oo : Nat → Int64) (r : Int32 × MD) (h : f_Mo_rides v1 v2 m = some r) : Mi g l y_Mo_rides c_Mo_rides 4 (some .int) 6 [.ref (g_a g 83), .int v1, .int v2] (xx, m, oo) r.1 (xx, r.2, oo) := by
  refine m_i hg pn_Mo rfl fun X q C => ?_
  refine k_sub (lv' := [(0, .ref (g_a g 83)), (1, .int v1), (2, .int v2)]) [0, 1, 2] rfl ?_
  unfold f_Mo_rides at h
  refine k_aload_n C d_Mo_rides_0 0 rfl ?_
  refine k_iconst C 0 d_Mo_rides_1 ic_0 ?_
  obtain ⟨m1, em1, h⟩ := lt_some h
  refine kp_Mo_71 C em1 d_Mo_rides_2 ?_
  refine k_aload_n C d_Mo_rides_5 0 rfl ?_
  refine k_iload_n C d_Mo_rides_6 1 rfl ?_
  obtain ⟨p2, ep2, h⟩ := bd_some h
  refine k_callVi C q_Mo_162 (fun l => m_Mo_isHorse (cx_g C) l v1 m1 xx oo p2 ep2) rfl rfl (rtI_c q) (by decide) sh_Mo rfl rfl rfl rfl d_Mo_rides_7 ?_
  refine k_if_eq C 20 d_Mo_rides_10 (by decide) (fun c3 => ?_) (fun c3 => ?_)
  · have h := (if_pos c3).symm.trans h
    refine k_iconst C (-1) d_Mo_rides_20 ic_m1 ?_
    obtain rfl := Option.some.inj h
    exact k_iret C q d_Mo_rides_21
  · have h := (if_neg c3).symm.trans h
    refine k_iload_n C d_Mo_rides_13 2 rfl ?_
    obtain ⟨p4, ep4, h⟩ := bd_some h
    refine k_callSi C q_Mo_149 (fun l => m_Mo_isYard (cx_g C) l v2 p2.2 xx oo p4 ep4) rfl rfl (rtI_c q) rfl rfl rfl d_Mo_rides_14 ?_
    refine k_if_ne C 22 d_Mo_rides_17 (by decide) (fun c5 => ?_) (fun c5 => ?_)
    · have h := (if_neg c5).symm.trans h
      refine k_aload_n C d_Mo_rides_22 0 rfl ?_
      obtain ⟨p6, ep6, h⟩ := bd_some h
      refine k_callVv C q_Mo_177 (fun l => m_Mo_open (cx_g C) l p4.2 xx oo p6 ep6) rfl rfl (rtI_c q) (by decide) sh_Mo rfl rfl rfl rfl d_Mo_rides_23 ?_
      refine k_aload_n C d_Mo_rides_26 0 rfl ?_
      refine k_iload_n C d_Mo_rides_27 1 rfl ?_
      refine k_iload_n C d_Mo_rides_28 2 rfl ?_
      obtain ⟨p7, ep7, h⟩ := bd_some h
      refine k_callVi C q_Mo_165 (fun l => m_Mo_ride (cx_g C) l v1 v2 p6.2 xx oo p7 ep7) rfl rfl (rtI_c q) (by decide) sh_Mo rfl rfl rfl rfl d_Mo_rides_29 ?_
      refine k_istore_n C (lv' := [(3, .int p7.1), (0, .ref (g_a g 83)), (1, .int v1), (2, .int v2)]) d_Mo_rides_32 rfl rfl ?_
      refine k_aload_n C d_Mo_rides_33 1 rfl ?_
      refine kg_Mo_95 C d_Mo_rides_34 ?_
      refine k_sipush C 999 d_Mo_rides_37 sp_999 ?_
      refine k_icmp_le C 50 d_Mo_rides_40 (by decide) (fun c8 => ?_) (fun c8 => ?_)
      · have h := (if_pos c8).symm.trans h
        refine k_iload_n C d_Mo_rides_50 0 rfl ?_
        obtain rfl := Option.some.inj h
        exact k_iret C q d_Mo_rides_51
      · have h := (if_neg c8).symm.trans h
        refine k_aload_n C d_Mo_rides_43 1 rfl ?_
        obtain ⟨p9, ep9, h⟩ := bd_some h
        refine k_callVv C q_Mo_183 (fun l => m_Mo_close (cx_g C) l p7.2 xx oo p9 ep9) rfl rfl (rtI_c q) (by decide) sh_Mo rfl rfl rfl rfl d_Mo_rides_44 ?_
        refine k_bipush C (-3) d_Mo_rides_47 bp_m3 ?_
        obtain rfl := Option.some.inj h
        exact k_iret C q d_Mo_rides_49
    · have h := (if_pos c5).symm.trans h
      refine k_iconst C (-1) d_Mo_rides_20 ic_m1 ?_
      obtain rfl := Option.some.inj h
      exact k_iret C q d_Mo_rides_21

def b_Mo_soonest_113 (K45 : Int32 → Int32 → Int32 → MD → Option (Int32 × MD)) (v1 : Int32) (v2 : Int32) (v3 : Int32) (v4 : Int32) (v6 : Int32) (vt0 : Int32) (m : MD) : Option (Int32 × MD) := K45 v4 vt0 (v6 + 1) m
theorem t_Mo_soonest_113 {g : GC} {X : MX} (C : Cx g X c_Mo_soonest 8 n_Mo 6) {r : Int32 × MD} {xx : XD} {oo : Nat → Int64} (q : RtI g X (some .int) r.1 (xx, r.2, oo)) (v1 : Int32) (v2 : Int32) (v3 : Int32) (v4 : Int32) (v6 : Int32) (vt0 : Int32) (K45 : Int32 → Int32 → Int32 → MD → Option (Int32 × MD)) (hK45 : ∀ (v4 : Int32) (v5 : Int32) (v6 : Int32) (m : MD), K45 v4 v5 v6 m = some r → Wk g X 8 45 [(0, .ref (g_a g 83)), (1, .int v1), (2, .int v2), (3, .int v3), (4, .int v4), (5, .int v5), (6, .int v6)] [] (xx, m, oo)) (m : MD) (h : b_Mo_soonest_113 K45 v1 v2 v3 v4 v6 vt0 m = some r) : Wk g X 8 113 [(0, .ref (g_a g 83)), (1, .int v1), (2, .int v2), (3, .int v3), (4, .int v4), (6, .int v6)] [.int vt0] (xx, m, oo) := by
  unfold b_Mo_soonest_113 at h
  refine k_istore C (lv' := [(5, .int vt0), (0, .ref (g_a g 83)), (1, .int v1), (2, .int v2), (3, .int v3), (4, .int v4), (6, .int v6)]) d_Mo_soonest_113 rfl rfl ?_
  refine k_inc C (lv' := [(6, .int (v6 + 1)), (5, .int vt0), (0, .ref (g_a g 83)), (1, .int v1), (2, .int v2), (3, .int v3), (4, .int v4)]) d_Mo_soonest_115 6 rfl ic_1 rfl rfl ?_
  refine k_goto C 45 d_Mo_soonest_118 (by decide) ?_
  exact k_sub [2, 3, 4, 5, 6, 1, 0] rfl (hK45 v4 vt0 (v6 + 1) m h)

def b_Mo_soonest_106 (K45 : Int32 → Int32 → Int32 → MD → Option (Int32 × MD)) (v1 : Int32) (v2 : Int32) (v3 : Int32) (v4 : Int32) (v6 : Int32) (v7 : Int32) (m : MD) : Option (Int32 × MD) := b_Mo_soonest_113 K45 v1 v2 v3 v4 v6 v7 m
theorem t_Mo_soonest_106 {g : GC} {X : MX} (C : Cx g X c_Mo_soonest 8 n_Mo 6) {r : Int32 × MD} {xx : XD} {oo : Nat → Int64} (q : RtI g X (some .int) r.1 (xx, r.2, oo)) (v1 : Int32) (v2 : Int32) (v3 : Int32) (v4 : Int32) (v6 : Int32) (v7 : Int32) (K45 : Int32 → Int32 → Int32 → MD → Option (Int32 × MD)) (hK45 : ∀ (v4 : Int32) (v5 : Int32) (v6 : Int32) (m : MD), K45 v4 v5 v6 m = some r → Wk g X 8 45 [(0, .ref (g_a g 83)), (1, .int v1), (2, .int v2), (3, .int v3), (4, .int v4), (5, .int v5), (6, .int v6)] [] (xx, m, oo)) (m : MD) (h : b_Mo_soonest_106 K45 v1 v2 v3 v4 v6 v7 m = some r) : Wk g X 8 106 [(0, .ref (g_a g 83)), (1, .int v1), (2, .int v2), (3, .int v3), (4, .int v4), (6, .int v6), (7, .int v7)] [] (xx, m, oo) := by
  unfold b_Mo_soonest_106 at h
  refine k_iload C d_Mo_soonest_106 6 rfl ?_
  refine k_goto C 113 d_Mo_soonest_108 (by decide) ?_
  exact k_sub [0, 1, 2, 3, 4, 5] rfl (t_Mo_soonest_113 C q v1 v2 v3 v4 v6 v7 K45 hK45 m h)

def b_Mo_soonest_92 (K45 : Int32 → Int32 → Int32 → MD → Option (Int32 × MD)) (v1 : Int32) (v2 : Int32) (v3 : Int32) (v5 : Int32) (v6 : Int32) (v7 : Int32) (vt0 : Int32) (m : MD) : Option (Int32 × MD) := (if v5 < 0 then b_Mo_soonest_106 K45 v1 v2 v3 vt0 v6 v7 m else (if v5 ≤ v7 then b_Mo_soonest_113 K45 v1 v2 v3 vt0 v6 v5 m else b_Mo_soonest_106 K45 v1 v2 v3 vt0 v6 v7 m))
theorem t_Mo_soonest_92 {g : GC} {X : MX} (C : Cx g X c_Mo_soonest 8 n_Mo 6) {r : Int32 × MD} {xx : XD} {oo : Nat → Int64} (q : RtI g X (some .int) r.1 (xx, r.2, oo)) (v1 : Int32) (v2 : Int32) (v3 : Int32) (v5 : Int32) (v6 : Int32) (v7 : Int32) (vt0 : Int32) (K45 : Int32 → Int32 → Int32 → MD → Option (Int32 × MD)) (hK45 : ∀ (v4 : Int32) (v5 : Int32) (v6 : Int32) (m : MD), K45 v4 v5 v6 m = some r → Wk g X 8 45 [(0, .ref (g_a g 83)), (1, .int v1), (2, .int v2), (3, .int v3), (4, .int v4), (5, .int v5), (6, .int v6)] [] (xx, m, oo)) (m : MD) (h : b_Mo_soonest_92 K45 v1 v2 v3 v5 v6 v7 vt0 m = some r) : Wk g X 8 92 [(0, .ref (g_a g 83)), (1, .int v1), (2, .int v2), (3, .int v3), (5, .int v5), (6, .int v6), (7, .int v7)] [.int vt0] (xx, m, oo) := by
  unfold b_Mo_soonest_92 at h
  refine k_istore C (lv' := [(4, .int vt0), (0, .ref (g_a g 83)), (1, .int v1), (2, .int v2), (3, .int v3), (5, .int v5), (6, .int v6), (7, .int v7)]) d_Mo_soonest_92 rfl rfl ?_
  refine k_iload C d_Mo_soonest_94 5 rfl ?_
  refine k_if_lt C 106 d_Mo_soonest_96 (by decide) (fun c1 => ?_) (fun c1 => ?_)
  · have h := (if_pos c1).symm.trans h
    exact k_sub [1, 2, 3, 4, 0, 6, 7] rfl (t_Mo_soonest_106 C q v1 v2 v3 vt0 v6 v7 K45 hK45 m h)
  · have h := (if_neg c1).symm.trans h
    refine k_iload C d_Mo_soonest_99 7 rfl ?_
    refine k_iload C d_Mo_soonest_101 5 rfl ?_
    refine k_icmp_ge C 111 d_Mo_soonest_103 (by decide) (fun c2 => ?_) (fun c2 => ?_)
    · have h := (if_pos c2).symm.trans h
      refine k_iload C d_Mo_soonest_111 5 rfl ?_
      exact k_sub [1, 2, 3, 4, 0, 6] rfl (t_Mo_soonest_113 C q v1 v2 v3 vt0 v6 v5 K45 hK45 m h)
    · have h := (if_neg c2).symm.trans h
      exact k_sub [1, 2, 3, 4, 0, 6, 7] rfl (t_Mo_soonest_106 C q v1 v2 v3 vt0 v6 v7 K45 hK45 m h)

def b_Mo_soonest_85 (K45 : Int32 → Int32 → Int32 → MD → Option (Int32 × MD)) (v1 : Int32) (v2 : Int32) (v3 : Int32) (v5 : Int32) (v6 : Int32) (v7 : Int32) (m : MD) : Option (Int32 × MD) := b_Mo_soonest_92 K45 v1 v2 v3 v5 v6 v7 v6 m
theorem t_Mo_soonest_85 {g : GC} {X : MX} (C : Cx g X c_Mo_soonest 8 n_Mo 6) {r : Int32 × MD} {xx : XD} {oo : Nat → Int64} (q : RtI g X (some .int) r.1 (xx, r.2, oo)) (v1 : Int32) (v2 : Int32) (v3 : Int32) (v5 : Int32) (v6 : Int32) (v7 : Int32) (K45 : Int32 → Int32 → Int32 → MD → Option (Int32 × MD)) (hK45 : ∀ (v4 : Int32) (v5 : Int32) (v6 : Int32) (m : MD), K45 v4 v5 v6 m = some r → Wk g X 8 45 [(0, .ref (g_a g 83)), (1, .int v1), (2, .int v2), (3, .int v3), (4, .int v4), (5, .int v5), (6, .int v6)] [] (xx, m, oo)) (m : MD) (h : b_Mo_soonest_85 K45 v1 v2 v3 v5 v6 v7 m = some r) : Wk g X 8 85 [(0, .ref (g_a g 83)), (1, .int v1), (2, .int v2), (3, .int v3), (5, .int v5), (6, .int v6), (7, .int v7)] [] (xx, m, oo) := by
  unfold b_Mo_soonest_85 at h
  refine k_iload C d_Mo_soonest_85 5 rfl ?_
  refine k_goto C 92 d_Mo_soonest_87 (by decide) ?_
  exact k_sub [0, 1, 2, 3, 4, 5, 6] rfl (t_Mo_soonest_92 C q v1 v2 v3 v5 v6 v7 v6 K45 hK45 m h)

def b_Mo_soonest_45 (v1 : Int32) (v2 : Int32) (v3 : Int32) : Nat → Int32 → Int32 → Int32 → MD → Option (Int32 × MD)
  | 0, _, _, _, _ => none
  | n + 1, v4, v5, v6, m => (if 30 < v6 then (if v3 = 0 then some (v4, m) else some (v5, m)) else (f_Mo_goDays v6 m).bind fun p3 => ((f_Mo_ride v1 v2 p3.2).bind fun p4 => ((f_Mo_close p4.2).bind fun p5 => ((if v5 < 0 then b_Mo_soonest_85 (b_Mo_soonest_45 v1 v2 v3 n) v1 v2 v3 v5 v6 (v6 + p4.1) p5.2 else (if v5 ≤ v6 + p4.1 then b_Mo_soonest_92 (b_Mo_soonest_45 v1 v2 v3 n) v1 v2 v3 v5 v6 (v6 + p4.1) v4 p5.2 else b_Mo_soonest_85 (b_Mo_soonest_45 v1 v2 v3 n) v1 v2 v3 v5 v6 (v6 + p4.1) p5.2))))))
theorem t_Mo_soonest_45 {g : GC} {X : MX} (C : Cx g X c_Mo_soonest 8 n_Mo 6) {r : Int32 × MD} {xx : XD} {oo : Nat → Int64} (q : RtI g X (some .int) r.1 (xx, r.2, oo)) (v1 : Int32) (v2 : Int32) (v3 : Int32) : ∀ (n : Nat) (v4 : Int32) (v5 : Int32) (v6 : Int32) (m : MD) (h : b_Mo_soonest_45 v1 v2 v3 n v4 v5 v6 m = some r), Wk g X 8 45 [(0, .ref (g_a g 83)), (1, .int v1), (2, .int v2), (3, .int v3), (4, .int v4), (5, .int v5), (6, .int v6)] [] (xx, m, oo) := by
  intro n
  induction n with
  | zero =>
    intro v4 v5 v6 m h
    rw [b_Mo_soonest_45] at h
    cases h
  | succ n ih =>
    intro v4 v5 v6 m h
    rw [b_Mo_soonest_45] at h
    refine k_iload C d_Mo_soonest_45 6 rfl ?_
    refine k_bipush C 30 d_Mo_soonest_47 bp_30 ?_
    refine k_icmp_gt C 121 d_Mo_soonest_49 (by decide) (fun c1 => ?_) (fun c1 => ?_)
    · have h := (if_pos c1).symm.trans h
      refine k_iload_n C d_Mo_soonest_121 3 rfl ?_
      refine k_if_ne C 130 d_Mo_soonest_122 (by decide) (fun c2 => ?_) (fun c2 => ?_)
      · have h := (if_neg c2).symm.trans h
        refine k_iload C d_Mo_soonest_130 5 rfl ?_
        obtain rfl := Option.some.inj h
        exact k_iret C q d_Mo_soonest_132
      · have h := (if_pos c2).symm.trans h
        refine k_iload C d_Mo_soonest_125 4 rfl ?_
        refine k_goto C 132 d_Mo_soonest_127 (by decide) ?_
        obtain rfl := Option.some.inj h
        exact k_iret C q d_Mo_soonest_132
    · have h := (if_neg c1).symm.trans h
      refine k_aload_n C d_Mo_soonest_52 0 rfl ?_
      refine k_iload C d_Mo_soonest_53 6 rfl ?_
      obtain ⟨p3, ep3, h⟩ := bd_some h
      refine k_callVv C q_Mo_154 (fun l => m_Mo_goDays (cx_g C) l v6 m xx oo p3 ep3) rfl rfl (rtI_c q) (by decide) sh_Mo rfl rfl rfl rfl d_Mo_soonest_55 ?_
      refine k_iload C d_Mo_soonest_58 6 rfl ?_
      refine k_aload_n C d_Mo_soonest_60 0 rfl ?_
      refine k_iload_n C d_Mo_soonest_61 1 rfl ?_
      refine k_iload_n C d_Mo_soonest_62 2 rfl ?_
      obtain ⟨p4, ep4, h⟩ := bd_some h
      refine k_callVi C q_Mo_165 (fun l => m_Mo_ride (cx_g C) l v1 v2 p3.2 xx oo p4 ep4) rfl rfl (rtI_c q) (by decide) sh_Mo rfl rfl rfl rfl d_Mo_soonest_63 ?_
      refine k_iadd C d_Mo_soonest_66 ?_
      refine k_istore C (lv' := [(7, .int (v6 + p4.1)), (0, .ref (g_a g 83)), (1, .int v1), (2, .int v2), (3, .int v3), (4, .int v4), (5, .int v5), (6, .int v6)]) d_Mo_soonest_67 rfl rfl ?_
      refine k_aload_n C d_Mo_soonest_69 1 rfl ?_
      obtain ⟨p5, ep5, h⟩ := bd_some h
      refine k_callVv C q_Mo_183 (fun l => m_Mo_close (cx_g C) l p4.2 xx oo p5 ep5) rfl rfl (rtI_c q) (by decide) sh_Mo rfl rfl rfl rfl d_Mo_soonest_70 ?_
      refine k_iload C d_Mo_soonest_73 6 rfl ?_
      refine k_if_lt C 85 d_Mo_soonest_75 (by decide) (fun c6 => ?_) (fun c6 => ?_)
      · have h := (if_pos c6).symm.trans h
        exact k_sub [1, 2, 3, 4, 6, 7, 0] rfl (t_Mo_soonest_85 C q v1 v2 v3 v5 v6 (v6 + p4.1) (b_Mo_soonest_45 v1 v2 v3 n) ih p5.2 h)
      · have h := (if_neg c6).symm.trans h
        refine k_iload C d_Mo_soonest_78 0 rfl ?_
        refine k_iload C d_Mo_soonest_80 6 rfl ?_
        refine k_icmp_ge C 90 d_Mo_soonest_82 (by decide) (fun c7 => ?_) (fun c7 => ?_)
        · have h := (if_pos c7).symm.trans h
          refine k_iload C d_Mo_soonest_90 5 rfl ?_
          exact k_sub [1, 2, 3, 4, 6, 7, 0] rfl (t_Mo_soonest_92 C q v1 v2 v3 v5 v6 (v6 + p4.1) v4 (b_Mo_soonest_45 v1 v2 v3 n) ih p5.2 h)
        · have h := (if_neg c7).symm.trans h
          exact k_sub [1, 2, 3, 4, 6, 7, 0] rfl (t_Mo_soonest_85 C q v1 v2 v3 v5 v6 (v6 + p4.1) (b_Mo_soonest_45 v1 v2 v3 n) ih p5.2 h)

def f_Mo_soonest (v1 : Int32) (v2 : Int32) (v3 : Int32) (m : MD) : Option (Int32 × MD) := lt ((x_up m.1 83 14 0, m.2)) fun (m1 : MD) => (f_Mo_isHorse v1 m1).bind fun p2 => ((if p2.1 = 0 then some ((-1), p2.2) else (f_Mo_isYard v2 p2.2).bind fun p4 => ((if p4.1 = 0 then some ((-1), p4.2) else (f_Mo_in v3.toInt64 0 1 p4.2).bind fun p6 => ((if p6.1 = 0 then some ((-1), p6.2) else (f_Mo_open p6.2).bind fun p8 => (b_Mo_soonest_45 v1 v2 v3 fu 0 (-1) 0 p8.2)))))))
theorem m_Mo_soonest {g : GC} (hg : gOk g) (l : Launch)  (v1 : Int32) (v2 : Int32) (v3 : Int32) (m : MD) (xx : XD) (oo : Nat → Int64) (r : Int32 × MD) (h : f_Mo_soonest v1 v2 v3 m = some r) : Mi g l y_Mo_soonest c_Mo_soonest 8 (some .int) 6 [.ref (g_a g 83), .int v1, .int v2, .int v3] (xx, m, oo) r.1 (xx, r.2, oo) := by
  refine m_i hg pn_Mo rfl fun X q C => ?_
  refine k_sub (lv' := [(0, .ref (g_a g 83)), (1, .int v1), (2, .int v2), (3, .int v3)]) [0, 1, 2, 3] rfl ?_
  unfold f_Mo_soonest at h
  refine k_aload_n C d_Mo_soonest_0 0 rfl ?_
  refine k_iconst C 0 d_Mo_soonest_1 ic_0 ?_
  obtain ⟨m1, em1, h⟩ := lt_some h
  refine kp_Mo_71 C em1 d_Mo_soonest_2 ?_
  refine k_aload_n C d_Mo_soonest_5 0 rfl ?_
  refine k_iload_n C d_Mo_soonest_6 1 rfl ?_
  obtain ⟨p2, ep2, h⟩ := bd_some h
  refine k_callVi C q_Mo_162 (fun l => m_Mo_isHorse (cx_g C) l v1 m1 xx oo p2 ep2) rfl rfl (rtI_c q) (by decide) sh_Mo rfl rfl rfl rfl d_Mo_soonest_7 ?_
  refine k_if_eq C 30 d_Mo_soonest_10 (by decide) (fun c3 => ?_) (fun c3 => ?_)
  · have h := (if_pos c3).symm.trans h
    refine k_iconst C (-1) d_Mo_soonest_30 ic_m1 ?_
    obtain rfl := Option.some.inj h
    exact k_iret C q d_Mo_soonest_31
  · have h := (if_neg c3).symm.trans h
    refine k_iload_n C d_Mo_soonest_13 2 rfl ?_
    obtain ⟨p4, ep4, h⟩ := bd_some h
    refine k_callSi C q_Mo_149 (fun l => m_Mo_isYard (cx_g C) l v2 p2.2 xx oo p4 ep4) rfl rfl (rtI_c q) rfl rfl rfl d_Mo_soonest_14 ?_
    refine k_if_eq C 30 d_Mo_soonest_17 (by decide) (fun c5 => ?_) (fun c5 => ?_)
    · have h := (if_pos c5).symm.trans h
      refine k_iconst C (-1) d_Mo_soonest_30 ic_m1 ?_
      obtain rfl := Option.some.inj h
      exact k_iret C q d_Mo_soonest_31
    · have h := (if_neg c5).symm.trans h
      refine k_iload_n C d_Mo_soonest_20 3 rfl ?_
      refine k_i2l C d_Mo_soonest_21 ?_
      refine k_lconst C 0 d_Mo_soonest_22 rfl ?_
      refine k_lconst C 1 d_Mo_soonest_23 rfl ?_
      obtain ⟨p6, ep6, h⟩ := bd_some h
      refine k_callSi C q_Mo_77 (fun l => m_Mo_in (cx_g C) l v3.toInt64 0 1 p4.2 xx oo p6 ep6) rfl rfl (rtI_c q) rfl rfl rfl d_Mo_soonest_24 ?_
      refine k_if_ne C 32 d_Mo_soonest_27 (by decide) (fun c7 => ?_) (fun c7 => ?_)
      · have h := (if_neg c7).symm.trans h
        refine k_iconst C 0 d_Mo_soonest_32 ic_0 ?_
        refine k_istore C (lv' := [(4, .int 0), (0, .ref (g_a g 83)), (1, .int v1), (2, .int v2), (3, .int v3)]) d_Mo_soonest_33 rfl rfl ?_
        refine k_iconst C (-1) d_Mo_soonest_35 ic_m1 ?_
        refine k_istore C (lv' := [(5, .int (-1)), (4, .int 0), (0, .ref (g_a g 83)), (1, .int v1), (2, .int v2), (3, .int v3)]) d_Mo_soonest_36 rfl rfl ?_
        refine k_aload_n C d_Mo_soonest_38 2 rfl ?_
        obtain ⟨p8, ep8, h⟩ := bd_some h
        refine k_callVv C q_Mo_177 (fun l => m_Mo_open (cx_g C) l p6.2 xx oo p8 ep8) rfl rfl (rtI_c q) (by decide) sh_Mo rfl rfl rfl rfl d_Mo_soonest_39 ?_
        refine k_iconst C 0 d_Mo_soonest_42 ic_0 ?_
        refine k_istore C (lv' := [(6, .int 0), (5, .int (-1)), (4, .int 0), (0, .ref (g_a g 83)), (1, .int v1), (2, .int v2), (3, .int v3)]) d_Mo_soonest_43 rfl rfl ?_
        exact k_sub [3, 4, 5, 6, 2, 1, 0] rfl (t_Mo_soonest_45 C q v1 v2 v3 fu 0 (-1) 0 p8.2 h)
      · have h := (if_pos c7).symm.trans h
        refine k_iconst C (-1) d_Mo_soonest_30 ic_m1 ?_
        obtain rfl := Option.some.inj h
        exact k_iret C q d_Mo_soonest_31

def b_Mo_thirdRides_70 (K3 : Int32 → MD → Option (Unit × MD)) (v1 : Int32) (v2 : Int32) (v3 : Int32) (v4 : Int32) (v5 : Int32) (v6 : Int32) (m : MD) : Option (Unit × MD) := K3 (v6 + 1) m
theorem t_Mo_thirdRides_70 {g : GC} {X : MX} (C : Cx g X c_Mo_thirdRides 7 n_Mo 6) {r : Unit × MD} {xx : XD} {oo : Nat → Int64} (q : RtV g X none (xx, r.2, oo)) (v1 : Int32) (v2 : Int32) (v3 : Int32) (v4 : Int32) (v5 : Int32) (v6 : Int32) (K3 : Int32 → MD → Option (Unit × MD)) (hK3 : ∀ (v6 : Int32) (m : MD), K3 v6 m = some r → Wk g X 7 3 [(0, .ref (g_a g 83)), (1, .int v1), (2, .int v2), (3, .int v3), (4, .int v4), (5, .int v5), (6, .int v6)] [] (xx, m, oo)) (m : MD) (h : b_Mo_thirdRides_70 K3 v1 v2 v3 v4 v5 v6 m = some r) : Wk g X 7 70 [(0, .ref (g_a g 83)), (1, .int v1), (2, .int v2), (3, .int v3), (4, .int v4), (5, .int v5), (6, .int v6)] [] (xx, m, oo) := by
  unfold b_Mo_thirdRides_70 at h
  refine k_inc C (lv' := [(6, .int (v6 + 1)), (0, .ref (g_a g 83)), (1, .int v1), (2, .int v2), (3, .int v3), (4, .int v4), (5, .int v5)]) d_Mo_thirdRides_70 6 rfl ic_1 rfl rfl ?_
  refine k_goto C 3 d_Mo_thirdRides_73 (by decide) ?_
  exact k_sub [1, 2, 3, 4, 5, 6, 0] rfl (hK3 (v6 + 1) m h)

def b_Mo_thirdRides_3 (v1 : Int32) (v2 : Int32) (v3 : Int32) (v4 : Int32) (v5 : Int32) : Nat → Int32 → MD → Option (Unit × MD)
  | 0, _, _ => none
  | n + 1, v6, m => (if m.1 83 0 ≤ v6 then some ((), m) else (if v6 = v4 then b_Mo_thirdRides_70 (b_Mo_thirdRides_3 v1 v2 v3 v4 v5 n) v1 v2 v3 v4 v5 v6 m else (if v6 = v5 then b_Mo_thirdRides_70 (b_Mo_thirdRides_3 v1 v2 v3 v4 v5 n) v1 v2 v3 v4 v5 v6 m else gI v6 7 ((if m.1 87 v6.toNatClampNeg = v1 then (f_Mo_carryAll 100 1 m).bind fun p6 => ((f_Mo_ride v6 v2 p6.2).bind fun p7 => ((f_Mo_takeChain (v3 + p7.1) v4 p7.2).bind fun p8 => ((f_Mo_carryAll 100 0 p8.2).bind fun p9 => (b_Mo_thirdRides_70 (b_Mo_thirdRides_3 v1 v2 v3 v4 v5 n) v1 v2 v3 v4 v5 v6 p9.2)))) else b_Mo_thirdRides_70 (b_Mo_thirdRides_3 v1 v2 v3 v4 v5 n) v1 v2 v3 v4 v5 v6 m)))))
theorem t_Mo_thirdRides_3 {g : GC} {X : MX} (C : Cx g X c_Mo_thirdRides 7 n_Mo 6) {r : Unit × MD} {xx : XD} {oo : Nat → Int64} (q : RtV g X none (xx, r.2, oo)) (v1 : Int32) (v2 : Int32) (v3 : Int32) (v4 : Int32) (v5 : Int32) : ∀ (n : Nat) (v6 : Int32) (m : MD) (h : b_Mo_thirdRides_3 v1 v2 v3 v4 v5 n v6 m = some r), Wk g X 7 3 [(0, .ref (g_a g 83)), (1, .int v1), (2, .int v2), (3, .int v3), (4, .int v4), (5, .int v5), (6, .int v6)] [] (xx, m, oo) := by
  intro n
  induction n with
  | zero =>
    intro v6 m h
    rw [b_Mo_thirdRides_3] at h
    cases h
  | succ n ih =>
    intro v6 m h
    rw [b_Mo_thirdRides_3] at h
    refine k_iload C d_Mo_thirdRides_3 6 rfl ?_
    refine k_aload_n C d_Mo_thirdRides_5 0 rfl ?_
    refine kg_Mo_81 C d_Mo_thirdRides_6 ?_
    refine k_icmp_ge C 76 d_Mo_thirdRides_9 (by decide) (fun c1 => ?_) (fun c1 => ?_)
    · have h := (if_pos c1).symm.trans h
      obtain rfl := Option.some.inj h
      exact k_vret C q d_Mo_thirdRides_76
    · have h := (if_neg c1).symm.trans h
      refine k_iload C d_Mo_thirdRides_12 6 rfl ?_
      refine k_iload C d_Mo_thirdRides_14 4 rfl ?_
      refine k_icmp_eq C 70 d_Mo_thirdRides_16 (by decide) (fun c2 => ?_) (fun c2 => ?_)
      · have h := (if_pos c2).symm.trans h
        exact k_sub [0, 1, 2, 3, 4, 5, 6] rfl (t_Mo_thirdRides_70 C q v1 v2 v3 v4 v5 v6 (b_Mo_thirdRides_3 v1 v2 v3 v4 v5 n) ih m h)
      · have h := (if_neg c2).symm.trans h
        refine k_iload C d_Mo_thirdRides_19 6 rfl ?_
        refine k_iload C d_Mo_thirdRides_21 5 rfl ?_
        refine k_icmp_eq C 70 d_Mo_thirdRides_23 (by decide) (fun c3 => ?_) (fun c3 => ?_)
        · have h := (if_pos c3).symm.trans h
          exact k_sub [0, 1, 2, 3, 4, 5, 6] rfl (t_Mo_thirdRides_70 C q v1 v2 v3 v4 v5 v6 (b_Mo_thirdRides_3 v1 v2 v3 v4 v5 n) ih m h)
        · have h := (if_neg c3).symm.trans h
          refine k_aload_n C d_Mo_thirdRides_26 0 rfl ?_
          refine kg_Mo_19 C d_Mo_thirdRides_27 ?_
          refine k_iload C d_Mo_thirdRides_30 6 rfl ?_
          obtain ⟨i4, h⟩ := gI_some h
          refine k_ialdM C (by decide) (by decide) i4 d_Mo_thirdRides_32 ?_
          refine k_iload_n C d_Mo_thirdRides_33 1 rfl ?_
          refine k_icmp_ne C 70 d_Mo_thirdRides_34 (by decide) (fun c5 => ?_) (fun c5 => ?_)
          · have h := (if_neg c5).symm.trans h
            exact k_sub [0, 1, 2, 3, 4, 5, 6] rfl (t_Mo_thirdRides_70 C q v1 v2 v3 v4 v5 v6 (b_Mo_thirdRides_3 v1 v2 v3 v4 v5 n) ih m h)
          · have h := (if_pos c5).symm.trans h
            refine k_aload_n C d_Mo_thirdRides_37 0 rfl ?_
            refine k_aload_n C d_Mo_thirdRides_38 0 rfl ?_
            refine kg_Mo_59 C d_Mo_thirdRides_39 ?_
            refine k_iconst C 1 d_Mo_thirdRides_42 ic_1 ?_
            obtain ⟨p6, ep6, h⟩ := bd_some h
            refine k_callVv C q_Mo_198 (fun l => m_Mo_carryAll (cx_g C) l 100 (by decide) 1 m xx oo p6 ep6) rfl rfl (rtV_c q) (by decide) sh_Mo rfl rfl rfl rfl d_Mo_thirdRides_43 ?_
            refine k_aload_n C d_Mo_thirdRides_46 0 rfl ?_
            refine k_iload_n C d_Mo_thirdRides_47 3 rfl ?_
            refine k_aload_n C d_Mo_thirdRides_48 0 rfl ?_
            refine k_iload C d_Mo_thirdRides_49 6 rfl ?_
            refine k_iload_n C d_Mo_thirdRides_51 2 rfl ?_
            obtain ⟨p7, ep7, h⟩ := bd_some h
            refine k_callVi C q_Mo_165 (fun l => m_Mo_ride (cx_g C) l v6 v2 p6.2 xx oo p7 ep7) rfl rfl (rtV_c q) (by decide) sh_Mo rfl rfl rfl rfl d_Mo_thirdRides_52 ?_
            refine k_iadd C d_Mo_thirdRides_55 ?_
            refine k_iload C d_Mo_thirdRides_56 4 rfl ?_
            obtain ⟨p8, ep8, h⟩ := bd_some h
            refine k_callVv C q_Mo_224 (fun l => m_Mo_takeChain (cx_g C) l (v3 + p7.1) v4 p7.2 xx oo p8 ep8) rfl rfl (rtV_c q) (by decide) sh_Mo rfl rfl rfl rfl d_Mo_thirdRides_58 ?_
            refine k_aload_n C d_Mo_thirdRides_61 0 rfl ?_
            refine k_aload_n C d_Mo_thirdRides_62 0 rfl ?_
            refine kg_Mo_59 C d_Mo_thirdRides_63 ?_
            refine k_iconst C 0 d_Mo_thirdRides_66 ic_0 ?_
            obtain ⟨p9, ep9, h⟩ := bd_some h
            refine k_callVv C q_Mo_198 (fun l => m_Mo_carryAll (cx_g C) l 100 (by decide) 0 p8.2 xx oo p9 ep9) rfl rfl (rtV_c q) (by decide) sh_Mo rfl rfl rfl rfl d_Mo_thirdRides_67 ?_
            exact k_sub [0, 1, 2, 3, 4, 5, 6] rfl (t_Mo_thirdRides_70 C q v1 v2 v3 v4 v5 v6 (b_Mo_thirdRides_3 v1 v2 v3 v4 v5 n) ih p9.2 h)

def f_Mo_thirdRides (v1 : Int32) (v2 : Int32) (v3 : Int32) (v4 : Int32) (v5 : Int32) (m : MD) : Option (Unit × MD) := b_Mo_thirdRides_3 v1 v2 v3 v4 v5 fu 0 m
theorem m_Mo_thirdRides {g : GC} (hg : gOk g) (l : Launch)  (v1 : Int32) (v2 : Int32) (v3 : Int32) (v4 : Int32) (v5 : Int32) (m : MD) (xx : XD) (oo : Nat → Int64) (r : Unit × MD) (h : f_Mo_thirdRides v1 v2 v3 v4 v5 m = some r) : Mv g l y_Mo_thirdRides c_Mo_thirdRides 7 none 6 [.ref (g_a g 83), .int v1, .int v2, .int v3, .int v4, .int v5] (xx, m, oo) (xx, r.2, oo) := by
  refine m_v hg pn_Mo rfl fun X q C => ?_
  refine k_sub (lv' := [(0, .ref (g_a g 83)), (1, .int v1), (2, .int v2), (3, .int v3), (4, .int v4), (5, .int v5)]) [0, 1, 2, 3, 4, 5] rfl ?_
  unfold f_Mo_thirdRides at h
  refine k_iconst C 0 d_Mo_thirdRides_0 ic_0 ?_
  refine k_istore C (lv' := [(6, .int 0), (0, .ref (g_a g 83)), (1, .int v1), (2, .int v2), (3, .int v3), (4, .int v4), (5, .int v5)]) d_Mo_thirdRides_1 rfl rfl ?_
  exact k_sub [1, 2, 3, 4, 5, 6, 0] rfl (t_Mo_thirdRides_3 C q v1 v2 v3 v4 v5 fu 0 m h)

def f_Mo_waitedRide (v1 : Int32) (v2 : Int32) (v3 : Int32) (m : MD) : Option (Int32 × MD) := (f_Mo_open m).bind fun p1 => ((f_Mo_goDays (5 * v3) p1.2).bind fun p2 => ((f_Mo_ride v1 v2 p2.2).bind fun p3 => ((f_Mo_close p3.2).bind fun p4 => (some ((5 * v3) + p3.1, p4.2)))))
theorem m_Mo_waitedRide {g : GC} (hg : gOk g) (l : Launch)  (v1 : Int32) (v2 : Int32) (v3 : Int32) (m : MD) (xx : XD) (oo : Nat → Int64) (r : Int32 × MD) (h : f_Mo_waitedRide v1 v2 v3 m = some r) : Mi g l y_Mo_waitedRide c_Mo_waitedRide 5 (some .int) 6 [.ref (g_a g 83), .int v1, .int v2, .int v3] (xx, m, oo) r.1 (xx, r.2, oo) := by
  refine m_i hg pn_Mo rfl fun X q C => ?_
  refine k_sub (lv' := [(0, .ref (g_a g 83)), (1, .int v1), (2, .int v2), (3, .int v3)]) [0, 1, 2, 3] rfl ?_
  unfold f_Mo_waitedRide at h
  refine k_aload_n C d_Mo_waitedRide_0 0 rfl ?_
  obtain ⟨p1, ep1, h⟩ := bd_some h
  refine k_callVv C q_Mo_177 (fun l => m_Mo_open (cx_g C) l m xx oo p1 ep1) rfl rfl (rtI_c q) (by decide) sh_Mo rfl rfl rfl rfl d_Mo_waitedRide_1 ?_
  refine k_aload_n C d_Mo_waitedRide_4 0 rfl ?_
  refine k_iconst C 5 d_Mo_waitedRide_5 ic_5 ?_
  refine k_iload_n C d_Mo_waitedRide_6 3 rfl ?_
  refine k_imul C d_Mo_waitedRide_7 ?_
  obtain ⟨p2, ep2, h⟩ := bd_some h
  refine k_callVv C q_Mo_154 (fun l => m_Mo_goDays (cx_g C) l (5 * v3) p1.2 xx oo p2 ep2) rfl rfl (rtI_c q) (by decide) sh_Mo rfl rfl rfl rfl d_Mo_waitedRide_8 ?_
  refine k_iconst C 5 d_Mo_waitedRide_11 ic_5 ?_
  refine k_iload_n C d_Mo_waitedRide_12 3 rfl ?_
  refine k_imul C d_Mo_waitedRide_13 ?_
  refine k_aload_n C d_Mo_waitedRide_14 0 rfl ?_
  refine k_iload_n C d_Mo_waitedRide_15 1 rfl ?_
  refine k_iload_n C d_Mo_waitedRide_16 2 rfl ?_
  obtain ⟨p3, ep3, h⟩ := bd_some h
  refine k_callVi C q_Mo_165 (fun l => m_Mo_ride (cx_g C) l v1 v2 p2.2 xx oo p3 ep3) rfl rfl (rtI_c q) (by decide) sh_Mo rfl rfl rfl rfl d_Mo_waitedRide_17 ?_
  refine k_iadd C d_Mo_waitedRide_20 ?_
  refine k_istore C (lv' := [(4, .int ((5 * v3) + p3.1)), (0, .ref (g_a g 83)), (1, .int v1), (2, .int v2), (3, .int v3)]) d_Mo_waitedRide_21 rfl rfl ?_
  refine k_aload_n C d_Mo_waitedRide_23 1 rfl ?_
  obtain ⟨p4, ep4, h⟩ := bd_some h
  refine k_callVv C q_Mo_183 (fun l => m_Mo_close (cx_g C) l p3.2 xx oo p4 ep4) rfl rfl (rtI_c q) (by decide) sh_Mo rfl rfl rfl rfl d_Mo_waitedRide_24 ?_
  refine k_iload C d_Mo_waitedRide_27 0 rfl ?_
  obtain rfl := Option.some.inj h
  exact k_iret C q d_Mo_waitedRide_29

def b_Mo_walkAhead_130 (K58 : Int32 → Int32 → Int32 → MD → Option (Int32 × MD)) (v1 : Int32) (v2 : Int32) (v3 : Int32) (v4 : Int32) (v5 : Int32) (v7 : Int32) (vt0 : Int32) (m : MD) : Option (Int32 × MD) := K58 v5 vt0 (v7 + 1) m
theorem t_Mo_walkAhead_130 {g : GC} {X : MX} (C : Cx g X c_Mo_walkAhead 9 n_Mo 6) {r : Int32 × MD} {xx : XD} {oo : Nat → Int64} (q : RtI g X (some .int) r.1 (xx, r.2, oo)) (v1 : Int32) (v2 : Int32) (v3 : Int32) (v4 : Int32) (v5 : Int32) (v7 : Int32) (vt0 : Int32) (K58 : Int32 → Int32 → Int32 → MD → Option (Int32 × MD)) (hK58 : ∀ (v5 : Int32) (v6 : Int32) (v7 : Int32) (m : MD), K58 v5 v6 v7 m = some r → Wk g X 9 58 [(0, .ref (g_a g 83)), (1, .int v1), (2, .int v2), (3, .int v3), (4, .int v4), (5, .int v5), (6, .int v6), (7, .int v7)] [] (xx, m, oo)) (m : MD) (h : b_Mo_walkAhead_130 K58 v1 v2 v3 v4 v5 v7 vt0 m = some r) : Wk g X 9 130 [(0, .ref (g_a g 83)), (1, .int v1), (2, .int v2), (3, .int v3), (4, .int v4), (5, .int v5), (7, .int v7)] [.int vt0] (xx, m, oo) := by
  unfold b_Mo_walkAhead_130 at h
  refine k_istore C (lv' := [(6, .int vt0), (0, .ref (g_a g 83)), (1, .int v1), (2, .int v2), (3, .int v3), (4, .int v4), (5, .int v5), (7, .int v7)]) d_Mo_walkAhead_130 rfl rfl ?_
  refine k_inc C (lv' := [(7, .int (v7 + 1)), (6, .int vt0), (0, .ref (g_a g 83)), (1, .int v1), (2, .int v2), (3, .int v3), (4, .int v4), (5, .int v5)]) d_Mo_walkAhead_132 7 rfl ic_1 rfl rfl ?_
  refine k_goto C 58 d_Mo_walkAhead_135 (by decide) ?_
  exact k_sub [2, 3, 4, 5, 6, 7, 1, 0] rfl (hK58 v5 vt0 (v7 + 1) m h)

def b_Mo_walkAhead_123 (K58 : Int32 → Int32 → Int32 → MD → Option (Int32 × MD)) (v1 : Int32) (v2 : Int32) (v3 : Int32) (v4 : Int32) (v5 : Int32) (v7 : Int32) (v8 : Int32) (m : MD) : Option (Int32 × MD) := b_Mo_walkAhead_130 K58 v1 v2 v3 v4 v5 v7 v8 m
theorem t_Mo_walkAhead_123 {g : GC} {X : MX} (C : Cx g X c_Mo_walkAhead 9 n_Mo 6) {r : Int32 × MD} {xx : XD} {oo : Nat → Int64} (q : RtI g X (some .int) r.1 (xx, r.2, oo)) (v1 : Int32) (v2 : Int32) (v3 : Int32) (v4 : Int32) (v5 : Int32) (v7 : Int32) (v8 : Int32) (K58 : Int32 → Int32 → Int32 → MD → Option (Int32 × MD)) (hK58 : ∀ (v5 : Int32) (v6 : Int32) (v7 : Int32) (m : MD), K58 v5 v6 v7 m = some r → Wk g X 9 58 [(0, .ref (g_a g 83)), (1, .int v1), (2, .int v2), (3, .int v3), (4, .int v4), (5, .int v5), (6, .int v6), (7, .int v7)] [] (xx, m, oo)) (m : MD) (h : b_Mo_walkAhead_123 K58 v1 v2 v3 v4 v5 v7 v8 m = some r) : Wk g X 9 123 [(0, .ref (g_a g 83)), (1, .int v1), (2, .int v2), (3, .int v3), (4, .int v4), (5, .int v5), (7, .int v7), (8, .int v8)] [] (xx, m, oo) := by
  unfold b_Mo_walkAhead_123 at h
  refine k_iload C d_Mo_walkAhead_123 7 rfl ?_
  refine k_goto C 130 d_Mo_walkAhead_125 (by decide) ?_
  exact k_sub [0, 1, 2, 3, 4, 5, 6] rfl (t_Mo_walkAhead_130 C q v1 v2 v3 v4 v5 v7 v8 K58 hK58 m h)

def b_Mo_walkAhead_109 (K58 : Int32 → Int32 → Int32 → MD → Option (Int32 × MD)) (v1 : Int32) (v2 : Int32) (v3 : Int32) (v4 : Int32) (v6 : Int32) (v7 : Int32) (v8 : Int32) (vt0 : Int32) (m : MD) : Option (Int32 × MD) := (if v6 < 0 then b_Mo_walkAhead_123 K58 v1 v2 v3 v4 vt0 v7 v8 m else (if v6 ≤ v8 then b_Mo_walkAhead_130 K58 v1 v2 v3 v4 vt0 v7 v6 m else b_Mo_walkAhead_123 K58 v1 v2 v3 v4 vt0 v7 v8 m))
theorem t_Mo_walkAhead_109 {g : GC} {X : MX} (C : Cx g X c_Mo_walkAhead 9 n_Mo 6) {r : Int32 × MD} {xx : XD} {oo : Nat → Int64} (q : RtI g X (some .int) r.1 (xx, r.2, oo)) (v1 : Int32) (v2 : Int32) (v3 : Int32) (v4 : Int32) (v6 : Int32) (v7 : Int32) (v8 : Int32) (vt0 : Int32) (K58 : Int32 → Int32 → Int32 → MD → Option (Int32 × MD)) (hK58 : ∀ (v5 : Int32) (v6 : Int32) (v7 : Int32) (m : MD), K58 v5 v6 v7 m = some r → Wk g X 9 58 [(0, .ref (g_a g 83)), (1, .int v1), (2, .int v2), (3, .int v3), (4, .int v4), (5, .int v5), (6, .int v6), (7, .int v7)] [] (xx, m, oo)) (m : MD) (h : b_Mo_walkAhead_109 K58 v1 v2 v3 v4 v6 v7 v8 vt0 m = some r) : Wk g X 9 109 [(0, .ref (g_a g 83)), (1, .int v1), (2, .int v2), (3, .int v3), (4, .int v4), (6, .int v6), (7, .int v7), (8, .int v8)] [.int vt0] (xx, m, oo) := by
  unfold b_Mo_walkAhead_109 at h
  refine k_istore C (lv' := [(5, .int vt0), (0, .ref (g_a g 83)), (1, .int v1), (2, .int v2), (3, .int v3), (4, .int v4), (6, .int v6), (7, .int v7), (8, .int v8)]) d_Mo_walkAhead_109 rfl rfl ?_
  refine k_iload C d_Mo_walkAhead_111 6 rfl ?_
  refine k_if_lt C 123 d_Mo_walkAhead_113 (by decide) (fun c1 => ?_) (fun c1 => ?_)
  · have h := (if_pos c1).symm.trans h
    exact k_sub [1, 2, 3, 4, 5, 0, 7, 8] rfl (t_Mo_walkAhead_123 C q v1 v2 v3 v4 vt0 v7 v8 K58 hK58 m h)
  · have h := (if_neg c1).symm.trans h
    refine k_iload C d_Mo_walkAhead_116 8 rfl ?_
    refine k_iload C d_Mo_walkAhead_118 6 rfl ?_
    refine k_icmp_ge C 128 d_Mo_walkAhead_120 (by decide) (fun c2 => ?_) (fun c2 => ?_)
    · have h := (if_pos c2).symm.trans h
      refine k_iload C d_Mo_walkAhead_128 6 rfl ?_
      exact k_sub [1, 2, 3, 4, 5, 0, 7] rfl (t_Mo_walkAhead_130 C q v1 v2 v3 v4 vt0 v7 v6 K58 hK58 m h)
    · have h := (if_neg c2).symm.trans h
      exact k_sub [1, 2, 3, 4, 5, 0, 7, 8] rfl (t_Mo_walkAhead_123 C q v1 v2 v3 v4 vt0 v7 v8 K58 hK58 m h)

def b_Mo_walkAhead_102 (K58 : Int32 → Int32 → Int32 → MD → Option (Int32 × MD)) (v1 : Int32) (v2 : Int32) (v3 : Int32) (v4 : Int32) (v6 : Int32) (v7 : Int32) (v8 : Int32) (m : MD) : Option (Int32 × MD) := b_Mo_walkAhead_109 K58 v1 v2 v3 v4 v6 v7 v8 v7 m
theorem t_Mo_walkAhead_102 {g : GC} {X : MX} (C : Cx g X c_Mo_walkAhead 9 n_Mo 6) {r : Int32 × MD} {xx : XD} {oo : Nat → Int64} (q : RtI g X (some .int) r.1 (xx, r.2, oo)) (v1 : Int32) (v2 : Int32) (v3 : Int32) (v4 : Int32) (v6 : Int32) (v7 : Int32) (v8 : Int32) (K58 : Int32 → Int32 → Int32 → MD → Option (Int32 × MD)) (hK58 : ∀ (v5 : Int32) (v6 : Int32) (v7 : Int32) (m : MD), K58 v5 v6 v7 m = some r → Wk g X 9 58 [(0, .ref (g_a g 83)), (1, .int v1), (2, .int v2), (3, .int v3), (4, .int v4), (5, .int v5), (6, .int v6), (7, .int v7)] [] (xx, m, oo)) (m : MD) (h : b_Mo_walkAhead_102 K58 v1 v2 v3 v4 v6 v7 v8 m = some r) : Wk g X 9 102 [(0, .ref (g_a g 83)), (1, .int v1), (2, .int v2), (3, .int v3), (4, .int v4), (6, .int v6), (7, .int v7), (8, .int v8)] [] (xx, m, oo) := by
  unfold b_Mo_walkAhead_102 at h
  refine k_iload C d_Mo_walkAhead_102 6 rfl ?_
  refine k_goto C 109 d_Mo_walkAhead_104 (by decide) ?_
  exact k_sub [0, 1, 2, 3, 4, 5, 6, 7] rfl (t_Mo_walkAhead_109 C q v1 v2 v3 v4 v6 v7 v8 v7 K58 hK58 m h)

def b_Mo_walkAhead_58 (v1 : Int32) (v2 : Int32) (v3 : Int32) (v4 : Int32) : Nat → Int32 → Int32 → Int32 → MD → Option (Int32 × MD)
  | 0, _, _, _, _ => none
  | n + 1, v5, v6, v7, m => (if 20 < v7 then (if v4 = 0 then some (v5, m) else some (v6, m)) else gI v1 7 (lt ((x_up m.1 87 v1.toNatClampNeg v7, m.2)) fun (m3 : MD) => (f_Mo_goDays v3 m3).bind fun p5 => ((f_Mo_ride v1 v2 p5.2).bind fun p6 => ((f_Mo_close p6.2).bind fun p7 => ((if v6 < 0 then b_Mo_walkAhead_102 (b_Mo_walkAhead_58 v1 v2 v3 v4 n) v1 v2 v3 v4 v6 v7 p6.1 p7.2 else (if v6 ≤ p6.1 then b_Mo_walkAhead_109 (b_Mo_walkAhead_58 v1 v2 v3 v4 n) v1 v2 v3 v4 v6 v7 p6.1 v5 p7.2 else b_Mo_walkAhead_102 (b_Mo_walkAhead_58 v1 v2 v3 v4 n) v1 v2 v3 v4 v6 v7 p6.1 p7.2)))))))
theorem t_Mo_walkAhead_58 {g : GC} {X : MX} (C : Cx g X c_Mo_walkAhead 9 n_Mo 6) {r : Int32 × MD} {xx : XD} {oo : Nat → Int64} (q : RtI g X (some .int) r.1 (xx, r.2, oo)) (v1 : Int32) (v2 : Int32) (v3 : Int32) (v4 : Int32) : ∀ (n : Nat) (v5 : Int32) (v6 : Int32) (v7 : Int32) (m : MD) (h : b_Mo_walkAhead_58 v1 v2 v3 v4 n v5 v6 v7 m = some r), Wk g X 9 58 [(0, .ref (g_a g 83)), (1, .int v1), (2, .int v2), (3, .int v3), (4, .int v4), (5, .int v5), (6, .int v6), (7, .int v7)] [] (xx, m, oo) := by
  intro n
  induction n with
  | zero =>
    intro v5 v6 v7 m h
    rw [b_Mo_walkAhead_58] at h
    cases h
  | succ n ih =>
    intro v5 v6 v7 m h
    rw [b_Mo_walkAhead_58] at h
    refine k_iload C d_Mo_walkAhead_58 7 rfl ?_
    refine k_bipush C 20 d_Mo_walkAhead_60 bp_20 ?_
    refine k_icmp_gt C 138 d_Mo_walkAhead_62 (by decide) (fun c1 => ?_) (fun c1 => ?_)
    · have h := (if_pos c1).symm.trans h
      refine k_iload C d_Mo_walkAhead_138 4 rfl ?_
      refine k_if_ne C 148 d_Mo_walkAhead_140 (by decide) (fun c2 => ?_) (fun c2 => ?_)
      · have h := (if_neg c2).symm.trans h
        refine k_iload C d_Mo_walkAhead_148 6 rfl ?_
        obtain rfl := Option.some.inj h
        exact k_iret C q d_Mo_walkAhead_150
      · have h := (if_pos c2).symm.trans h
        refine k_iload C d_Mo_walkAhead_143 5 rfl ?_
        refine k_goto C 150 d_Mo_walkAhead_145 (by decide) ?_
        obtain rfl := Option.some.inj h
        exact k_iret C q d_Mo_walkAhead_150
    · have h := (if_neg c1).symm.trans h
      refine k_aload_n C d_Mo_walkAhead_65 0 rfl ?_
      refine kg_Mo_19 C d_Mo_walkAhead_66 ?_
      refine k_iload_n C d_Mo_walkAhead_69 1 rfl ?_
      refine k_iload C d_Mo_walkAhead_70 7 rfl ?_
      obtain ⟨i4, h⟩ := gI_some h
      obtain ⟨m3, em3, h⟩ := lt_some h
      refine k_iastM C (by decide) (by decide) i4 em3 d_Mo_walkAhead_72 ?_
      refine k_aload_n C d_Mo_walkAhead_73 0 rfl ?_
      refine k_iload_n C d_Mo_walkAhead_74 3 rfl ?_
      obtain ⟨p5, ep5, h⟩ := bd_some h
      refine k_callVv C q_Mo_154 (fun l => m_Mo_goDays (cx_g C) l v3 m3 xx oo p5 ep5) rfl rfl (rtI_c q) (by decide) sh_Mo rfl rfl rfl rfl d_Mo_walkAhead_75 ?_
      refine k_aload_n C d_Mo_walkAhead_78 0 rfl ?_
      refine k_iload_n C d_Mo_walkAhead_79 1 rfl ?_
      refine k_iload_n C d_Mo_walkAhead_80 2 rfl ?_
      obtain ⟨p6, ep6, h⟩ := bd_some h
      refine k_callVi C q_Mo_165 (fun l => m_Mo_ride (cx_g C) l v1 v2 p5.2 xx oo p6 ep6) rfl rfl (rtI_c q) (by decide) sh_Mo rfl rfl rfl rfl d_Mo_walkAhead_81 ?_
      refine k_istore C (lv' := [(8, .int p6.1), (0, .ref (g_a g 83)), (1, .int v1), (2, .int v2), (3, .int v3), (4, .int v4), (5, .int v5), (6, .int v6), (7, .int v7)]) d_Mo_walkAhead_84 rfl rfl ?_
      refine k_aload_n C d_Mo_walkAhead_86 1 rfl ?_
      obtain ⟨p7, ep7, h⟩ := bd_some h
      refine k_callVv C q_Mo_183 (fun l => m_Mo_close (cx_g C) l p6.2 xx oo p7 ep7) rfl rfl (rtI_c q) (by decide) sh_Mo rfl rfl rfl rfl d_Mo_walkAhead_87 ?_
      refine k_iload C d_Mo_walkAhead_90 7 rfl ?_
      refine k_if_lt C 102 d_Mo_walkAhead_92 (by decide) (fun c8 => ?_) (fun c8 => ?_)
      · have h := (if_pos c8).symm.trans h
        exact k_sub [1, 2, 3, 4, 5, 7, 8, 0] rfl (t_Mo_walkAhead_102 C q v1 v2 v3 v4 v6 v7 p6.1 (b_Mo_walkAhead_58 v1 v2 v3 v4 n) ih p7.2 h)
      · have h := (if_neg c8).symm.trans h
        refine k_iload C d_Mo_walkAhead_95 0 rfl ?_
        refine k_iload C d_Mo_walkAhead_97 7 rfl ?_
        refine k_icmp_ge C 107 d_Mo_walkAhead_99 (by decide) (fun c9 => ?_) (fun c9 => ?_)
        · have h := (if_pos c9).symm.trans h
          refine k_iload C d_Mo_walkAhead_107 6 rfl ?_
          exact k_sub [1, 2, 3, 4, 5, 7, 8, 0] rfl (t_Mo_walkAhead_109 C q v1 v2 v3 v4 v6 v7 p6.1 v5 (b_Mo_walkAhead_58 v1 v2 v3 v4 n) ih p7.2 h)
        · have h := (if_neg c9).symm.trans h
          exact k_sub [1, 2, 3, 4, 5, 7, 8, 0] rfl (t_Mo_walkAhead_102 C q v1 v2 v3 v4 v6 v7 p6.1 (b_Mo_walkAhead_58 v1 v2 v3 v4 n) ih p7.2 h)

def f_Mo_walkAhead (v1 : Int32) (v2 : Int32) (v3 : Int32) (v4 : Int32) (m : MD) : Option (Int32 × MD) := lt ((x_up m.1 83 14 0, m.2)) fun (m1 : MD) => (f_Mo_isHorse v1 m1).bind fun p2 => ((if p2.1 = 0 then some ((-1), p2.2) else (f_Mo_isYard v2 p2.2).bind fun p4 => ((if p4.1 = 0 then some ((-1), p4.2) else (f_Mo_in v3.toInt64 0 30 p4.2).bind fun p6 => ((if p6.1 = 0 then some ((-1), p6.2) else (f_Mo_in v4.toInt64 0 1 p6.2).bind fun p8 => ((if p8.1 = 0 then some ((-1), p8.2) else (f_Mo_open p8.2).bind fun p10 => (b_Mo_walkAhead_58 v1 v2 v3 v4 fu 0 (-1) 0 p10.2)))))))))
theorem m_Mo_walkAhead {g : GC} (hg : gOk g) (l : Launch)  (v1 : Int32) (v2 : Int32) (v3 : Int32) (v4 : Int32) (m : MD) (xx : XD) (oo : Nat → Int64) (r : Int32 × MD) (h : f_Mo_walkAhead v1 v2 v3 v4 m = some r) : Mi g l y_Mo_walkAhead c_Mo_walkAhead 9 (some .int) 6 [.ref (g_a g 83), .int v1, .int v2, .int v3, .int v4] (xx, m, oo) r.1 (xx, r.2, oo) := by
  refine m_i hg pn_Mo rfl fun X q C => ?_
  refine k_sub (lv' := [(0, .ref (g_a g 83)), (1, .int v1), (2, .int v2), (3, .int v3), (4, .int v4)]) [0, 1, 2, 3, 4] rfl ?_
  unfold f_Mo_walkAhead at h
  refine k_aload_n C d_Mo_walkAhead_0 0 rfl ?_
  refine k_iconst C 0 d_Mo_walkAhead_1 ic_0 ?_
  obtain ⟨m1, em1, h⟩ := lt_some h
  refine kp_Mo_71 C em1 d_Mo_walkAhead_2 ?_
  refine k_aload_n C d_Mo_walkAhead_5 0 rfl ?_
  refine k_iload_n C d_Mo_walkAhead_6 1 rfl ?_
  obtain ⟨p2, ep2, h⟩ := bd_some h
  refine k_callVi C q_Mo_162 (fun l => m_Mo_isHorse (cx_g C) l v1 m1 xx oo p2 ep2) rfl rfl (rtI_c q) (by decide) sh_Mo rfl rfl rfl rfl d_Mo_walkAhead_7 ?_
  refine k_if_eq C 43 d_Mo_walkAhead_10 (by decide) (fun c3 => ?_) (fun c3 => ?_)
  · have h := (if_pos c3).symm.trans h
    refine k_iconst C (-1) d_Mo_walkAhead_43 ic_m1 ?_
    obtain rfl := Option.some.inj h
    exact k_iret C q d_Mo_walkAhead_44
  · have h := (if_neg c3).symm.trans h
    refine k_iload_n C d_Mo_walkAhead_13 2 rfl ?_
    obtain ⟨p4, ep4, h⟩ := bd_some h
    refine k_callSi C q_Mo_149 (fun l => m_Mo_isYard (cx_g C) l v2 p2.2 xx oo p4 ep4) rfl rfl (rtI_c q) rfl rfl rfl d_Mo_walkAhead_14 ?_
    refine k_if_eq C 43 d_Mo_walkAhead_17 (by decide) (fun c5 => ?_) (fun c5 => ?_)
    · have h := (if_pos c5).symm.trans h
      refine k_iconst C (-1) d_Mo_walkAhead_43 ic_m1 ?_
      obtain rfl := Option.some.inj h
      exact k_iret C q d_Mo_walkAhead_44
    · have h := (if_neg c5).symm.trans h
      refine k_iload_n C d_Mo_walkAhead_20 3 rfl ?_
      refine k_i2l C d_Mo_walkAhead_21 ?_
      refine k_lconst C 0 d_Mo_walkAhead_22 rfl ?_
      refine k_ldc2 C 30 l_1268 d_Mo_walkAhead_23 ?_
      obtain ⟨p6, ep6, h⟩ := bd_some h
      refine k_callSi C q_Mo_77 (fun l => m_Mo_in (cx_g C) l v3.toInt64 0 30 p4.2 xx oo p6 ep6) rfl rfl (rtI_c q) rfl rfl rfl d_Mo_walkAhead_26 ?_
      refine k_if_eq C 43 d_Mo_walkAhead_29 (by decide) (fun c7 => ?_) (fun c7 => ?_)
      · have h := (if_pos c7).symm.trans h
        refine k_iconst C (-1) d_Mo_walkAhead_43 ic_m1 ?_
        obtain rfl := Option.some.inj h
        exact k_iret C q d_Mo_walkAhead_44
      · have h := (if_neg c7).symm.trans h
        refine k_iload C d_Mo_walkAhead_32 4 rfl ?_
        refine k_i2l C d_Mo_walkAhead_34 ?_
        refine k_lconst C 0 d_Mo_walkAhead_35 rfl ?_
        refine k_lconst C 1 d_Mo_walkAhead_36 rfl ?_
        obtain ⟨p8, ep8, h⟩ := bd_some h
        refine k_callSi C q_Mo_77 (fun l => m_Mo_in (cx_g C) l v4.toInt64 0 1 p6.2 xx oo p8 ep8) rfl rfl (rtI_c q) rfl rfl rfl d_Mo_walkAhead_37 ?_
        refine k_if_ne C 45 d_Mo_walkAhead_40 (by decide) (fun c9 => ?_) (fun c9 => ?_)
        · have h := (if_neg c9).symm.trans h
          refine k_iconst C 0 d_Mo_walkAhead_45 ic_0 ?_
          refine k_istore C (lv' := [(5, .int 0), (0, .ref (g_a g 83)), (1, .int v1), (2, .int v2), (3, .int v3), (4, .int v4)]) d_Mo_walkAhead_46 rfl rfl ?_
          refine k_iconst C (-1) d_Mo_walkAhead_48 ic_m1 ?_
          refine k_istore C (lv' := [(6, .int (-1)), (5, .int 0), (0, .ref (g_a g 83)), (1, .int v1), (2, .int v2), (3, .int v3), (4, .int v4)]) d_Mo_walkAhead_49 rfl rfl ?_
          refine k_aload_n C d_Mo_walkAhead_51 2 rfl ?_
          obtain ⟨p10, ep10, h⟩ := bd_some h
          refine k_callVv C q_Mo_177 (fun l => m_Mo_open (cx_g C) l p8.2 xx oo p10 ep10) rfl rfl (rtI_c q) (by decide) sh_Mo rfl rfl rfl rfl d_Mo_walkAhead_52 ?_
          refine k_iconst C 0 d_Mo_walkAhead_55 ic_0 ?_
          refine k_istore C (lv' := [(7, .int 0), (6, .int (-1)), (5, .int 0), (0, .ref (g_a g 83)), (1, .int v1), (2, .int v2), (3, .int v3), (4, .int v4)]) d_Mo_walkAhead_56 rfl rfl ?_
          exact k_sub [3, 4, 5, 6, 7, 2, 1, 0] rfl (t_Mo_walkAhead_58 C q v1 v2 v3 v4 fu 0 (-1) 0 p10.2 h)
        · have h := (if_pos c9).symm.trans h
          refine k_iconst C (-1) d_Mo_walkAhead_43 ic_m1 ?_
          obtain rfl := Option.some.inj h
          exact k_iret C q d_Mo_walkAhead_44

def b_Mo_whatIs_142 (K60 : Int32 → Int32 → MD → Option (Int32 × MD)) (v1 : Int32) (v2 : Int32) (v3 : Int32) (v4 : Int32) (v7 : Int32) (vt0 : Int32) (vt1 : Int32) (m : MD) : Option (Int32 × MD) := K60 (vt0 ||| vt1) (v7 + 1) m
theorem t_Mo_whatIs_142 {g : GC} {X : MX} (C : Cx g X c_Mo_whatIs 8 n_Mo 6) {r : Int32 × MD} {xx : XD} {oo : Nat → Int64} (q : RtI g X (some .int) r.1 (xx, r.2, oo)) (v1 : Int32) (v2 : Int32) (v3 : Int32) (v4 : Int32) (v7 : Int32) (vt0 : Int32) (vt1 : Int32) (K60 : Int32 → Int32 → MD → Option (Int32 × MD)) (hK60 : ∀ (v6 : Int32) (v7 : Int32) (m : MD), K60 v6 v7 m = some r → Wk g X 8 60 [(0, .ref (g_a g 83)), (1, .int v1), (2, .int v2), (3, .int v3), (4, .int v4), (6, .int v6), (7, .int v7)] [] (xx, m, oo)) (m : MD) (h : b_Mo_whatIs_142 K60 v1 v2 v3 v4 v7 vt0 vt1 m = some r) : Wk g X 8 142 [(0, .ref (g_a g 83)), (1, .int v1), (2, .int v2), (3, .int v3), (4, .int v4), (7, .int v7)] [.int vt1, .int vt0] (xx, m, oo) := by
  unfold b_Mo_whatIs_142 at h
  refine k_ior C d_Mo_whatIs_142 ?_
  refine k_istore C (lv' := [(6, .int (vt0 ||| vt1)), (0, .ref (g_a g 83)), (1, .int v1), (2, .int v2), (3, .int v3), (4, .int v4), (7, .int v7)]) d_Mo_whatIs_143 rfl rfl ?_
  refine k_inc C (lv' := [(7, .int (v7 + 1)), (6, .int (vt0 ||| vt1)), (0, .ref (g_a g 83)), (1, .int v1), (2, .int v2), (3, .int v3), (4, .int v4)]) d_Mo_whatIs_145 6 rfl ic_1 rfl rfl ?_
  refine k_goto C 60 d_Mo_whatIs_148 (by decide) ?_
  exact k_sub [2, 3, 4, 5, 6, 1, 0] rfl (hK60 (vt0 ||| vt1) (v7 + 1) m h)

def b_Mo_whatIs_121 (K60 : Int32 → Int32 → MD → Option (Int32 × MD)) (v1 : Int32) (v2 : Int32) (v3 : Int32) (v4 : Int32) (v6 : Int32) (v7 : Int32) (vt1 : Int32) (vt2 : Int32) (m : MD) : Option (Int32 × MD) := gI vt1 7 (lt ((x_up m.1 85 vt1.toNatClampNeg vt2, m.2)) fun (m1 : MD) => (f_Mo_isRow v1 v2 v3 m1).bind fun p3 => ((if p3.1 = 0 then b_Mo_whatIs_142 K60 v1 v2 v3 v4 v7 v6 0 p3.2 else b_Mo_whatIs_142 K60 v1 v2 v3 v4 v7 v6 (1 <<< (v7 &&& 31)) p3.2)))
theorem t_Mo_whatIs_121 {g : GC} {X : MX} (C : Cx g X c_Mo_whatIs 8 n_Mo 6) {r : Int32 × MD} {xx : XD} {oo : Nat → Int64} (q : RtI g X (some .int) r.1 (xx, r.2, oo)) (v1 : Int32) (v2 : Int32) (v3 : Int32) (v4 : Int32) (v6 : Int32) (v7 : Int32) (vt1 : Int32) (vt2 : Int32) (K60 : Int32 → Int32 → MD → Option (Int32 × MD)) (hK60 : ∀ (v6 : Int32) (v7 : Int32) (m : MD), K60 v6 v7 m = some r → Wk g X 8 60 [(0, .ref (g_a g 83)), (1, .int v1), (2, .int v2), (3, .int v3), (4, .int v4), (6, .int v6), (7, .int v7)] [] (xx, m, oo)) (m : MD) (h : b_Mo_whatIs_121 K60 v1 v2 v3 v4 v6 v7 vt1 vt2 m = some r) : Wk g X 8 121 [(0, .ref (g_a g 83)), (1, .int v1), (2, .int v2), (3, .int v3), (4, .int v4), (6, .int v6), (7, .int v7)] [.int vt2, .int vt1, .ref (g_a g 85)] (xx, m, oo) := by
  unfold b_Mo_whatIs_121 at h
  obtain ⟨i2, h⟩ := gI_some h
  obtain ⟨m1, em1, h⟩ := lt_some h
  refine k_iastM C (by decide) (by decide) i2 em1 d_Mo_whatIs_121 ?_
  refine k_iload C d_Mo_whatIs_122 5 rfl ?_
  refine k_aload_n C d_Mo_whatIs_124 0 rfl ?_
  refine k_iload_n C d_Mo_whatIs_125 1 rfl ?_
  refine k_iload_n C d_Mo_whatIs_126 2 rfl ?_
  refine k_iload_n C d_Mo_whatIs_127 3 rfl ?_
  obtain ⟨p3, ep3, h⟩ := bd_some h
  refine k_callVi C q_Mo_255 (fun l => m_Mo_isRow (cx_g C) l v1 v2 v3 m1 xx oo p3 ep3) rfl rfl (rtI_c q) (by decide) sh_Mo rfl rfl rfl rfl d_Mo_whatIs_128 ?_
  refine k_if_eq C 141 d_Mo_whatIs_131 (by decide) (fun c4 => ?_) (fun c4 => ?_)
  · have h := (if_pos c4).symm.trans h
    refine k_iconst C 0 d_Mo_whatIs_141 ic_0 ?_
    exact k_sub [0, 1, 2, 3, 4, 6] rfl (t_Mo_whatIs_142 C q v1 v2 v3 v4 v7 v6 0 K60 hK60 p3.2 h)
  · have h := (if_neg c4).symm.trans h
    refine k_iconst C 1 d_Mo_whatIs_134 ic_1 ?_
    refine k_iload C d_Mo_whatIs_135 6 rfl ?_
    refine k_ishl C d_Mo_whatIs_137 ?_
    refine k_goto C 142 d_Mo_whatIs_138 (by decide) ?_
    exact k_sub [0, 1, 2, 3, 4, 6] rfl (t_Mo_whatIs_142 C q v1 v2 v3 v4 v7 v6 (1 <<< (v7 &&& 31)) K60 hK60 p3.2 h)

def b_Mo_whatIs_98 (K60 : Int32 → Int32 → MD → Option (Int32 × MD)) (v1 : Int32) (v2 : Int32) (v3 : Int32) (v4 : Int32) (v6 : Int32) (v7 : Int32) (vt1 : Int32) (vt2 : Int32) (m : MD) : Option (Int32 × MD) := gI vt1 7 (lt ((x_up m.1 84 vt1.toNatClampNeg vt2, m.2)) fun (m1 : MD) => (if v4 = 1 then b_Mo_whatIs_121 K60 v1 v2 v3 v4 v6 v7 v2 v7 m1 else gI v2 7 (b_Mo_whatIs_121 K60 v1 v2 v3 v4 v6 v7 v2 (m1.1 85 v2.toNatClampNeg) m1)))
theorem t_Mo_whatIs_98 {g : GC} {X : MX} (C : Cx g X c_Mo_whatIs 8 n_Mo 6) {r : Int32 × MD} {xx : XD} {oo : Nat → Int64} (q : RtI g X (some .int) r.1 (xx, r.2, oo)) (v1 : Int32) (v2 : Int32) (v3 : Int32) (v4 : Int32) (v6 : Int32) (v7 : Int32) (vt1 : Int32) (vt2 : Int32) (K60 : Int32 → Int32 → MD → Option (Int32 × MD)) (hK60 : ∀ (v6 : Int32) (v7 : Int32) (m : MD), K60 v6 v7 m = some r → Wk g X 8 60 [(0, .ref (g_a g 83)), (1, .int v1), (2, .int v2), (3, .int v3), (4, .int v4), (6, .int v6), (7, .int v7)] [] (xx, m, oo)) (m : MD) (h : b_Mo_whatIs_98 K60 v1 v2 v3 v4 v6 v7 vt1 vt2 m = some r) : Wk g X 8 98 [(0, .ref (g_a g 83)), (1, .int v1), (2, .int v2), (3, .int v3), (4, .int v4), (6, .int v6), (7, .int v7)] [.int vt2, .int vt1, .ref (g_a g 84)] (xx, m, oo) := by
  unfold b_Mo_whatIs_98 at h
  obtain ⟨i2, h⟩ := gI_some h
  obtain ⟨m1, em1, h⟩ := lt_some h
  refine k_iastM C (by decide) (by decide) i2 em1 d_Mo_whatIs_98 ?_
  refine k_aload_n C d_Mo_whatIs_99 0 rfl ?_
  refine kg_Mo_13 C d_Mo_whatIs_100 ?_
  refine k_iload_n C d_Mo_whatIs_103 2 rfl ?_
  refine k_iload C d_Mo_whatIs_104 4 rfl ?_
  refine k_iconst C 1 d_Mo_whatIs_106 ic_1 ?_
  refine k_icmp_ne C 115 d_Mo_whatIs_107 (by decide) (fun c3 => ?_) (fun c3 => ?_)
  · have h := (if_neg c3).symm.trans h
    refine k_aload_n C d_Mo_whatIs_115 0 rfl ?_
    refine kg_Mo_13 C d_Mo_whatIs_116 ?_
    refine k_iload_n C d_Mo_whatIs_119 2 rfl ?_
    obtain ⟨i4, h⟩ := gI_some h
    refine k_ialdM C (by decide) (by decide) i4 d_Mo_whatIs_120 ?_
    exact k_sub [0, 1, 2, 3, 4, 5, 6] rfl (t_Mo_whatIs_121 C q v1 v2 v3 v4 v6 v7 v2 (m1.1 85 v2.toNatClampNeg) K60 hK60 m1 h)
  · have h := (if_pos c3).symm.trans h
    refine k_iload C d_Mo_whatIs_110 6 rfl ?_
    refine k_goto C 121 d_Mo_whatIs_112 (by decide) ?_
    exact k_sub [0, 1, 2, 3, 4, 5, 6] rfl (t_Mo_whatIs_121 C q v1 v2 v3 v4 v6 v7 v2 v7 K60 hK60 m1 h)

def b_Mo_whatIs_74 (K60 : Int32 → Int32 → MD → Option (Int32 × MD)) (v1 : Int32) (v2 : Int32) (v3 : Int32) (v4 : Int32) (v6 : Int32) (v7 : Int32) (vt0 : Int32) (vt1 : Int32) (m : MD) : Option (Int32 × MD) := (if vt1 ≤ vt0 then some (v6, m) else (if v4 = 0 then b_Mo_whatIs_98 K60 v1 v2 v3 v4 v6 v7 v2 v7 m else gI v2 7 (b_Mo_whatIs_98 K60 v1 v2 v3 v4 v6 v7 v2 (m.1 84 v2.toNatClampNeg) m)))
theorem t_Mo_whatIs_74 {g : GC} {X : MX} (C : Cx g X c_Mo_whatIs 8 n_Mo 6) {r : Int32 × MD} {xx : XD} {oo : Nat → Int64} (q : RtI g X (some .int) r.1 (xx, r.2, oo)) (v1 : Int32) (v2 : Int32) (v3 : Int32) (v4 : Int32) (v6 : Int32) (v7 : Int32) (vt0 : Int32) (vt1 : Int32) (K60 : Int32 → Int32 → MD → Option (Int32 × MD)) (hK60 : ∀ (v6 : Int32) (v7 : Int32) (m : MD), K60 v6 v7 m = some r → Wk g X 8 60 [(0, .ref (g_a g 83)), (1, .int v1), (2, .int v2), (3, .int v3), (4, .int v4), (6, .int v6), (7, .int v7)] [] (xx, m, oo)) (m : MD) (h : b_Mo_whatIs_74 K60 v1 v2 v3 v4 v6 v7 vt0 vt1 m = some r) : Wk g X 8 74 [(0, .ref (g_a g 83)), (1, .int v1), (2, .int v2), (3, .int v3), (4, .int v4), (6, .int v6), (7, .int v7)] [.int vt1, .int vt0] (xx, m, oo) := by
  unfold b_Mo_whatIs_74 at h
  refine k_icmp_ge C 151 d_Mo_whatIs_74 (by decide) (fun c1 => ?_) (fun c1 => ?_)
  · have h := (if_pos c1).symm.trans h
    refine k_iload C d_Mo_whatIs_151 5 rfl ?_
    obtain rfl := Option.some.inj h
    exact k_iret C q d_Mo_whatIs_153
  · have h := (if_neg c1).symm.trans h
    refine k_aload_n C d_Mo_whatIs_77 0 rfl ?_
    refine kg_Mo_7 C d_Mo_whatIs_78 ?_
    refine k_iload_n C d_Mo_whatIs_81 2 rfl ?_
    refine k_iload C d_Mo_whatIs_82 4 rfl ?_
    refine k_if_ne C 92 d_Mo_whatIs_84 (by decide) (fun c2 => ?_) (fun c2 => ?_)
    · have h := (if_neg c2).symm.trans h
      refine k_aload_n C d_Mo_whatIs_92 0 rfl ?_
      refine kg_Mo_7 C d_Mo_whatIs_93 ?_
      refine k_iload_n C d_Mo_whatIs_96 2 rfl ?_
      obtain ⟨i3, h⟩ := gI_some h
      refine k_ialdM C (by decide) (by decide) i3 d_Mo_whatIs_97 ?_
      exact k_sub [0, 1, 2, 3, 4, 5, 6] rfl (t_Mo_whatIs_98 C q v1 v2 v3 v4 v6 v7 v2 (m.1 84 v2.toNatClampNeg) K60 hK60 m h)
    · have h := (if_pos c2).symm.trans h
      refine k_iload C d_Mo_whatIs_87 6 rfl ?_
      refine k_goto C 98 d_Mo_whatIs_89 (by decide) ?_
      exact k_sub [0, 1, 2, 3, 4, 5, 6] rfl (t_Mo_whatIs_98 C q v1 v2 v3 v4 v6 v7 v2 v7 K60 hK60 m h)

def b_Mo_whatIs_60 (v1 : Int32) (v2 : Int32) (v3 : Int32) (v4 : Int32) : Nat → Int32 → Int32 → MD → Option (Int32 × MD)
  | 0, _, _, _ => none
  | n + 1, v6, v7, m => (if v4 = 0 then b_Mo_whatIs_74 (b_Mo_whatIs_60 v1 v2 v3 v4 n) v1 v2 v3 v4 v6 v7 v7 8 m else b_Mo_whatIs_74 (b_Mo_whatIs_60 v1 v2 v3 v4 n) v1 v2 v3 v4 v6 v7 v7 10 m)
theorem t_Mo_whatIs_60 {g : GC} {X : MX} (C : Cx g X c_Mo_whatIs 8 n_Mo 6) {r : Int32 × MD} {xx : XD} {oo : Nat → Int64} (q : RtI g X (some .int) r.1 (xx, r.2, oo)) (v1 : Int32) (v2 : Int32) (v3 : Int32) (v4 : Int32) : ∀ (n : Nat) (v6 : Int32) (v7 : Int32) (m : MD) (h : b_Mo_whatIs_60 v1 v2 v3 v4 n v6 v7 m = some r), Wk g X 8 60 [(0, .ref (g_a g 83)), (1, .int v1), (2, .int v2), (3, .int v3), (4, .int v4), (6, .int v6), (7, .int v7)] [] (xx, m, oo) := by
  intro n
  induction n with
  | zero =>
    intro v6 v7 m h
    rw [b_Mo_whatIs_60] at h
    cases h
  | succ n ih =>
    intro v6 v7 m h
    rw [b_Mo_whatIs_60] at h
    refine k_iload C d_Mo_whatIs_60 6 rfl ?_
    refine k_iload C d_Mo_whatIs_62 4 rfl ?_
    refine k_if_ne C 72 d_Mo_whatIs_64 (by decide) (fun c1 => ?_) (fun c1 => ?_)
    · have h := (if_neg c1).symm.trans h
      refine k_bipush C 10 d_Mo_whatIs_72 bp_10 ?_
      exact k_sub [0, 1, 2, 3, 4, 5, 6] rfl (t_Mo_whatIs_74 C q v1 v2 v3 v4 v6 v7 v7 10 (b_Mo_whatIs_60 v1 v2 v3 v4 n) ih m h)
    · have h := (if_pos c1).symm.trans h
      refine k_bipush C 8 d_Mo_whatIs_67 bp_8 ?_
      refine k_goto C 74 d_Mo_whatIs_69 (by decide) ?_
      exact k_sub [0, 1, 2, 3, 4, 5, 6] rfl (t_Mo_whatIs_74 C q v1 v2 v3 v4 v6 v7 v7 8 (b_Mo_whatIs_60 v1 v2 v3 v4 n) ih m h)

def b_Mo_whatIs_40 (v1 : Int32) (v2 : Int32) (v3 : Int32) (v4 : Int32) (vt0 : Int32) (m : MD) : Option (Int32 × MD) := (if 0 ≤ vt0 then (f_Mo_open m).bind fun p2 => (b_Mo_whatIs_60 v1 v2 v3 v4 fu 0 0 p2.2) else some (vt0, m))
theorem t_Mo_whatIs_40 {g : GC} {X : MX} (C : Cx g X c_Mo_whatIs 8 n_Mo 6) {r : Int32 × MD} {xx : XD} {oo : Nat → Int64} (q : RtI g X (some .int) r.1 (xx, r.2, oo)) (v1 : Int32) (v2 : Int32) (v3 : Int32) (v4 : Int32) (vt0 : Int32) (m : MD) (h : b_Mo_whatIs_40 v1 v2 v3 v4 vt0 m = some r) : Wk g X 8 40 [(0, .ref (g_a g 83)), (1, .int v1), (2, .int v2), (3, .int v3), (4, .int v4)] [.int vt0] (xx, m, oo) := by
  unfold b_Mo_whatIs_40 at h
  refine k_istore C (lv' := [(5, .int vt0), (0, .ref (g_a g 83)), (1, .int v1), (2, .int v2), (3, .int v3), (4, .int v4)]) d_Mo_whatIs_40 rfl rfl ?_
  refine k_iload C d_Mo_whatIs_42 0 rfl ?_
  refine k_if_ge C 50 d_Mo_whatIs_44 (by decide) (fun c1 => ?_) (fun c1 => ?_)
  · have h := (if_pos c1).symm.trans h
    refine k_iconst C 0 d_Mo_whatIs_50 ic_0 ?_
    refine k_istore C (lv' := [(6, .int 0), (5, .int vt0), (0, .ref (g_a g 83)), (1, .int v1), (2, .int v2), (3, .int v3), (4, .int v4)]) d_Mo_whatIs_51 rfl rfl ?_
    refine k_aload_n C d_Mo_whatIs_53 2 rfl ?_
    obtain ⟨p2, ep2, h⟩ := bd_some h
    refine k_callVv C q_Mo_177 (fun l => m_Mo_open (cx_g C) l m xx oo p2 ep2) rfl rfl (rtI_c q) (by decide) sh_Mo rfl rfl rfl rfl d_Mo_whatIs_54 ?_
    refine k_iconst C 0 d_Mo_whatIs_57 ic_0 ?_
    refine k_istore C (lv' := [(7, .int 0), (6, .int 0), (5, .int vt0), (0, .ref (g_a g 83)), (1, .int v1), (2, .int v2), (3, .int v3), (4, .int v4)]) d_Mo_whatIs_58 rfl rfl ?_
    exact k_sub [3, 4, 5, 6, 7, 1, 0] rfl (t_Mo_whatIs_60 C q v1 v2 v3 v4 fu 0 0 p2.2 h)
  · have h := (if_neg c1).symm.trans h
    refine k_iload C d_Mo_whatIs_47 0 rfl ?_
    obtain rfl := Option.some.inj h
    exact k_iret C q d_Mo_whatIs_49

def b_Mo_whatIs_39 (v1 : Int32) (v2 : Int32) (v3 : Int32) (v4 : Int32) (m : MD) : Option (Int32 × MD) := b_Mo_whatIs_40 v1 v2 v3 v4 (-1) m
theorem t_Mo_whatIs_39 {g : GC} {X : MX} (C : Cx g X c_Mo_whatIs 8 n_Mo 6) {r : Int32 × MD} {xx : XD} {oo : Nat → Int64} (q : RtI g X (some .int) r.1 (xx, r.2, oo)) (v1 : Int32) (v2 : Int32) (v3 : Int32) (v4 : Int32) (m : MD) (h : b_Mo_whatIs_39 v1 v2 v3 v4 m = some r) : Wk g X 8 39 [(0, .ref (g_a g 83)), (1, .int v1), (2, .int v2), (3, .int v3), (4, .int v4)] [] (xx, m, oo) := by
  unfold b_Mo_whatIs_39 at h
  refine k_iconst C (-1) d_Mo_whatIs_39 ic_m1 ?_
  exact k_sub [0, 1, 2, 3, 4] rfl (t_Mo_whatIs_40 C q v1 v2 v3 v4 (-1) m h)

def f_Mo_whatIs (v1 : Int32) (v2 : Int32) (v3 : Int32) (v4 : Int32) (m : MD) : Option (Int32 × MD) := lt ((x_up m.1 83 14 0, m.2)) fun (m1 : MD) => (f_Mo_isHorse v2 m1).bind fun p2 => ((if p2.1 = 0 then b_Mo_whatIs_39 v1 v2 v3 v4 p2.2 else (f_Mo_isYard v3 p2.2).bind fun p4 => ((if p4.1 = 0 then b_Mo_whatIs_39 v1 v2 v3 v4 p4.2 else (f_Mo_in v4.toInt64 0 1 p4.2).bind fun p6 => ((if p6.1 = 0 then b_Mo_whatIs_39 v1 v2 v3 v4 p6.2 else (f_Mo_wrongRow v1 p6.2).bind fun p8 => (b_Mo_whatIs_40 v1 v2 v3 v4 p8.1 p8.2)))))))
theorem m_Mo_whatIs {g : GC} (hg : gOk g) (l : Launch)  (v1 : Int32) (v2 : Int32) (v3 : Int32) (v4 : Int32) (m : MD) (xx : XD) (oo : Nat → Int64) (r : Int32 × MD) (h : f_Mo_whatIs v1 v2 v3 v4 m = some r) : Mi g l y_Mo_whatIs c_Mo_whatIs 8 (some .int) 6 [.ref (g_a g 83), .int v1, .int v2, .int v3, .int v4] (xx, m, oo) r.1 (xx, r.2, oo) := by
  refine m_i hg pn_Mo rfl fun X q C => ?_
  refine k_sub (lv' := [(0, .ref (g_a g 83)), (1, .int v1), (2, .int v2), (3, .int v3), (4, .int v4)]) [0, 1, 2, 3, 4] rfl ?_
  unfold f_Mo_whatIs at h
  refine k_aload_n C d_Mo_whatIs_0 0 rfl ?_
  refine k_iconst C 0 d_Mo_whatIs_1 ic_0 ?_
  obtain ⟨m1, em1, h⟩ := lt_some h
  refine kp_Mo_71 C em1 d_Mo_whatIs_2 ?_
  refine k_aload_n C d_Mo_whatIs_5 0 rfl ?_
  refine k_iload_n C d_Mo_whatIs_6 2 rfl ?_
  obtain ⟨p2, ep2, h⟩ := bd_some h
  refine k_callVi C q_Mo_162 (fun l => m_Mo_isHorse (cx_g C) l v2 m1 xx oo p2 ep2) rfl rfl (rtI_c q) (by decide) sh_Mo rfl rfl rfl rfl d_Mo_whatIs_7 ?_
  refine k_if_eq C 39 d_Mo_whatIs_10 (by decide) (fun c3 => ?_) (fun c3 => ?_)
  · have h := (if_pos c3).symm.trans h
    exact k_sub [0, 1, 2, 3, 4] rfl (t_Mo_whatIs_39 C q v1 v2 v3 v4 p2.2 h)
  · have h := (if_neg c3).symm.trans h
    refine k_iload_n C d_Mo_whatIs_13 3 rfl ?_
    obtain ⟨p4, ep4, h⟩ := bd_some h
    refine k_callSi C q_Mo_149 (fun l => m_Mo_isYard (cx_g C) l v3 p2.2 xx oo p4 ep4) rfl rfl (rtI_c q) rfl rfl rfl d_Mo_whatIs_14 ?_
    refine k_if_eq C 39 d_Mo_whatIs_17 (by decide) (fun c5 => ?_) (fun c5 => ?_)
    · have h := (if_pos c5).symm.trans h
      exact k_sub [0, 1, 2, 3, 4] rfl (t_Mo_whatIs_39 C q v1 v2 v3 v4 p4.2 h)
    · have h := (if_neg c5).symm.trans h
      refine k_iload C d_Mo_whatIs_20 4 rfl ?_
      refine k_i2l C d_Mo_whatIs_22 ?_
      refine k_lconst C 0 d_Mo_whatIs_23 rfl ?_
      refine k_lconst C 1 d_Mo_whatIs_24 rfl ?_
      obtain ⟨p6, ep6, h⟩ := bd_some h
      refine k_callSi C q_Mo_77 (fun l => m_Mo_in (cx_g C) l v4.toInt64 0 1 p4.2 xx oo p6 ep6) rfl rfl (rtI_c q) rfl rfl rfl d_Mo_whatIs_25 ?_
      refine k_if_eq C 39 d_Mo_whatIs_28 (by decide) (fun c7 => ?_) (fun c7 => ?_)
      · have h := (if_pos c7).symm.trans h
        exact k_sub [0, 1, 2, 3, 4] rfl (t_Mo_whatIs_39 C q v1 v2 v3 v4 p6.2 h)
      · have h := (if_neg c7).symm.trans h
        refine k_aload_n C d_Mo_whatIs_31 0 rfl ?_
        refine k_iload_n C d_Mo_whatIs_32 1 rfl ?_
        obtain ⟨p8, ep8, h⟩ := bd_some h
        refine k_callVi C q_Mo_171 (fun l => m_Mo_wrongRow (cx_g C) l v1 p6.2 xx oo p8 ep8) rfl rfl (rtI_c q) (by decide) sh_Mo rfl rfl rfl rfl d_Mo_whatIs_33 ?_
        refine k_goto C 40 d_Mo_whatIs_36 (by decide) ?_
        exact k_sub [0, 1, 2, 3, 4] rfl (t_Mo_whatIs_40 C q v1 v2 v3 v4 p8.1 p8.2 h)

def f_Mo_feesOf (v1 : Int32) (v2 : Int32) (m : MD) : Option (Int32 × MD) := gI v1 7 (gI v1 7 ((f_Mo_costOf (m.1 84 v1.toNatClampNeg) (m.1 85 v1.toNatClampNeg) m).bind fun p3 => ((f_Mo_ownRide v1 v2 p3.2).bind fun p4 => (some (p3.1 * p4.1, p4.2)))))
theorem m_Mo_feesOf {g : GC} (hg : gOk g) (l : Launch)  (v1 : Int32) (v2 : Int32) (m : MD) (xx : XD) (oo : Nat → Int64) (r : Int32 × MD) (h : f_Mo_feesOf v1 v2 m = some r) : Mi g l y_Mo_feesOf c_Mo_feesOf 3 (some .int) 7 [.ref (g_a g 83), .int v1, .int v2] (xx, m, oo) r.1 (xx, r.2, oo) := by
  refine m_i hg pn_Mo rfl fun X q C => ?_
  refine k_sub (lv' := [(0, .ref (g_a g 83)), (1, .int v1), (2, .int v2)]) [0, 1, 2] rfl ?_
  unfold f_Mo_feesOf at h
  refine k_aload_n C d_Mo_feesOf_0 0 rfl ?_
  refine kg_Mo_7 C d_Mo_feesOf_1 ?_
  refine k_iload_n C d_Mo_feesOf_4 1 rfl ?_
  obtain ⟨i1, h⟩ := gI_some h
  refine k_ialdM C (by decide) (by decide) i1 d_Mo_feesOf_5 ?_
  refine k_aload_n C d_Mo_feesOf_6 0 rfl ?_
  refine kg_Mo_13 C d_Mo_feesOf_7 ?_
  refine k_iload_n C d_Mo_feesOf_10 1 rfl ?_
  obtain ⟨i2, h⟩ := gI_some h
  refine k_ialdM C (by decide) (by decide) i2 d_Mo_feesOf_11 ?_
  obtain ⟨p3, ep3, h⟩ := bd_some h
  refine k_callSi C q_Mo_237 (fun l => m_Mo_costOf (cx_g C) l (m.1 84 v1.toNatClampNeg) (m.1 85 v1.toNatClampNeg) m xx oo p3 ep3) rfl rfl (rtI_c q) rfl rfl rfl d_Mo_feesOf_12 ?_
  refine k_aload_n C d_Mo_feesOf_15 0 rfl ?_
  refine k_iload_n C d_Mo_feesOf_16 1 rfl ?_
  refine k_iload_n C d_Mo_feesOf_17 2 rfl ?_
  obtain ⟨p4, ep4, h⟩ := bd_some h
  refine k_callVi C q_Mo_215 (fun l => m_Mo_ownRide (cx_g C) l v1 v2 p3.2 xx oo p4 ep4) rfl rfl (rtI_c q) (by decide) sh_Mo rfl rfl rfl rfl d_Mo_feesOf_18 ?_
  refine k_imul C d_Mo_feesOf_21 ?_
  obtain rfl := Option.some.inj h
  exact k_iret C q d_Mo_feesOf_22

def f_Mo_howLong (v1 : Int32) (v2 : Int32) (m : MD) : Option (Int32 × MD) := lt ((x_up m.1 83 14 0, m.2)) fun (m1 : MD) => (f_Mo_isHorse v1 m1).bind fun p2 => ((if p2.1 = 0 then some ((-1), p2.2) else (f_Mo_isYard v2 p2.2).bind fun p4 => ((if p4.1 = 0 then some ((-1), p4.2) else (f_Mo_ownRide v1 v2 p4.2).bind fun p6 => (some (p6.1, p6.2))))))
theorem m_Mo_howLong {g : GC} (hg : gOk g) (l : Launch)  (v1 : Int32) (v2 : Int32) (m : MD) (xx : XD) (oo : Nat → Int64) (r : Int32 × MD) (h : f_Mo_howLong v1 v2 m = some r) : Mi g l y_Mo_howLong c_Mo_howLong 3 (some .int) 7 [.ref (g_a g 83), .int v1, .int v2] (xx, m, oo) r.1 (xx, r.2, oo) := by
  refine m_i hg pn_Mo rfl fun X q C => ?_
  refine k_sub (lv' := [(0, .ref (g_a g 83)), (1, .int v1), (2, .int v2)]) [0, 1, 2] rfl ?_
  unfold f_Mo_howLong at h
  refine k_aload_n C d_Mo_howLong_0 0 rfl ?_
  refine k_iconst C 0 d_Mo_howLong_1 ic_0 ?_
  obtain ⟨m1, em1, h⟩ := lt_some h
  refine kp_Mo_71 C em1 d_Mo_howLong_2 ?_
  refine k_aload_n C d_Mo_howLong_5 0 rfl ?_
  refine k_iload_n C d_Mo_howLong_6 1 rfl ?_
  obtain ⟨p2, ep2, h⟩ := bd_some h
  refine k_callVi C q_Mo_162 (fun l => m_Mo_isHorse (cx_g C) l v1 m1 xx oo p2 ep2) rfl rfl (rtI_c q) (by decide) sh_Mo rfl rfl rfl rfl d_Mo_howLong_7 ?_
  refine k_if_eq C 29 d_Mo_howLong_10 (by decide) (fun c3 => ?_) (fun c3 => ?_)
  · have h := (if_pos c3).symm.trans h
    refine k_iconst C (-1) d_Mo_howLong_29 ic_m1 ?_
    obtain rfl := Option.some.inj h
    exact k_iret C q d_Mo_howLong_30
  · have h := (if_neg c3).symm.trans h
    refine k_iload_n C d_Mo_howLong_13 2 rfl ?_
    obtain ⟨p4, ep4, h⟩ := bd_some h
    refine k_callSi C q_Mo_149 (fun l => m_Mo_isYard (cx_g C) l v2 p2.2 xx oo p4 ep4) rfl rfl (rtI_c q) rfl rfl rfl d_Mo_howLong_14 ?_
    refine k_if_eq C 29 d_Mo_howLong_17 (by decide) (fun c5 => ?_) (fun c5 => ?_)
    · have h := (if_pos c5).symm.trans h
      refine k_iconst C (-1) d_Mo_howLong_29 ic_m1 ?_
      obtain rfl := Option.some.inj h
      exact k_iret C q d_Mo_howLong_30
    · have h := (if_neg c5).symm.trans h
      refine k_aload_n C d_Mo_howLong_20 0 rfl ?_
      refine k_iload_n C d_Mo_howLong_21 1 rfl ?_
      refine k_iload_n C d_Mo_howLong_22 2 rfl ?_
      obtain ⟨p6, ep6, h⟩ := bd_some h
      refine k_callVi C q_Mo_215 (fun l => m_Mo_ownRide (cx_g C) l v1 v2 p4.2 xx oo p6 ep6) rfl rfl (rtI_c q) (by decide) sh_Mo rfl rfl rfl rfl d_Mo_howLong_23 ?_
      refine k_goto C 30 d_Mo_howLong_26 (by decide) ?_
      obtain rfl := Option.some.inj h
      exact k_iret C q d_Mo_howLong_30

def b_Mo_hurry_90 (K34 : Int32 → Int32 → Int32 → MD → Option (Int32 × MD)) (v1 : Int32) (v2 : Int32) (v3 : Int32) (v5 : Int32) (vt0 : Int32) (m : MD) : Option (Int32 × MD) := K34 v3 vt0 (v5 + 1) m
theorem t_Mo_hurry_90 {g : GC} {X : MX} (C : Cx g X c_Mo_hurry 7 n_Mo 7) {r : Int32 × MD} {xx : XD} {oo : Nat → Int64} (q : RtI g X (some .int) r.1 (xx, r.2, oo)) (v1 : Int32) (v2 : Int32) (v3 : Int32) (v5 : Int32) (vt0 : Int32) (K34 : Int32 → Int32 → Int32 → MD → Option (Int32 × MD)) (hK34 : ∀ (v3 : Int32) (v4 : Int32) (v5 : Int32) (m : MD), K34 v3 v4 v5 m = some r → Wk g X 7 34 [(0, .ref (g_a g 83)), (1, .int v1), (2, .int v2), (3, .int v3), (4, .int v4), (5, .int v5)] [] (xx, m, oo)) (m : MD) (h : b_Mo_hurry_90 K34 v1 v2 v3 v5 vt0 m = some r) : Wk g X 7 90 [(0, .ref (g_a g 83)), (1, .int v1), (2, .int v2), (3, .int v3), (5, .int v5)] [.int vt0] (xx, m, oo) := by
  unfold b_Mo_hurry_90 at h
  refine k_istore C (lv' := [(4, .int vt0), (0, .ref (g_a g 83)), (1, .int v1), (2, .int v2), (3, .int v3), (5, .int v5)]) d_Mo_hurry_90 rfl rfl ?_
  refine k_inc C (lv' := [(5, .int (v5 + 1)), (4, .int vt0), (0, .ref (g_a g 83)), (1, .int v1), (2, .int v2), (3, .int v3)]) d_Mo_hurry_92 5 rfl ic_1 rfl rfl ?_
  refine k_goto C 34 d_Mo_hurry_95 (by decide) ?_
  exact k_sub [2, 3, 4, 5, 1, 0] rfl (hK34 v3 vt0 (v5 + 1) m h)

def b_Mo_hurry_83 (K34 : Int32 → Int32 → Int32 → MD → Option (Int32 × MD)) (v1 : Int32) (v2 : Int32) (v3 : Int32) (v5 : Int32) (v6 : Int32) (m : MD) : Option (Int32 × MD) := b_Mo_hurry_90 K34 v1 v2 v3 v5 v6 m
theorem t_Mo_hurry_83 {g : GC} {X : MX} (C : Cx g X c_Mo_hurry 7 n_Mo 7) {r : Int32 × MD} {xx : XD} {oo : Nat → Int64} (q : RtI g X (some .int) r.1 (xx, r.2, oo)) (v1 : Int32) (v2 : Int32) (v3 : Int32) (v5 : Int32) (v6 : Int32) (K34 : Int32 → Int32 → Int32 → MD → Option (Int32 × MD)) (hK34 : ∀ (v3 : Int32) (v4 : Int32) (v5 : Int32) (m : MD), K34 v3 v4 v5 m = some r → Wk g X 7 34 [(0, .ref (g_a g 83)), (1, .int v1), (2, .int v2), (3, .int v3), (4, .int v4), (5, .int v5)] [] (xx, m, oo)) (m : MD) (h : b_Mo_hurry_83 K34 v1 v2 v3 v5 v6 m = some r) : Wk g X 7 83 [(0, .ref (g_a g 83)), (1, .int v1), (2, .int v2), (3, .int v3), (5, .int v5), (6, .int v6)] [] (xx, m, oo) := by
  unfold b_Mo_hurry_83 at h
  refine k_iload C d_Mo_hurry_83 5 rfl ?_
  refine k_goto C 90 d_Mo_hurry_85 (by decide) ?_
  exact k_sub [0, 1, 2, 3, 4] rfl (t_Mo_hurry_90 C q v1 v2 v3 v5 v6 K34 hK34 m h)

def b_Mo_hurry_70 (K34 : Int32 → Int32 → Int32 → MD → Option (Int32 × MD)) (v1 : Int32) (v2 : Int32) (v4 : Int32) (v5 : Int32) (v6 : Int32) (vt0 : Int32) (m : MD) : Option (Int32 × MD) := (if v4 < 0 then b_Mo_hurry_83 K34 v1 v2 vt0 v5 v6 m else (if v4 ≤ v6 then b_Mo_hurry_90 K34 v1 v2 vt0 v5 v4 m else b_Mo_hurry_83 K34 v1 v2 vt0 v5 v6 m))
theorem t_Mo_hurry_70 {g : GC} {X : MX} (C : Cx g X c_Mo_hurry 7 n_Mo 7) {r : Int32 × MD} {xx : XD} {oo : Nat → Int64} (q : RtI g X (some .int) r.1 (xx, r.2, oo)) (v1 : Int32) (v2 : Int32) (v4 : Int32) (v5 : Int32) (v6 : Int32) (vt0 : Int32) (K34 : Int32 → Int32 → Int32 → MD → Option (Int32 × MD)) (hK34 : ∀ (v3 : Int32) (v4 : Int32) (v5 : Int32) (m : MD), K34 v3 v4 v5 m = some r → Wk g X 7 34 [(0, .ref (g_a g 83)), (1, .int v1), (2, .int v2), (3, .int v3), (4, .int v4), (5, .int v5)] [] (xx, m, oo)) (m : MD) (h : b_Mo_hurry_70 K34 v1 v2 v4 v5 v6 vt0 m = some r) : Wk g X 7 70 [(0, .ref (g_a g 83)), (1, .int v1), (2, .int v2), (4, .int v4), (5, .int v5), (6, .int v6)] [.int vt0] (xx, m, oo) := by
  unfold b_Mo_hurry_70 at h
  refine k_istore_n C (lv' := [(3, .int vt0), (0, .ref (g_a g 83)), (1, .int v1), (2, .int v2), (4, .int v4), (5, .int v5), (6, .int v6)]) d_Mo_hurry_70 rfl rfl ?_
  refine k_iload C d_Mo_hurry_71 4 rfl ?_
  refine k_if_lt C 83 d_Mo_hurry_73 (by decide) (fun c1 => ?_) (fun c1 => ?_)
  · have h := (if_pos c1).symm.trans h
    exact k_sub [1, 2, 3, 0, 5, 6] rfl (t_Mo_hurry_83 C q v1 v2 vt0 v5 v6 K34 hK34 m h)
  · have h := (if_neg c1).symm.trans h
    refine k_iload C d_Mo_hurry_76 6 rfl ?_
    refine k_iload C d_Mo_hurry_78 4 rfl ?_
    refine k_icmp_ge C 88 d_Mo_hurry_80 (by decide) (fun c2 => ?_) (fun c2 => ?_)
    · have h := (if_pos c2).symm.trans h
      refine k_iload C d_Mo_hurry_88 4 rfl ?_
      exact k_sub [1, 2, 3, 0, 5] rfl (t_Mo_hurry_90 C q v1 v2 vt0 v5 v4 K34 hK34 m h)
    · have h := (if_neg c2).symm.trans h
      exact k_sub [1, 2, 3, 0, 5, 6] rfl (t_Mo_hurry_83 C q v1 v2 vt0 v5 v6 K34 hK34 m h)

def b_Mo_hurry_64 (K34 : Int32 → Int32 → Int32 → MD → Option (Int32 × MD)) (v1 : Int32) (v2 : Int32) (v4 : Int32) (v5 : Int32) (v6 : Int32) (m : MD) : Option (Int32 × MD) := b_Mo_hurry_70 K34 v1 v2 v4 v5 v6 v5 m
theorem t_Mo_hurry_64 {g : GC} {X : MX} (C : Cx g X c_Mo_hurry 7 n_Mo 7) {r : Int32 × MD} {xx : XD} {oo : Nat → Int64} (q : RtI g X (some .int) r.1 (xx, r.2, oo)) (v1 : Int32) (v2 : Int32) (v4 : Int32) (v5 : Int32) (v6 : Int32) (K34 : Int32 → Int32 → Int32 → MD → Option (Int32 × MD)) (hK34 : ∀ (v3 : Int32) (v4 : Int32) (v5 : Int32) (m : MD), K34 v3 v4 v5 m = some r → Wk g X 7 34 [(0, .ref (g_a g 83)), (1, .int v1), (2, .int v2), (3, .int v3), (4, .int v4), (5, .int v5)] [] (xx, m, oo)) (m : MD) (h : b_Mo_hurry_64 K34 v1 v2 v4 v5 v6 m = some r) : Wk g X 7 64 [(0, .ref (g_a g 83)), (1, .int v1), (2, .int v2), (4, .int v4), (5, .int v5), (6, .int v6)] [] (xx, m, oo) := by
  unfold b_Mo_hurry_64 at h
  refine k_iload C d_Mo_hurry_64 4 rfl ?_
  refine k_goto C 70 d_Mo_hurry_66 (by decide) ?_
  exact k_sub [0, 1, 2, 3, 4, 5] rfl (t_Mo_hurry_70 C q v1 v2 v4 v5 v6 v5 K34 hK34 m h)

def b_Mo_hurry_34 (v1 : Int32) (v2 : Int32) : Nat → Int32 → Int32 → Int32 → MD → Option (Int32 × MD)
  | 0, _, _, _, _ => none
  | n + 1, v3, v4, v5, m => (if m.1 83 0 ≤ v5 then (if v2 = 0 then some (v3, m) else some (v4, m)) else (f_Mo_ownRide v5 v1 m).bind fun p3 => ((if v4 < 0 then b_Mo_hurry_64 (b_Mo_hurry_34 v1 v2 n) v1 v2 v4 v5 p3.1 p3.2 else (if v4 ≤ p3.1 then b_Mo_hurry_70 (b_Mo_hurry_34 v1 v2 n) v1 v2 v4 v5 p3.1 v3 p3.2 else b_Mo_hurry_64 (b_Mo_hurry_34 v1 v2 n) v1 v2 v4 v5 p3.1 p3.2))))
theorem t_Mo_hurry_34 {g : GC} {X : MX} (C : Cx g X c_Mo_hurry 7 n_Mo 7) {r : Int32 × MD} {xx : XD} {oo : Nat → Int64} (q : RtI g X (some .int) r.1 (xx, r.2, oo)) (v1 : Int32) (v2 : Int32) : ∀ (n : Nat) (v3 : Int32) (v4 : Int32) (v5 : Int32) (m : MD) (h : b_Mo_hurry_34 v1 v2 n v3 v4 v5 m = some r), Wk g X 7 34 [(0, .ref (g_a g 83)), (1, .int v1), (2, .int v2), (3, .int v3), (4, .int v4), (5, .int v5)] [] (xx, m, oo) := by
  intro n
  induction n with
  | zero =>
    intro v3 v4 v5 m h
    rw [b_Mo_hurry_34] at h
    cases h
  | succ n ih =>
    intro v3 v4 v5 m h
    rw [b_Mo_hurry_34] at h
    refine k_iload C d_Mo_hurry_34 5 rfl ?_
    refine k_aload_n C d_Mo_hurry_36 0 rfl ?_
    refine kg_Mo_81 C d_Mo_hurry_37 ?_
    refine k_icmp_ge C 98 d_Mo_hurry_40 (by decide) (fun c1 => ?_) (fun c1 => ?_)
    · have h := (if_pos c1).symm.trans h
      refine k_iload_n C d_Mo_hurry_98 2 rfl ?_
      refine k_if_ne C 106 d_Mo_hurry_99 (by decide) (fun c2 => ?_) (fun c2 => ?_)
      · have h := (if_neg c2).symm.trans h
        refine k_iload C d_Mo_hurry_106 4 rfl ?_
        obtain rfl := Option.some.inj h
        exact k_iret C q d_Mo_hurry_108
      · have h := (if_pos c2).symm.trans h
        refine k_iload_n C d_Mo_hurry_102 3 rfl ?_
        refine k_goto C 108 d_Mo_hurry_103 (by decide) ?_
        obtain rfl := Option.some.inj h
        exact k_iret C q d_Mo_hurry_108
    · have h := (if_neg c1).symm.trans h
      refine k_aload_n C d_Mo_hurry_43 0 rfl ?_
      refine k_iload C d_Mo_hurry_44 5 rfl ?_
      refine k_iload_n C d_Mo_hurry_46 1 rfl ?_
      obtain ⟨p3, ep3, h⟩ := bd_some h
      refine k_callVi C q_Mo_215 (fun l => m_Mo_ownRide (cx_g C) l v5 v1 m xx oo p3 ep3) rfl rfl (rtI_c q) (by decide) sh_Mo rfl rfl rfl rfl d_Mo_hurry_47 ?_
      refine k_istore C (lv' := [(6, .int p3.1), (0, .ref (g_a g 83)), (1, .int v1), (2, .int v2), (3, .int v3), (4, .int v4), (5, .int v5)]) d_Mo_hurry_50 rfl rfl ?_
      refine k_iload C d_Mo_hurry_52 5 rfl ?_
      refine k_if_lt C 64 d_Mo_hurry_54 (by decide) (fun c4 => ?_) (fun c4 => ?_)
      · have h := (if_pos c4).symm.trans h
        exact k_sub [1, 2, 3, 5, 6, 0] rfl (t_Mo_hurry_64 C q v1 v2 v4 v5 p3.1 (b_Mo_hurry_34 v1 v2 n) ih p3.2 h)
      · have h := (if_neg c4).symm.trans h
        refine k_iload C d_Mo_hurry_57 0 rfl ?_
        refine k_iload C d_Mo_hurry_59 5 rfl ?_
        refine k_icmp_ge C 69 d_Mo_hurry_61 (by decide) (fun c5 => ?_) (fun c5 => ?_)
        · have h := (if_pos c5).symm.trans h
          refine k_iload_n C d_Mo_hurry_69 4 rfl ?_
          exact k_sub [1, 2, 3, 5, 6, 0] rfl (t_Mo_hurry_70 C q v1 v2 v4 v5 p3.1 v3 (b_Mo_hurry_34 v1 v2 n) ih p3.2 h)
        · have h := (if_neg c5).symm.trans h
          exact k_sub [1, 2, 3, 5, 6, 0] rfl (t_Mo_hurry_64 C q v1 v2 v4 v5 p3.1 (b_Mo_hurry_34 v1 v2 n) ih p3.2 h)

def f_Mo_hurry (v1 : Int32) (v2 : Int32) (m : MD) : Option (Int32 × MD) := lt ((x_up m.1 83 14 0, m.2)) fun (m1 : MD) => (f_Mo_isYard v1 m1).bind fun p2 => ((if p2.1 = 0 then some ((-1), p2.2) else (f_Mo_in v2.toInt64 0 1 p2.2).bind fun p4 => ((if p4.1 = 0 then some ((-1), p4.2) else b_Mo_hurry_34 v1 v2 fu (-4) (-4) 0 p4.2))))
theorem m_Mo_hurry {g : GC} (hg : gOk g) (l : Launch)  (v1 : Int32) (v2 : Int32) (m : MD) (xx : XD) (oo : Nat → Int64) (r : Int32 × MD) (h : f_Mo_hurry v1 v2 m = some r) : Mi g l y_Mo_hurry c_Mo_hurry 7 (some .int) 7 [.ref (g_a g 83), .int v1, .int v2] (xx, m, oo) r.1 (xx, r.2, oo) := by
  refine m_i hg pn_Mo rfl fun X q C => ?_
  refine k_sub (lv' := [(0, .ref (g_a g 83)), (1, .int v1), (2, .int v2)]) [0, 1, 2] rfl ?_
  unfold f_Mo_hurry at h
  refine k_aload_n C d_Mo_hurry_0 0 rfl ?_
  refine k_iconst C 0 d_Mo_hurry_1 ic_0 ?_
  obtain ⟨m1, em1, h⟩ := lt_some h
  refine kp_Mo_71 C em1 d_Mo_hurry_2 ?_
  refine k_iload_n C d_Mo_hurry_5 1 rfl ?_
  obtain ⟨p2, ep2, h⟩ := bd_some h
  refine k_callSi C q_Mo_149 (fun l => m_Mo_isYard (cx_g C) l v1 m1 xx oo p2 ep2) rfl rfl (rtI_c q) rfl rfl rfl d_Mo_hurry_6 ?_
  refine k_if_eq C 22 d_Mo_hurry_9 (by decide) (fun c3 => ?_) (fun c3 => ?_)
  · have h := (if_pos c3).symm.trans h
    refine k_iconst C (-1) d_Mo_hurry_22 ic_m1 ?_
    obtain rfl := Option.some.inj h
    exact k_iret C q d_Mo_hurry_23
  · have h := (if_neg c3).symm.trans h
    refine k_iload_n C d_Mo_hurry_12 2 rfl ?_
    refine k_i2l C d_Mo_hurry_13 ?_
    refine k_lconst C 0 d_Mo_hurry_14 rfl ?_
    refine k_lconst C 1 d_Mo_hurry_15 rfl ?_
    obtain ⟨p4, ep4, h⟩ := bd_some h
    refine k_callSi C q_Mo_77 (fun l => m_Mo_in (cx_g C) l v2.toInt64 0 1 p2.2 xx oo p4 ep4) rfl rfl (rtI_c q) rfl rfl rfl d_Mo_hurry_16 ?_
    refine k_if_ne C 24 d_Mo_hurry_19 (by decide) (fun c5 => ?_) (fun c5 => ?_)
    · have h := (if_neg c5).symm.trans h
      refine k_bipush C (-4) d_Mo_hurry_24 bp_m4 ?_
      refine k_istore_n C (lv' := [(3, .int (-4)), (0, .ref (g_a g 83)), (1, .int v1), (2, .int v2)]) d_Mo_hurry_26 rfl rfl ?_
      refine k_bipush C (-4) d_Mo_hurry_27 bp_m4 ?_
      refine k_istore C (lv' := [(4, .int (-4)), (3, .int (-4)), (0, .ref (g_a g 83)), (1, .int v1), (2, .int v2)]) d_Mo_hurry_29 rfl rfl ?_
      refine k_iconst C 0 d_Mo_hurry_31 ic_0 ?_
      refine k_istore C (lv' := [(5, .int 0), (4, .int (-4)), (3, .int (-4)), (0, .ref (g_a g 83)), (1, .int v1), (2, .int v2)]) d_Mo_hurry_32 rfl rfl ?_
      exact k_sub [3, 4, 5, 2, 1, 0] rfl (t_Mo_hurry_34 C q v1 v2 fu (-4) (-4) 0 p4.2 h)
    · have h := (if_pos c5).symm.trans h
      refine k_iconst C (-1) d_Mo_hurry_22 ic_m1 ?_
      obtain rfl := Option.some.inj h
      exact k_iret C q d_Mo_hurry_23

def b_Mo_land_113 : Nat → Int32 → MD → Option (Int32 × MD)
  | 0, _, _ => none
  | n + 1, v3, m => (if m.1 83 18 ≤ v3 then some (m.1 83 18, m) else (f_Mo_comesTold v3 m).bind fun p2 => ((if p2.1 = 0 then (f_Mo_close p2.2).bind fun p4 => (gI v3 51 (some ((-2000) - (p4.2.1 95 v3.toNatClampNeg), p4.2))) else b_Mo_land_113 n (v3 + 1) p2.2)))
theorem t_Mo_land_113 {g : GC} {X : MX} (C : Cx g X c_Mo_land 4 n_Mo 7) {r : Int32 × MD} {xx : XD} {oo : Nat → Int64} (q : RtI g X (some .int) r.1 (xx, r.2, oo)) : ∀ (n : Nat) (v3 : Int32) (m : MD) (h : b_Mo_land_113 n v3 m = some r), Wk g X 4 113 [(0, .ref (g_a g 83)), (3, .int v3)] [] (xx, m, oo) := by
  intro n
  induction n with
  | zero =>
    intro v3 m h
    rw [b_Mo_land_113] at h
    cases h
  | succ n ih =>
    intro v3 m h
    rw [b_Mo_land_113] at h
    refine k_iload_n C d_Mo_land_113 1 rfl ?_
    refine k_aload_n C d_Mo_land_114 0 rfl ?_
    refine kg_Mo_139 C d_Mo_land_115 ?_
    refine k_icmp_ge C 150 d_Mo_land_118 (by decide) (fun c1 => ?_) (fun c1 => ?_)
    · have h := (if_pos c1).symm.trans h
      refine k_aload_n C d_Mo_land_150 0 rfl ?_
      refine kg_Mo_139 C d_Mo_land_151 ?_
      obtain rfl := Option.some.inj h
      exact k_iret C q d_Mo_land_154
    · have h := (if_neg c1).symm.trans h
      refine k_aload_n C d_Mo_land_121 0 rfl ?_
      refine k_iload_n C d_Mo_land_122 1 rfl ?_
      obtain ⟨p2, ep2, h⟩ := bd_some h
      refine k_callVi C q_Mo_180 (fun l => m_Mo_comesTold (cx_g C) l v3 m xx oo p2 ep2) rfl rfl (rtI_c q) (by decide) sh_Mo rfl rfl rfl rfl d_Mo_land_123 ?_
      refine k_if_ne C 144 d_Mo_land_126 (by decide) (fun c3 => ?_) (fun c3 => ?_)
      · have h := (if_neg c3).symm.trans h
        refine k_inc C (lv' := [(3, .int (v3 + 1)), (0, .ref (g_a g 83))]) d_Mo_land_144 1 rfl ic_1 rfl rfl ?_
        refine k_goto C 113 d_Mo_land_147 (by decide) ?_
        exact k_sub [1, 0] rfl (ih (v3 + 1) p2.2 h)
      · have h := (if_pos c3).symm.trans h
        refine k_aload_n C d_Mo_land_129 0 rfl ?_
        obtain ⟨p4, ep4, h⟩ := bd_some h
        refine k_callVv C q_Mo_183 (fun l => m_Mo_close (cx_g C) l p2.2 xx oo p4 ep4) rfl rfl (rtI_c q) (by decide) sh_Mo rfl rfl rfl rfl d_Mo_land_130 ?_
        refine k_sipush C (-2000) d_Mo_land_133 sp_m2000 ?_
        refine k_aload_n C d_Mo_land_136 0 rfl ?_
        refine kg_Mo_44 C d_Mo_land_137 ?_
        refine k_iload_n C d_Mo_land_140 1 rfl ?_
        obtain ⟨i5, h⟩ := gI_some h
        refine k_ialdM C (by decide) (by decide) i5 d_Mo_land_141 ?_
        refine k_isub C d_Mo_land_142 ?_
        obtain rfl := Option.some.inj h
        exact k_iret C q d_Mo_land_143

def b_Mo_land_91 (m : MD) : Option (Int32 × MD) := (if m.1 83 17 = 0 then (f_Mo_open m).bind fun p2 => (b_Mo_land_113 fu 0 p2.2) else some ((-1000) - (m.1 83 16), m))
theorem t_Mo_land_91 {g : GC} {X : MX} (C : Cx g X c_Mo_land 4 n_Mo 7) {r : Int32 × MD} {xx : XD} {oo : Nat → Int64} (q : RtI g X (some .int) r.1 (xx, r.2, oo)) (m : MD) (h : b_Mo_land_91 m = some r) : Wk g X 4 91 [(0, .ref (g_a g 83))] [] (xx, m, oo) := by
  unfold b_Mo_land_91 at h
  refine k_aload_n C d_Mo_land_91 0 rfl ?_
  refine kg_Mo_124 C d_Mo_land_92 ?_
  refine k_if_eq C 107 d_Mo_land_95 (by decide) (fun c1 => ?_) (fun c1 => ?_)
  · have h := (if_pos c1).symm.trans h
    refine k_aload_n C d_Mo_land_107 0 rfl ?_
    obtain ⟨p2, ep2, h⟩ := bd_some h
    refine k_callVv C q_Mo_177 (fun l => m_Mo_open (cx_g C) l m xx oo p2 ep2) rfl rfl (rtI_c q) (by decide) sh_Mo rfl rfl rfl rfl d_Mo_land_108 ?_
    refine k_iconst C 0 d_Mo_land_111 ic_0 ?_
    refine k_istore_n C (lv' := [(3, .int 0), (0, .ref (g_a g 83))]) d_Mo_land_112 rfl rfl ?_
    exact k_sub [1, 0] rfl (t_Mo_land_113 C q fu 0 p2.2 h)
  · have h := (if_neg c1).symm.trans h
    refine k_sipush C (-1000) d_Mo_land_98 sp_m1000 ?_
    refine k_aload_n C d_Mo_land_101 0 rfl ?_
    refine kg_Mo_118 C d_Mo_land_102 ?_
    refine k_isub C d_Mo_land_105 ?_
    obtain rfl := Option.some.inj h
    exact k_iret C q d_Mo_land_106

def b_Mo_land_84 (K57 : MD → Option (Int32 × MD)) (v1 : Int32) (m : MD) : Option (Int32 × MD) := (f_Mo_readStatement m).bind fun p1 => (K57 p1.2)
theorem t_Mo_land_84 {g : GC} {X : MX} (C : Cx g X c_Mo_land 4 n_Mo 7) {r : Int32 × MD} {xx : XD} {oo : Nat → Int64} (q : RtI g X (some .int) r.1 (xx, r.2, oo)) (v1 : Int32) (K57 : MD → Option (Int32 × MD)) (hK57 : ∀ (m : MD), K57 m = some r → Wk g X 4 57 [(0, .ref (g_a g 83)), (1, .int v1)] [] (xx, m, oo)) (m : MD) (h : b_Mo_land_84 K57 v1 m = some r) : Wk g X 4 84 [(0, .ref (g_a g 83)), (1, .int v1)] [] (xx, m, oo) := by
  unfold b_Mo_land_84 at h
  refine k_aload_n C d_Mo_land_84 0 rfl ?_
  obtain ⟨p1, ep1, h⟩ := bd_some h
  refine k_callVv C q_Mo_174 (fun l => m_Mo_readStatement (cx_g C) l m xx oo p1 ep1) rfl rfl (rtI_c q) (by decide) sh_Mo rfl rfl rfl rfl d_Mo_land_85 ?_
  refine k_goto C 57 d_Mo_land_88 (by decide) ?_
  exact k_sub [0, 1] rfl (hK57  p1.2 h)

def b_Mo_land_57 (v1 : Int32) : Nat → MD → Option (Int32 × MD)
  | 0, _ => none
  | n + 1, m => (if m.1 83 17 = 0 then (if m.1 83 18 = 0 then b_Mo_land_84 (b_Mo_land_57 v1 n) v1 m else gI v1 8 ((if m.1 93 v1.toNatClampNeg ≤ m.1 83 16 then b_Mo_land_91 m else b_Mo_land_84 (b_Mo_land_57 v1 n) v1 m))) else b_Mo_land_91 m)
theorem t_Mo_land_57 {g : GC} {X : MX} (C : Cx g X c_Mo_land 4 n_Mo 7) {r : Int32 × MD} {xx : XD} {oo : Nat → Int64} (q : RtI g X (some .int) r.1 (xx, r.2, oo)) (v1 : Int32) : ∀ (n : Nat) (m : MD) (h : b_Mo_land_57 v1 n m = some r), Wk g X 4 57 [(0, .ref (g_a g 83)), (1, .int v1)] [] (xx, m, oo) := by
  intro n
  induction n with
  | zero =>
    intro m h
    rw [b_Mo_land_57] at h
    cases h
  | succ n ih =>
    intro m h
    rw [b_Mo_land_57] at h
    refine k_aload_n C d_Mo_land_57 0 rfl ?_
    refine kg_Mo_124 C d_Mo_land_58 ?_
    refine k_if_ne C 91 d_Mo_land_61 (by decide) (fun c1 => ?_) (fun c1 => ?_)
    · have h := (if_neg c1).symm.trans h
      exact k_sub [0] rfl (t_Mo_land_91 C q m h)
    · have h := (if_pos c1).symm.trans h
      refine k_aload_n C d_Mo_land_64 0 rfl ?_
      refine kg_Mo_139 C d_Mo_land_65 ?_
      refine k_if_eq C 84 d_Mo_land_68 (by decide) (fun c2 => ?_) (fun c2 => ?_)
      · have h := (if_pos c2).symm.trans h
        exact k_sub [0, 1] rfl (t_Mo_land_84 C q v1 (b_Mo_land_57 v1 n) ih m h)
      · have h := (if_neg c2).symm.trans h
        refine k_aload_n C d_Mo_land_71 0 rfl ?_
        refine kg_Mo_118 C d_Mo_land_72 ?_
        refine k_aload_n C d_Mo_land_75 0 rfl ?_
        refine kg_Mo_37 C d_Mo_land_76 ?_
        refine k_iload_n C d_Mo_land_79 1 rfl ?_
        obtain ⟨i3, h⟩ := gI_some h
        refine k_ialdM C (by decide) (by decide) i3 d_Mo_land_80 ?_
        refine k_icmp_ge C 91 d_Mo_land_81 (by decide) (fun c4 => ?_) (fun c4 => ?_)
        · have h := (if_pos c4).symm.trans h
          exact k_sub [0] rfl (t_Mo_land_91 C q m h)
        · have h := (if_neg c4).symm.trans h
          exact k_sub [0, 1] rfl (t_Mo_land_84 C q v1 (b_Mo_land_57 v1 n) ih m h)

def b_Mo_land_30 (v1 : Int32) (vt0 : Int32) (m : MD) : Option (Int32 × MD) := (if 0 ≤ vt0 then lt ((x_up m.1 83 15 v1, m.2)) fun (m2 : MD) => lt ((x_up m2.1 83 16 0, m2.2)) fun (m3 : MD) => lt ((x_up m3.1 83 17 0, m3.2)) fun (m4 : MD) => lt ((x_up m4.1 83 18 0, m4.2)) fun (m5 : MD) => b_Mo_land_57 v1 fu m5 else some (vt0, m))
theorem t_Mo_land_30 {g : GC} {X : MX} (C : Cx g X c_Mo_land 4 n_Mo 7) {r : Int32 × MD} {xx : XD} {oo : Nat → Int64} (q : RtI g X (some .int) r.1 (xx, r.2, oo)) (v1 : Int32) (vt0 : Int32) (m : MD) (h : b_Mo_land_30 v1 vt0 m = some r) : Wk g X 4 30 [(0, .ref (g_a g 83)), (1, .int v1)] [.int vt0] (xx, m, oo) := by
  unfold b_Mo_land_30 at h
  refine k_istore_n C (lv' := [(2, .int vt0), (0, .ref (g_a g 83)), (1, .int v1)]) d_Mo_land_30 rfl rfl ?_
  refine k_iload_n C d_Mo_land_31 0 rfl ?_
  refine k_if_ge C 37 d_Mo_land_32 (by decide) (fun c1 => ?_) (fun c1 => ?_)
  · have h := (if_pos c1).symm.trans h
    refine k_aload_n C d_Mo_land_37 1 rfl ?_
    refine k_iload_n C d_Mo_land_38 2 rfl ?_
    obtain ⟨m2, em2, h⟩ := lt_some h
    refine kp_Mo_121 C em2 d_Mo_land_39 ?_
    refine k_aload_n C d_Mo_land_42 1 rfl ?_
    refine k_iconst C 0 d_Mo_land_43 ic_0 ?_
    obtain ⟨m3, em3, h⟩ := lt_some h
    refine kp_Mo_118 C em3 d_Mo_land_44 ?_
    refine k_aload_n C d_Mo_land_47 1 rfl ?_
    refine k_iconst C 0 d_Mo_land_48 ic_0 ?_
    obtain ⟨m4, em4, h⟩ := lt_some h
    refine kp_Mo_124 C (Or.inl rfl) em4 d_Mo_land_49 ?_
    refine k_aload_n C d_Mo_land_52 1 rfl ?_
    refine k_iconst C 0 d_Mo_land_53 ic_0 ?_
    obtain ⟨m5, em5, h⟩ := lt_some h
    refine kp_Mo_139 C em5 d_Mo_land_54 ?_
    exact k_sub [1, 2] rfl (t_Mo_land_57 C q v1 fu m5 h)
  · have h := (if_neg c1).symm.trans h
    refine k_iload_n C d_Mo_land_35 0 rfl ?_
    obtain rfl := Option.some.inj h
    exact k_iret C q d_Mo_land_36

def b_Mo_land_29 (v1 : Int32) (v2 : Int32) (m : MD) : Option (Int32 × MD) := b_Mo_land_30 v1 v2 m
theorem t_Mo_land_29 {g : GC} {X : MX} (C : Cx g X c_Mo_land 4 n_Mo 7) {r : Int32 × MD} {xx : XD} {oo : Nat → Int64} (q : RtI g X (some .int) r.1 (xx, r.2, oo)) (v1 : Int32) (v2 : Int32) (m : MD) (h : b_Mo_land_29 v1 v2 m = some r) : Wk g X 4 29 [(0, .ref (g_a g 83)), (1, .int v1), (2, .int v2)] [] (xx, m, oo) := by
  unfold b_Mo_land_29 at h
  refine k_iload_n C d_Mo_land_29 2 rfl ?_
  exact k_sub [0, 1] rfl (t_Mo_land_30 C q v1 v2 m h)

def f_Mo_land (v1 : Int32) (m : MD) : Option (Int32 × MD) := lt ((x_up m.1 83 14 0, m.2)) fun (m1 : MD) => (f_Mo_wrongRow v1 m1).bind fun p2 => ((if p2.1 = 0 then gI v1 8 ((if p2.2.1 92 v1.toNatClampNeg = 0 then b_Mo_land_29 v1 p2.1 p2.2 else b_Mo_land_30 v1 (-12) p2.2)) else b_Mo_land_29 v1 p2.1 p2.2))
theorem m_Mo_land {g : GC} (hg : gOk g) (l : Launch)  (v1 : Int32) (m : MD) (xx : XD) (oo : Nat → Int64) (r : Int32 × MD) (h : f_Mo_land v1 m = some r) : Mi g l y_Mo_land c_Mo_land 4 (some .int) 7 [.ref (g_a g 83), .int v1] (xx, m, oo) r.1 (xx, r.2, oo) := by
  refine m_i hg pn_Mo rfl fun X q C => ?_
  refine k_sub (lv' := [(0, .ref (g_a g 83)), (1, .int v1)]) [0, 1] rfl ?_
  unfold f_Mo_land at h
  refine k_aload_n C d_Mo_land_0 0 rfl ?_
  refine k_iconst C 0 d_Mo_land_1 ic_0 ?_
  obtain ⟨m1, em1, h⟩ := lt_some h
  refine kp_Mo_71 C em1 d_Mo_land_2 ?_
  refine k_aload_n C d_Mo_land_5 0 rfl ?_
  refine k_iload_n C d_Mo_land_6 1 rfl ?_
  obtain ⟨p2, ep2, h⟩ := bd_some h
  refine k_callVi C q_Mo_171 (fun l => m_Mo_wrongRow (cx_g C) l v1 m1 xx oo p2 ep2) rfl rfl (rtI_c q) (by decide) sh_Mo rfl rfl rfl rfl d_Mo_land_7 ?_
  refine k_istore_n C (lv' := [(2, .int p2.1), (0, .ref (g_a g 83)), (1, .int v1)]) d_Mo_land_10 rfl rfl ?_
  refine k_iload_n C d_Mo_land_11 0 rfl ?_
  refine k_if_ne C 29 d_Mo_land_12 (by decide) (fun c3 => ?_) (fun c3 => ?_)
  · have h := (if_neg c3).symm.trans h
    exact k_sub [1, 2, 0] rfl (t_Mo_land_29 C q v1 p2.1 p2.2 h)
  · have h := (if_pos c3).symm.trans h
    refine k_aload_n C d_Mo_land_15 1 rfl ?_
    refine kg_Mo_34 C d_Mo_land_16 ?_
    refine k_iload_n C d_Mo_land_19 2 rfl ?_
    obtain ⟨i4, h⟩ := gI_some h
    refine k_ialdM C (by decide) (by decide) i4 d_Mo_land_20 ?_
    refine k_if_eq C 29 d_Mo_land_21 (by decide) (fun c5 => ?_) (fun c5 => ?_)
    · have h := (if_pos c5).symm.trans h
      exact k_sub [1, 2, 0] rfl (t_Mo_land_29 C q v1 p2.1 p2.2 h)
    · have h := (if_neg c5).symm.trans h
      refine k_bipush C (-12) d_Mo_land_24 bp_m12 ?_
      refine k_goto C 30 d_Mo_land_26 (by decide) ?_
      exact k_sub [1, 2] rfl (t_Mo_land_30 C q v1 (-12) p2.2 h)

def b_Mo_meet_98 (K24 : Int32 → Int32 → Int32 → MD → Option (Int32 × MD)) (v1 : Int32) (v2 : Int32) (v4 : Int32) (vt0 : Int32) (m : MD) : Option (Int32 × MD) := K24 v2 vt0 (v4 + 1) m
theorem t_Mo_meet_98 {g : GC} {X : MX} (C : Cx g X c_Mo_meet 7 n_Mo 7) {r : Int32 × MD} {xx : XD} {oo : Nat → Int64} (q : RtI g X (some .int) r.1 (xx, r.2, oo)) (v1 : Int32) (v2 : Int32) (v4 : Int32) (vt0 : Int32) (K24 : Int32 → Int32 → Int32 → MD → Option (Int32 × MD)) (hK24 : ∀ (v2 : Int32) (v3 : Int32) (v4 : Int32) (m : MD), K24 v2 v3 v4 m = some r → Wk g X 7 24 [(0, .ref (g_a g 83)), (1, .int v1), (2, .int v2), (3, .int v3), (4, .int v4)] [] (xx, m, oo)) (m : MD) (h : b_Mo_meet_98 K24 v1 v2 v4 vt0 m = some r) : Wk g X 7 98 [(0, .ref (g_a g 83)), (1, .int v1), (2, .int v2), (4, .int v4)] [.int vt0] (xx, m, oo) := by
  unfold b_Mo_meet_98 at h
  refine k_istore_n C (lv' := [(3, .int vt0), (0, .ref (g_a g 83)), (1, .int v1), (2, .int v2), (4, .int v4)]) d_Mo_meet_98 rfl rfl ?_
  refine k_inc C (lv' := [(4, .int (v4 + 1)), (3, .int vt0), (0, .ref (g_a g 83)), (1, .int v1), (2, .int v2)]) d_Mo_meet_99 4 rfl ic_1 rfl rfl ?_
  refine k_goto C 24 d_Mo_meet_102 (by decide) ?_
  exact k_sub [2, 3, 4, 1, 0] rfl (hK24 v2 vt0 (v4 + 1) m h)

def b_Mo_meet_92 (K24 : Int32 → Int32 → Int32 → MD → Option (Int32 × MD)) (v1 : Int32) (v2 : Int32) (v4 : Int32) (v5 : Int32) (m : MD) : Option (Int32 × MD) := b_Mo_meet_98 K24 v1 v2 v4 v5 m
theorem t_Mo_meet_92 {g : GC} {X : MX} (C : Cx g X c_Mo_meet 7 n_Mo 7) {r : Int32 × MD} {xx : XD} {oo : Nat → Int64} (q : RtI g X (some .int) r.1 (xx, r.2, oo)) (v1 : Int32) (v2 : Int32) (v4 : Int32) (v5 : Int32) (K24 : Int32 → Int32 → Int32 → MD → Option (Int32 × MD)) (hK24 : ∀ (v2 : Int32) (v3 : Int32) (v4 : Int32) (m : MD), K24 v2 v3 v4 m = some r → Wk g X 7 24 [(0, .ref (g_a g 83)), (1, .int v1), (2, .int v2), (3, .int v3), (4, .int v4)] [] (xx, m, oo)) (m : MD) (h : b_Mo_meet_92 K24 v1 v2 v4 v5 m = some r) : Wk g X 7 92 [(0, .ref (g_a g 83)), (1, .int v1), (2, .int v2), (4, .int v4), (5, .int v5)] [] (xx, m, oo) := by
  unfold b_Mo_meet_92 at h
  refine k_iload C d_Mo_meet_92 4 rfl ?_
  refine k_goto C 98 d_Mo_meet_94 (by decide) ?_
  exact k_sub [0, 1, 2, 3] rfl (t_Mo_meet_98 C q v1 v2 v4 v5 K24 hK24 m h)

def b_Mo_meet_81 (K24 : Int32 → Int32 → Int32 → MD → Option (Int32 × MD)) (v1 : Int32) (v3 : Int32) (v4 : Int32) (v5 : Int32) (vt0 : Int32) (m : MD) : Option (Int32 × MD) := (if v3 < 0 then b_Mo_meet_92 K24 v1 vt0 v4 v5 m else (if v3 ≤ v5 then b_Mo_meet_98 K24 v1 vt0 v4 v3 m else b_Mo_meet_92 K24 v1 vt0 v4 v5 m))
theorem t_Mo_meet_81 {g : GC} {X : MX} (C : Cx g X c_Mo_meet 7 n_Mo 7) {r : Int32 × MD} {xx : XD} {oo : Nat → Int64} (q : RtI g X (some .int) r.1 (xx, r.2, oo)) (v1 : Int32) (v3 : Int32) (v4 : Int32) (v5 : Int32) (vt0 : Int32) (K24 : Int32 → Int32 → Int32 → MD → Option (Int32 × MD)) (hK24 : ∀ (v2 : Int32) (v3 : Int32) (v4 : Int32) (m : MD), K24 v2 v3 v4 m = some r → Wk g X 7 24 [(0, .ref (g_a g 83)), (1, .int v1), (2, .int v2), (3, .int v3), (4, .int v4)] [] (xx, m, oo)) (m : MD) (h : b_Mo_meet_81 K24 v1 v3 v4 v5 vt0 m = some r) : Wk g X 7 81 [(0, .ref (g_a g 83)), (1, .int v1), (3, .int v3), (4, .int v4), (5, .int v5)] [.int vt0] (xx, m, oo) := by
  unfold b_Mo_meet_81 at h
  refine k_istore_n C (lv' := [(2, .int vt0), (0, .ref (g_a g 83)), (1, .int v1), (3, .int v3), (4, .int v4), (5, .int v5)]) d_Mo_meet_81 rfl rfl ?_
  refine k_iload_n C d_Mo_meet_82 3 rfl ?_
  refine k_if_lt C 92 d_Mo_meet_83 (by decide) (fun c1 => ?_) (fun c1 => ?_)
  · have h := (if_pos c1).symm.trans h
    exact k_sub [1, 2, 0, 4, 5] rfl (t_Mo_meet_92 C q v1 vt0 v4 v5 K24 hK24 m h)
  · have h := (if_neg c1).symm.trans h
    refine k_iload C d_Mo_meet_86 5 rfl ?_
    refine k_iload_n C d_Mo_meet_88 3 rfl ?_
    refine k_icmp_ge C 97 d_Mo_meet_89 (by decide) (fun c2 => ?_) (fun c2 => ?_)
    · have h := (if_pos c2).symm.trans h
      refine k_iload_n C d_Mo_meet_97 3 rfl ?_
      exact k_sub [1, 2, 0, 4] rfl (t_Mo_meet_98 C q v1 vt0 v4 v3 K24 hK24 m h)
    · have h := (if_neg c2).symm.trans h
      exact k_sub [1, 2, 0, 4, 5] rfl (t_Mo_meet_92 C q v1 vt0 v4 v5 K24 hK24 m h)

def b_Mo_meet_75 (K24 : Int32 → Int32 → Int32 → MD → Option (Int32 × MD)) (v1 : Int32) (v3 : Int32) (v4 : Int32) (v5 : Int32) (m : MD) : Option (Int32 × MD) := b_Mo_meet_81 K24 v1 v3 v4 v5 v4 m
theorem t_Mo_meet_75 {g : GC} {X : MX} (C : Cx g X c_Mo_meet 7 n_Mo 7) {r : Int32 × MD} {xx : XD} {oo : Nat → Int64} (q : RtI g X (some .int) r.1 (xx, r.2, oo)) (v1 : Int32) (v3 : Int32) (v4 : Int32) (v5 : Int32) (K24 : Int32 → Int32 → Int32 → MD → Option (Int32 × MD)) (hK24 : ∀ (v2 : Int32) (v3 : Int32) (v4 : Int32) (m : MD), K24 v2 v3 v4 m = some r → Wk g X 7 24 [(0, .ref (g_a g 83)), (1, .int v1), (2, .int v2), (3, .int v3), (4, .int v4)] [] (xx, m, oo)) (m : MD) (h : b_Mo_meet_75 K24 v1 v3 v4 v5 m = some r) : Wk g X 7 75 [(0, .ref (g_a g 83)), (1, .int v1), (3, .int v3), (4, .int v4), (5, .int v5)] [] (xx, m, oo) := by
  unfold b_Mo_meet_75 at h
  refine k_iload C d_Mo_meet_75 3 rfl ?_
  refine k_goto C 81 d_Mo_meet_77 (by decide) ?_
  exact k_sub [0, 1, 2, 3, 4] rfl (t_Mo_meet_81 C q v1 v3 v4 v5 v4 K24 hK24 m h)

def b_Mo_meet_37 (K24 : Int32 → Int32 → Int32 → MD → Option (Int32 × MD)) (v1 : Int32) (v2 : Int32) (v3 : Int32) (v4 : Int32) : Nat → Int32 → Int32 → MD → Option (Int32 × MD)
  | 0, _, _, _ => none
  | n + 1, v5, v6, m => (if m.1 83 0 ≤ v6 then (if v3 < 0 then b_Mo_meet_75 K24 v1 v3 v4 v5 m else (if v3 ≤ v5 then b_Mo_meet_81 K24 v1 v3 v4 v5 v2 m else b_Mo_meet_75 K24 v1 v3 v4 v5 m)) else (f_Mo_ownRide v6 v4 m).bind fun p4 => (b_Mo_meet_37 K24 v1 v2 v3 v4 n (v5 + p4.1) (v6 + 1) p4.2))
theorem t_Mo_meet_37 {g : GC} {X : MX} (C : Cx g X c_Mo_meet 7 n_Mo 7) {r : Int32 × MD} {xx : XD} {oo : Nat → Int64} (q : RtI g X (some .int) r.1 (xx, r.2, oo)) (v1 : Int32) (v2 : Int32) (v3 : Int32) (v4 : Int32) (K24 : Int32 → Int32 → Int32 → MD → Option (Int32 × MD)) (hK24 : ∀ (v2 : Int32) (v3 : Int32) (v4 : Int32) (m : MD), K24 v2 v3 v4 m = some r → Wk g X 7 24 [(0, .ref (g_a g 83)), (1, .int v1), (2, .int v2), (3, .int v3), (4, .int v4)] [] (xx, m, oo)) : ∀ (n : Nat) (v5 : Int32) (v6 : Int32) (m : MD) (h : b_Mo_meet_37 K24 v1 v2 v3 v4 n v5 v6 m = some r), Wk g X 7 37 [(0, .ref (g_a g 83)), (1, .int v1), (2, .int v2), (3, .int v3), (4, .int v4), (5, .int v5), (6, .int v6)] [] (xx, m, oo) := by
  intro n
  induction n with
  | zero =>
    intro v5 v6 m h
    rw [b_Mo_meet_37] at h
    cases h
  | succ n ih =>
    intro v5 v6 m h
    rw [b_Mo_meet_37] at h
    refine k_iload C d_Mo_meet_37 6 rfl ?_
    refine k_aload_n C d_Mo_meet_39 0 rfl ?_
    refine kg_Mo_81 C d_Mo_meet_40 ?_
    refine k_icmp_ge C 65 d_Mo_meet_43 (by decide) (fun c1 => ?_) (fun c1 => ?_)
    · have h := (if_pos c1).symm.trans h
      refine k_iload_n C d_Mo_meet_65 3 rfl ?_
      refine k_if_lt C 75 d_Mo_meet_66 (by decide) (fun c2 => ?_) (fun c2 => ?_)
      · have h := (if_pos c2).symm.trans h
        exact k_sub [0, 1, 3, 4, 5] rfl (t_Mo_meet_75 C q v1 v3 v4 v5 K24 hK24 m h)
      · have h := (if_neg c2).symm.trans h
        refine k_iload C d_Mo_meet_69 5 rfl ?_
        refine k_iload_n C d_Mo_meet_71 3 rfl ?_
        refine k_icmp_ge C 80 d_Mo_meet_72 (by decide) (fun c3 => ?_) (fun c3 => ?_)
        · have h := (if_pos c3).symm.trans h
          refine k_iload_n C d_Mo_meet_80 2 rfl ?_
          exact k_sub [0, 1, 3, 4, 5] rfl (t_Mo_meet_81 C q v1 v3 v4 v5 v2 K24 hK24 m h)
        · have h := (if_neg c3).symm.trans h
          exact k_sub [0, 1, 3, 4, 5] rfl (t_Mo_meet_75 C q v1 v3 v4 v5 K24 hK24 m h)
    · have h := (if_neg c1).symm.trans h
      refine k_iload C d_Mo_meet_46 5 rfl ?_
      refine k_aload_n C d_Mo_meet_48 0 rfl ?_
      refine k_iload C d_Mo_meet_49 6 rfl ?_
      refine k_iload C d_Mo_meet_51 4 rfl ?_
      obtain ⟨p4, ep4, h⟩ := bd_some h
      refine k_callVi C q_Mo_215 (fun l => m_Mo_ownRide (cx_g C) l v6 v4 m xx oo p4 ep4) rfl rfl (rtI_c q) (by decide) sh_Mo rfl rfl rfl rfl d_Mo_meet_53 ?_
      refine k_iadd C d_Mo_meet_56 ?_
      refine k_istore C (lv' := [(5, .int (v5 + p4.1)), (0, .ref (g_a g 83)), (1, .int v1), (2, .int v2), (3, .int v3), (4, .int v4), (6, .int v6)]) d_Mo_meet_57 rfl rfl ?_
      refine k_inc C (lv' := [(6, .int (v6 + 1)), (5, .int (v5 + p4.1)), (0, .ref (g_a g 83)), (1, .int v1), (2, .int v2), (3, .int v3), (4, .int v4)]) d_Mo_meet_59 6 rfl ic_1 rfl rfl ?_
      refine k_goto C 37 d_Mo_meet_62 (by decide) ?_
      exact k_sub [2, 3, 4, 5, 6, 1, 0] rfl (ih (v5 + p4.1) (v6 + 1) p4.2 h)

def b_Mo_meet_24 (v1 : Int32) : Nat → Int32 → Int32 → Int32 → MD → Option (Int32 × MD)
  | 0, _, _, _, _ => none
  | n + 1, v2, v3, v4, m => (if 20 < v4 then (if v1 = 0 then some (v2, m) else some (v3, m)) else b_Mo_meet_37 (b_Mo_meet_24 v1 n) v1 v2 v3 v4 fu 0 0 m)
theorem t_Mo_meet_24 {g : GC} {X : MX} (C : Cx g X c_Mo_meet 7 n_Mo 7) {r : Int32 × MD} {xx : XD} {oo : Nat → Int64} (q : RtI g X (some .int) r.1 (xx, r.2, oo)) (v1 : Int32) : ∀ (n : Nat) (v2 : Int32) (v3 : Int32) (v4 : Int32) (m : MD) (h : b_Mo_meet_24 v1 n v2 v3 v4 m = some r), Wk g X 7 24 [(0, .ref (g_a g 83)), (1, .int v1), (2, .int v2), (3, .int v3), (4, .int v4)] [] (xx, m, oo) := by
  intro n
  induction n with
  | zero =>
    intro v2 v3 v4 m h
    rw [b_Mo_meet_24] at h
    cases h
  | succ n ih =>
    intro v2 v3 v4 m h
    rw [b_Mo_meet_24] at h
    refine k_iload C d_Mo_meet_24 4 rfl ?_
    refine k_bipush C 20 d_Mo_meet_26 bp_20 ?_
    refine k_icmp_gt C 105 d_Mo_meet_28 (by decide) (fun c1 => ?_) (fun c1 => ?_)
    · have h := (if_pos c1).symm.trans h
      refine k_iload_n C d_Mo_meet_105 1 rfl ?_
      refine k_if_ne C 113 d_Mo_meet_106 (by decide) (fun c2 => ?_) (fun c2 => ?_)
      · have h := (if_neg c2).symm.trans h
        refine k_iload_n C d_Mo_meet_113 3 rfl ?_
        obtain rfl := Option.some.inj h
        exact k_iret C q d_Mo_meet_114
      · have h := (if_pos c2).symm.trans h
        refine k_iload_n C d_Mo_meet_109 2 rfl ?_
        refine k_goto C 114 d_Mo_meet_110 (by decide) ?_
        obtain rfl := Option.some.inj h
        exact k_iret C q d_Mo_meet_114
    · have h := (if_neg c1).symm.trans h
      refine k_iconst C 0 d_Mo_meet_31 ic_0 ?_
      refine k_istore C (lv' := [(5, .int 0), (0, .ref (g_a g 83)), (1, .int v1), (2, .int v2), (3, .int v3), (4, .int v4)]) d_Mo_meet_32 rfl rfl ?_
      refine k_iconst C 0 d_Mo_meet_34 ic_0 ?_
      refine k_istore C (lv' := [(6, .int 0), (5, .int 0), (0, .ref (g_a g 83)), (1, .int v1), (2, .int v2), (3, .int v3), (4, .int v4)]) d_Mo_meet_35 rfl rfl ?_
      exact k_sub [2, 3, 4, 5, 6, 1, 0] rfl (t_Mo_meet_37 C q v1 v2 v3 v4 (b_Mo_meet_24 v1 n) ih fu 0 0 m h)

def f_Mo_meet (v1 : Int32) (m : MD) : Option (Int32 × MD) := lt ((x_up m.1 83 14 0, m.2)) fun (m1 : MD) => (f_Mo_in v1.toInt64 0 1 m1).bind fun p2 => ((if p2.1 = 0 then some ((-1), p2.2) else b_Mo_meet_24 v1 fu 0 (-1) 0 p2.2))
theorem m_Mo_meet {g : GC} (hg : gOk g) (l : Launch)  (v1 : Int32) (m : MD) (xx : XD) (oo : Nat → Int64) (r : Int32 × MD) (h : f_Mo_meet v1 m = some r) : Mi g l y_Mo_meet c_Mo_meet 7 (some .int) 7 [.ref (g_a g 83), .int v1] (xx, m, oo) r.1 (xx, r.2, oo) := by
  refine m_i hg pn_Mo rfl fun X q C => ?_
  refine k_sub (lv' := [(0, .ref (g_a g 83)), (1, .int v1)]) [0, 1] rfl ?_
  unfold f_Mo_meet at h
  refine k_aload_n C d_Mo_meet_0 0 rfl ?_
  refine k_iconst C 0 d_Mo_meet_1 ic_0 ?_
  obtain ⟨m1, em1, h⟩ := lt_some h
  refine kp_Mo_71 C em1 d_Mo_meet_2 ?_
  refine k_iload_n C d_Mo_meet_5 1 rfl ?_
  refine k_i2l C d_Mo_meet_6 ?_
  refine k_lconst C 0 d_Mo_meet_7 rfl ?_
  refine k_lconst C 1 d_Mo_meet_8 rfl ?_
  obtain ⟨p2, ep2, h⟩ := bd_some h
  refine k_callSi C q_Mo_77 (fun l => m_Mo_in (cx_g C) l v1.toInt64 0 1 m1 xx oo p2 ep2) rfl rfl (rtI_c q) rfl rfl rfl d_Mo_meet_9 ?_
  refine k_if_ne C 17 d_Mo_meet_12 (by decide) (fun c3 => ?_) (fun c3 => ?_)
  · have h := (if_neg c3).symm.trans h
    refine k_iconst C 0 d_Mo_meet_17 ic_0 ?_
    refine k_istore_n C (lv' := [(2, .int 0), (0, .ref (g_a g 83)), (1, .int v1)]) d_Mo_meet_18 rfl rfl ?_
    refine k_iconst C (-1) d_Mo_meet_19 ic_m1 ?_
    refine k_istore_n C (lv' := [(3, .int (-1)), (2, .int 0), (0, .ref (g_a g 83)), (1, .int v1)]) d_Mo_meet_20 rfl rfl ?_
    refine k_iconst C 0 d_Mo_meet_21 ic_0 ?_
    refine k_istore C (lv' := [(4, .int 0), (3, .int (-1)), (2, .int 0), (0, .ref (g_a g 83)), (1, .int v1)]) d_Mo_meet_22 rfl rfl ?_
    exact k_sub [3, 4, 2, 1, 0] rfl (t_Mo_meet_24 C q v1 fu 0 (-1) 0 p2.2 h)
  · have h := (if_pos c3).symm.trans h
    refine k_iconst C (-1) d_Mo_meet_15 ic_m1 ?_
    obtain rfl := Option.some.inj h
    exact k_iret C q d_Mo_meet_16

def f_Mo_race (v1 : Int32) (v2 : Int32) (v3 : Int32) (m : MD) : Option (Int32 × MD) := lt ((x_up m.1 83 14 0, m.2)) fun (m1 : MD) => (f_Mo_isHorse v1 m1).bind fun p2 => ((if p2.1 = 0 then some ((-1), p2.2) else (f_Mo_isHorse v2 p2.2).bind fun p4 => ((if p4.1 = 0 then some ((-1), p4.2) else (if v1 = v2 then some ((-1), p4.2) else (f_Mo_isYard v3 p4.2).bind fun p7 => ((if p7.1 = 0 then some ((-1), p7.2) else (f_Mo_ownRide v1 v3 p7.2).bind fun p9 => ((f_Mo_ownRide v2 v3 p9.2).bind fun p10 => ((if p9.1 = p10.1 then some ((-4), p10.2) else (if p10.1 ≤ p9.1 then some (v2, p10.2) else some (v1, p10.2))))))))))))
theorem m_Mo_race {g : GC} (hg : gOk g) (l : Launch)  (v1 : Int32) (v2 : Int32) (v3 : Int32) (m : MD) (xx : XD) (oo : Nat → Int64) (r : Int32 × MD) (h : f_Mo_race v1 v2 v3 m = some r) : Mi g l y_Mo_race c_Mo_race 6 (some .int) 7 [.ref (g_a g 83), .int v1, .int v2, .int v3] (xx, m, oo) r.1 (xx, r.2, oo) := by
  refine m_i hg pn_Mo rfl fun X q C => ?_
  refine k_sub (lv' := [(0, .ref (g_a g 83)), (1, .int v1), (2, .int v2), (3, .int v3)]) [0, 1, 2, 3] rfl ?_
  unfold f_Mo_race at h
  refine k_aload_n C d_Mo_race_0 0 rfl ?_
  refine k_iconst C 0 d_Mo_race_1 ic_0 ?_
  obtain ⟨m1, em1, h⟩ := lt_some h
  refine kp_Mo_71 C em1 d_Mo_race_2 ?_
  refine k_aload_n C d_Mo_race_5 0 rfl ?_
  refine k_iload_n C d_Mo_race_6 1 rfl ?_
  obtain ⟨p2, ep2, h⟩ := bd_some h
  refine k_callVi C q_Mo_162 (fun l => m_Mo_isHorse (cx_g C) l v1 m1 xx oo p2 ep2) rfl rfl (rtI_c q) (by decide) sh_Mo rfl rfl rfl rfl d_Mo_race_7 ?_
  refine k_if_eq C 33 d_Mo_race_10 (by decide) (fun c3 => ?_) (fun c3 => ?_)
  · have h := (if_pos c3).symm.trans h
    refine k_iconst C (-1) d_Mo_race_33 ic_m1 ?_
    obtain rfl := Option.some.inj h
    exact k_iret C q d_Mo_race_34
  · have h := (if_neg c3).symm.trans h
    refine k_aload_n C d_Mo_race_13 0 rfl ?_
    refine k_iload_n C d_Mo_race_14 2 rfl ?_
    obtain ⟨p4, ep4, h⟩ := bd_some h
    refine k_callVi C q_Mo_162 (fun l => m_Mo_isHorse (cx_g C) l v2 p2.2 xx oo p4 ep4) rfl rfl (rtI_c q) (by decide) sh_Mo rfl rfl rfl rfl d_Mo_race_15 ?_
    refine k_if_eq C 33 d_Mo_race_18 (by decide) (fun c5 => ?_) (fun c5 => ?_)
    · have h := (if_pos c5).symm.trans h
      refine k_iconst C (-1) d_Mo_race_33 ic_m1 ?_
      obtain rfl := Option.some.inj h
      exact k_iret C q d_Mo_race_34
    · have h := (if_neg c5).symm.trans h
      refine k_iload_n C d_Mo_race_21 1 rfl ?_
      refine k_iload_n C d_Mo_race_22 2 rfl ?_
      refine k_icmp_eq C 33 d_Mo_race_23 (by decide) (fun c6 => ?_) (fun c6 => ?_)
      · have h := (if_pos c6).symm.trans h
        refine k_iconst C (-1) d_Mo_race_33 ic_m1 ?_
        obtain rfl := Option.some.inj h
        exact k_iret C q d_Mo_race_34
      · have h := (if_neg c6).symm.trans h
        refine k_iload_n C d_Mo_race_26 3 rfl ?_
        obtain ⟨p7, ep7, h⟩ := bd_some h
        refine k_callSi C q_Mo_149 (fun l => m_Mo_isYard (cx_g C) l v3 p4.2 xx oo p7 ep7) rfl rfl (rtI_c q) rfl rfl rfl d_Mo_race_27 ?_
        refine k_if_ne C 35 d_Mo_race_30 (by decide) (fun c8 => ?_) (fun c8 => ?_)
        · have h := (if_neg c8).symm.trans h
          refine k_aload_n C d_Mo_race_35 0 rfl ?_
          refine k_iload_n C d_Mo_race_36 1 rfl ?_
          refine k_iload_n C d_Mo_race_37 3 rfl ?_
          obtain ⟨p9, ep9, h⟩ := bd_some h
          refine k_callVi C q_Mo_215 (fun l => m_Mo_ownRide (cx_g C) l v1 v3 p7.2 xx oo p9 ep9) rfl rfl (rtI_c q) (by decide) sh_Mo rfl rfl rfl rfl d_Mo_race_38 ?_
          refine k_istore C (lv' := [(4, .int p9.1), (0, .ref (g_a g 83)), (1, .int v1), (2, .int v2), (3, .int v3)]) d_Mo_race_41 rfl rfl ?_
          refine k_aload_n C d_Mo_race_43 1 rfl ?_
          refine k_iload_n C d_Mo_race_44 3 rfl ?_
          refine k_iload_n C d_Mo_race_45 4 rfl ?_
          obtain ⟨p10, ep10, h⟩ := bd_some h
          refine k_callVi C q_Mo_215 (fun l => m_Mo_ownRide (cx_g C) l v2 v3 p9.2 xx oo p10 ep10) rfl rfl (rtI_c q) (by decide) sh_Mo rfl rfl rfl rfl d_Mo_race_46 ?_
          refine k_istore C (lv' := [(5, .int p10.1), (4, .int p9.1), (0, .ref (g_a g 83)), (1, .int v1), (2, .int v2), (3, .int v3)]) d_Mo_race_49 rfl rfl ?_
          refine k_iload C d_Mo_race_51 1 rfl ?_
          refine k_iload C d_Mo_race_53 0 rfl ?_
          refine k_icmp_ne C 63 d_Mo_race_55 (by decide) (fun c11 => ?_) (fun c11 => ?_)
          · have h := (if_neg c11).symm.trans h
            refine k_iload C d_Mo_race_63 1 rfl ?_
            refine k_iload C d_Mo_race_65 0 rfl ?_
            refine k_icmp_ge C 74 d_Mo_race_67 (by decide) (fun c12 => ?_) (fun c12 => ?_)
            · have h := (if_pos c12).symm.trans h
              refine k_iload_n C d_Mo_race_74 4 rfl ?_
              obtain rfl := Option.some.inj h
              exact k_iret C q d_Mo_race_75
            · have h := (if_neg c12).symm.trans h
              refine k_iload_n C d_Mo_race_70 3 rfl ?_
              refine k_goto C 75 d_Mo_race_71 (by decide) ?_
              obtain rfl := Option.some.inj h
              exact k_iret C q d_Mo_race_75
          · have h := (if_pos c11).symm.trans h
            refine k_bipush C (-4) d_Mo_race_58 bp_m4 ?_
            refine k_goto C 75 d_Mo_race_60 (by decide) ?_
            obtain rfl := Option.some.inj h
            exact k_iret C q d_Mo_race_75
        · have h := (if_pos c8).symm.trans h
          refine k_iconst C (-1) d_Mo_race_33 ic_m1 ?_
          obtain rfl := Option.some.inj h
          exact k_iret C q d_Mo_race_34

def b_Mo_secondRides_113 (K3 : Int32 → MD → Option (Unit × MD)) (v1 : Int32) (v2 : Int32) (v3 : Int32) (v4 : Int32) (v5 : Int32) (m : MD) : Option (Unit × MD) := K3 (v5 + 1) m
theorem t_Mo_secondRides_113 {g : GC} {X : MX} (C : Cx g X c_Mo_secondRides 9 n_Mo 7) {r : Unit × MD} {xx : XD} {oo : Nat → Int64} (q : RtV g X none (xx, r.2, oo)) (v1 : Int32) (v2 : Int32) (v3 : Int32) (v4 : Int32) (v5 : Int32) (K3 : Int32 → MD → Option (Unit × MD)) (hK3 : ∀ (v5 : Int32) (m : MD), K3 v5 m = some r → Wk g X 9 3 [(0, .ref (g_a g 83)), (1, .int v1), (2, .int v2), (3, .int v3), (4, .int v4), (5, .int v5)] [] (xx, m, oo)) (m : MD) (h : b_Mo_secondRides_113 K3 v1 v2 v3 v4 v5 m = some r) : Wk g X 9 113 [(0, .ref (g_a g 83)), (1, .int v1), (2, .int v2), (3, .int v3), (4, .int v4), (5, .int v5)] [] (xx, m, oo) := by
  unfold b_Mo_secondRides_113 at h
  refine k_inc C (lv' := [(5, .int (v5 + 1)), (0, .ref (g_a g 83)), (1, .int v1), (2, .int v2), (3, .int v3), (4, .int v4)]) d_Mo_secondRides_113 5 rfl ic_1 rfl rfl ?_
  refine k_goto C 3 d_Mo_secondRides_116 (by decide) ?_
  exact k_sub [1, 2, 3, 4, 5, 0] rfl (hK3 (v5 + 1) m h)

def b_Mo_secondRides_104 (K3 : Int32 → MD → Option (Unit × MD)) (v1 : Int32) (v2 : Int32) (v3 : Int32) (v4 : Int32) (v5 : Int32) (m : MD) : Option (Unit × MD) := (f_Mo_carryAll 99 0 m).bind fun p1 => (b_Mo_secondRides_113 K3 v1 v2 v3 v4 v5 p1.2)
theorem t_Mo_secondRides_104 {g : GC} {X : MX} (C : Cx g X c_Mo_secondRides 9 n_Mo 7) {r : Unit × MD} {xx : XD} {oo : Nat → Int64} (q : RtV g X none (xx, r.2, oo)) (v1 : Int32) (v2 : Int32) (v3 : Int32) (v4 : Int32) (v5 : Int32) (K3 : Int32 → MD → Option (Unit × MD)) (hK3 : ∀ (v5 : Int32) (m : MD), K3 v5 m = some r → Wk g X 9 3 [(0, .ref (g_a g 83)), (1, .int v1), (2, .int v2), (3, .int v3), (4, .int v4), (5, .int v5)] [] (xx, m, oo)) (m : MD) (h : b_Mo_secondRides_104 K3 v1 v2 v3 v4 v5 m = some r) : Wk g X 9 104 [(0, .ref (g_a g 83)), (1, .int v1), (2, .int v2), (3, .int v3), (4, .int v4), (5, .int v5)] [] (xx, m, oo) := by
  unfold b_Mo_secondRides_104 at h
  refine k_aload_n C d_Mo_secondRides_104 0 rfl ?_
  refine k_aload_n C d_Mo_secondRides_105 0 rfl ?_
  refine kg_Mo_56 C d_Mo_secondRides_106 ?_
  refine k_iconst C 0 d_Mo_secondRides_109 ic_0 ?_
  obtain ⟨p1, ep1, h⟩ := bd_some h
  refine k_callVv C q_Mo_198 (fun l => m_Mo_carryAll (cx_g C) l 99 (by decide) 0 m xx oo p1 ep1) rfl rfl (rtV_c q) (by decide) sh_Mo rfl rfl rfl rfl d_Mo_secondRides_110 ?_
  exact k_sub [0, 1, 2, 3, 4, 5] rfl (t_Mo_secondRides_113 C q v1 v2 v3 v4 v5 K3 hK3 p1.2 h)

def b_Mo_secondRides_3 (v1 : Int32) (v2 : Int32) (v3 : Int32) (v4 : Int32) : Nat → Int32 → MD → Option (Unit × MD)
  | 0, _, _ => none
  | n + 1, v5, m => (if 21 * (m.1 83 0) ≤ v5 then some ((), m) else (if v5 / 21 = v4 then b_Mo_secondRides_113 (b_Mo_secondRides_3 v1 v2 v3 v4 n) v1 v2 v3 v4 v5 m else gI (v5 / 21) 7 ((if m.1 87 (v5 / 21).toNatClampNeg = v1 then (if x_rem v5 21 = v1 then b_Mo_secondRides_113 (b_Mo_secondRides_3 v1 v2 v3 v4 n) v1 v2 v3 v4 v5 m else (f_Mo_carryAll 99 1 m).bind fun p6 => ((f_Mo_ride (v5 / 21) (x_rem v5 21) p6.2).bind fun p7 => ((if x_rem v5 21 = v2 then (f_Mo_takeChain (v3 + p7.1) v4 p7.2).bind fun p10 => (b_Mo_secondRides_104 (b_Mo_secondRides_3 v1 v2 v3 v4 n) v1 v2 v3 v4 v5 p10.2) else (f_Mo_thirdRides (x_rem v5 21) v2 (v3 + p7.1) v4 (v5 / 21) p7.2).bind fun p9 => (b_Mo_secondRides_104 (b_Mo_secondRides_3 v1 v2 v3 v4 n) v1 v2 v3 v4 v5 p9.2))))) else b_Mo_secondRides_113 (b_Mo_secondRides_3 v1 v2 v3 v4 n) v1 v2 v3 v4 v5 m))))
theorem t_Mo_secondRides_3 {g : GC} {X : MX} (C : Cx g X c_Mo_secondRides 9 n_Mo 7) {r : Unit × MD} {xx : XD} {oo : Nat → Int64} (q : RtV g X none (xx, r.2, oo)) (v1 : Int32) (v2 : Int32) (v3 : Int32) (v4 : Int32) : ∀ (n : Nat) (v5 : Int32) (m : MD) (h : b_Mo_secondRides_3 v1 v2 v3 v4 n v5 m = some r), Wk g X 9 3 [(0, .ref (g_a g 83)), (1, .int v1), (2, .int v2), (3, .int v3), (4, .int v4), (5, .int v5)] [] (xx, m, oo) := by
  intro n
  induction n with
  | zero =>
    intro v5 m h
    rw [b_Mo_secondRides_3] at h
    cases h
  | succ n ih =>
    intro v5 m h
    rw [b_Mo_secondRides_3] at h
    refine k_iload C d_Mo_secondRides_3 5 rfl ?_
    refine k_bipush C 21 d_Mo_secondRides_5 bp_21 ?_
    refine k_aload_n C d_Mo_secondRides_7 0 rfl ?_
    refine kg_Mo_81 C d_Mo_secondRides_8 ?_
    refine k_imul C d_Mo_secondRides_11 ?_
    refine k_icmp_ge C 119 d_Mo_secondRides_12 (by decide) (fun c1 => ?_) (fun c1 => ?_)
    · have h := (if_pos c1).symm.trans h
      obtain rfl := Option.some.inj h
      exact k_vret C q d_Mo_secondRides_119
    · have h := (if_neg c1).symm.trans h
      refine k_iload C d_Mo_secondRides_15 5 rfl ?_
      refine k_bipush C 21 d_Mo_secondRides_17 bp_21 ?_
      refine k_idiv C nz_21 d_Mo_secondRides_19 ?_
      refine k_istore C (lv' := [(6, .int (v5 / 21)), (0, .ref (g_a g 83)), (1, .int v1), (2, .int v2), (3, .int v3), (4, .int v4), (5, .int v5)]) d_Mo_secondRides_20 rfl rfl ?_
      refine k_iload C d_Mo_secondRides_22 6 rfl ?_
      refine k_bipush C 21 d_Mo_secondRides_24 bp_21 ?_
      refine k_irem C nz_21 d_Mo_secondRides_26 ?_
      refine k_istore C (lv' := [(7, .int (x_rem v5 21)), (6, .int (v5 / 21)), (0, .ref (g_a g 83)), (1, .int v1), (2, .int v2), (3, .int v3), (4, .int v4), (5, .int v5)]) d_Mo_secondRides_27 rfl rfl ?_
      refine k_iload C d_Mo_secondRides_29 1 rfl ?_
      refine k_iload C d_Mo_secondRides_31 6 rfl ?_
      refine k_icmp_eq C 113 d_Mo_secondRides_33 (by decide) (fun c2 => ?_) (fun c2 => ?_)
      · have h := (if_pos c2).symm.trans h
        exact k_sub [2, 3, 4, 5, 6, 7] rfl (t_Mo_secondRides_113 C q v1 v2 v3 v4 v5 (b_Mo_secondRides_3 v1 v2 v3 v4 n) ih m h)
      · have h := (if_neg c2).symm.trans h
        refine k_aload_n C d_Mo_secondRides_36 2 rfl ?_
        refine kg_Mo_19 C d_Mo_secondRides_37 ?_
        refine k_iload C d_Mo_secondRides_40 1 rfl ?_
        obtain ⟨i3, h⟩ := gI_some h
        refine k_ialdM C (by decide) (by decide) i3 d_Mo_secondRides_42 ?_
        refine k_iload_n C d_Mo_secondRides_43 3 rfl ?_
        refine k_icmp_ne C 113 d_Mo_secondRides_44 (by decide) (fun c4 => ?_) (fun c4 => ?_)
        · have h := (if_neg c4).symm.trans h
          exact k_sub [2, 3, 4, 5, 6, 7] rfl (t_Mo_secondRides_113 C q v1 v2 v3 v4 v5 (b_Mo_secondRides_3 v1 v2 v3 v4 n) ih m h)
        · have h := (if_pos c4).symm.trans h
          refine k_iload C d_Mo_secondRides_47 0 rfl ?_
          refine k_iload_n C d_Mo_secondRides_49 3 rfl ?_
          refine k_icmp_eq C 113 d_Mo_secondRides_50 (by decide) (fun c5 => ?_) (fun c5 => ?_)
          · have h := (if_pos c5).symm.trans h
            exact k_sub [2, 3, 4, 5, 6, 7] rfl (t_Mo_secondRides_113 C q v1 v2 v3 v4 v5 (b_Mo_secondRides_3 v1 v2 v3 v4 n) ih m h)
          · have h := (if_neg c5).symm.trans h
            refine k_aload_n C d_Mo_secondRides_53 2 rfl ?_
            refine k_aload_n C d_Mo_secondRides_54 2 rfl ?_
            refine kg_Mo_56 C d_Mo_secondRides_55 ?_
            refine k_iconst C 1 d_Mo_secondRides_58 ic_1 ?_
            obtain ⟨p6, ep6, h⟩ := bd_some h
            refine k_callVv C q_Mo_198 (fun l => m_Mo_carryAll (cx_g C) l 99 (by decide) 1 m xx oo p6 ep6) rfl rfl (rtV_c q) (by decide) sh_Mo rfl rfl rfl rfl d_Mo_secondRides_59 ?_
            refine k_iload_n C d_Mo_secondRides_62 5 rfl ?_
            refine k_aload_n C d_Mo_secondRides_63 2 rfl ?_
            refine k_iload C d_Mo_secondRides_64 1 rfl ?_
            refine k_iload C d_Mo_secondRides_66 0 rfl ?_
            obtain ⟨p7, ep7, h⟩ := bd_some h
            refine k_callVi C q_Mo_165 (fun l => m_Mo_ride (cx_g C) l (v5 / 21) (x_rem v5 21) p6.2 xx oo p7 ep7) rfl rfl (rtV_c q) (by decide) sh_Mo rfl rfl rfl rfl d_Mo_secondRides_68 ?_
            refine k_iadd C d_Mo_secondRides_71 ?_
            refine k_istore C (lv' := [(8, .int (v3 + p7.1)), (7, .int (x_rem v5 21)), (6, .int (v5 / 21)), (0, .ref (g_a g 83)), (1, .int v1), (2, .int v2), (3, .int v3), (4, .int v4), (5, .int v5)]) d_Mo_secondRides_72 rfl rfl ?_
            refine k_iload C d_Mo_secondRides_74 1 rfl ?_
            refine k_iload_n C d_Mo_secondRides_76 5 rfl ?_
            refine k_icmp_ne C 91 d_Mo_secondRides_77 (by decide) (fun c8 => ?_) (fun c8 => ?_)
            · have h := (if_neg c8).symm.trans h
              refine k_aload_n C d_Mo_secondRides_91 3 rfl ?_
              refine k_iload C d_Mo_secondRides_92 1 rfl ?_
              refine k_iload_n C d_Mo_secondRides_94 5 rfl ?_
              refine k_iload C d_Mo_secondRides_95 0 rfl ?_
              refine k_iload C d_Mo_secondRides_97 7 rfl ?_
              refine k_iload C d_Mo_secondRides_99 2 rfl ?_
              obtain ⟨p9, ep9, h⟩ := bd_some h
              refine k_callVv C q_Mo_227 (fun l => m_Mo_thirdRides (cx_g C) l (x_rem v5 21) v2 (v3 + p7.1) v4 (v5 / 21) p7.2 xx oo p9 ep9) rfl rfl (rtV_c q) (by decide) sh_Mo rfl rfl rfl rfl d_Mo_secondRides_101 ?_
              exact k_sub [3, 4, 5, 6, 7, 8] rfl (t_Mo_secondRides_104 C q v1 v2 v3 v4 v5 (b_Mo_secondRides_3 v1 v2 v3 v4 n) ih p9.2 h)
            · have h := (if_pos c8).symm.trans h
              refine k_aload_n C d_Mo_secondRides_80 3 rfl ?_
              refine k_iload C d_Mo_secondRides_81 0 rfl ?_
              refine k_iload C d_Mo_secondRides_83 7 rfl ?_
              obtain ⟨p10, ep10, h⟩ := bd_some h
              refine k_callVv C q_Mo_224 (fun l => m_Mo_takeChain (cx_g C) l (v3 + p7.1) v4 p7.2 xx oo p10 ep10) rfl rfl (rtV_c q) (by decide) sh_Mo rfl rfl rfl rfl d_Mo_secondRides_85 ?_
              refine k_goto C 104 d_Mo_secondRides_88 (by decide) ?_
              exact k_sub [3, 4, 5, 6, 7, 8] rfl (t_Mo_secondRides_104 C q v1 v2 v3 v4 v5 (b_Mo_secondRides_3 v1 v2 v3 v4 n) ih p10.2 h)

def f_Mo_secondRides (v1 : Int32) (v2 : Int32) (v3 : Int32) (v4 : Int32) (m : MD) : Option (Unit × MD) := b_Mo_secondRides_3 v1 v2 v3 v4 fu 0 m
theorem m_Mo_secondRides {g : GC} (hg : gOk g) (l : Launch)  (v1 : Int32) (v2 : Int32) (v3 : Int32) (v4 : Int32) (m : MD) (xx : XD) (oo : Nat → Int64) (r : Unit × MD) (h : f_Mo_secondRides v1 v2 v3 v4 m = some r) : Mv g l y_Mo_secondRides c_Mo_secondRides 9 none 7 [.ref (g_a g 83), .int v1, .int v2, .int v3, .int v4] (xx, m, oo) (xx, r.2, oo) := by
  refine m_v hg pn_Mo rfl fun X q C => ?_
  refine k_sub (lv' := [(0, .ref (g_a g 83)), (1, .int v1), (2, .int v2), (3, .int v3), (4, .int v4)]) [0, 1, 2, 3, 4] rfl ?_
  unfold f_Mo_secondRides at h
  refine k_iconst C 0 d_Mo_secondRides_0 ic_0 ?_
  refine k_istore C (lv' := [(5, .int 0), (0, .ref (g_a g 83)), (1, .int v1), (2, .int v2), (3, .int v3), (4, .int v4)]) d_Mo_secondRides_1 rfl rfl ?_
  exact k_sub [1, 2, 3, 4, 5, 0] rfl (t_Mo_secondRides_3 C q v1 v2 v3 v4 fu 0 m h)

def b_Mo_two_158 (K85 : Int32 → MD → Option (Int32 × MD)) (v4 : Int32) (m : MD) : Option (Int32 × MD) := K85 (v4 + 1) m
theorem t_Mo_two_158 {g : GC} {X : MX} (C : Cx g X c_Mo_two 7 n_Mo 7) {r : Int32 × MD} {xx : XD} {oo : Nat → Int64} (q : RtI g X (some .int) r.1 (xx, r.2, oo)) (v4 : Int32) (K85 : Int32 → MD → Option (Int32 × MD)) (hK85 : ∀ (v4 : Int32) (m : MD), K85 v4 m = some r → Wk g X 7 85 [(0, .ref (g_a g 83)), (4, .int v4)] [] (xx, m, oo)) (m : MD) (h : b_Mo_two_158 K85 v4 m = some r) : Wk g X 7 158 [(0, .ref (g_a g 83)), (4, .int v4)] [] (xx, m, oo) := by
  unfold b_Mo_two_158 at h
  refine k_inc C (lv' := [(4, .int (v4 + 1)), (0, .ref (g_a g 83))]) d_Mo_two_158 1 rfl ic_1 rfl rfl ?_
  refine k_goto C 85 d_Mo_two_161 (by decide) ?_
  exact k_sub [1, 0] rfl (hK85 (v4 + 1) m h)

def b_Mo_two_85 : Nat → Int32 → MD → Option (Int32 × MD)
  | 0, _, _ => none
  | n + 1, v4, m => (if 4 ≤ v4 then some ((-4), m) else (f_Mo_hasBy 0 (v4 / 2) (x_rem v4 2) m).bind fun p2 => ((f_Mo_hasBy 0 (1 - (v4 / 2)) (x_rem v4 2) p2.2).bind fun p3 => ((if p2.1 < p3.1 then b_Mo_two_158 (b_Mo_two_85 n) v4 p3.2 else (f_Mo_hasBy 2 (x_rem v4 2) (v4 / 2) p3.2).bind fun p5 => ((f_Mo_hasBy 2 (1 - (x_rem v4 2)) (v4 / 2) p5.2).bind fun p6 => ((if p5.1 < p6.1 then b_Mo_two_158 (b_Mo_two_85 n) v4 p6.2 else some ((10 * (v4 / 2)) + (x_rem v4 2), p6.2))))))))
theorem t_Mo_two_85 {g : GC} {X : MX} (C : Cx g X c_Mo_two 7 n_Mo 7) {r : Int32 × MD} {xx : XD} {oo : Nat → Int64} (q : RtI g X (some .int) r.1 (xx, r.2, oo)) : ∀ (n : Nat) (v4 : Int32) (m : MD) (h : b_Mo_two_85 n v4 m = some r), Wk g X 7 85 [(0, .ref (g_a g 83)), (4, .int v4)] [] (xx, m, oo) := by
  intro n
  induction n with
  | zero =>
    intro v4 m h
    rw [b_Mo_two_85] at h
    cases h
  | succ n ih =>
    intro v4 m h
    rw [b_Mo_two_85] at h
    refine k_iload C d_Mo_two_85 1 rfl ?_
    refine k_iconst C 4 d_Mo_two_87 ic_4 ?_
    refine k_icmp_ge C 164 d_Mo_two_88 (by decide) (fun c1 => ?_) (fun c1 => ?_)
    · have h := (if_pos c1).symm.trans h
      refine k_bipush C (-4) d_Mo_two_164 bp_m4 ?_
      obtain rfl := Option.some.inj h
      exact k_iret C q d_Mo_two_166
    · have h := (if_neg c1).symm.trans h
      refine k_iload C d_Mo_two_91 1 rfl ?_
      refine k_iconst C 2 d_Mo_two_93 ic_2 ?_
      refine k_idiv C nz_2 d_Mo_two_94 ?_
      refine k_istore C (lv' := [(5, .int (v4 / 2)), (0, .ref (g_a g 83)), (4, .int v4)]) d_Mo_two_95 rfl rfl ?_
      refine k_iload C d_Mo_two_97 2 rfl ?_
      refine k_iconst C 2 d_Mo_two_99 ic_2 ?_
      refine k_irem C nz_2 d_Mo_two_100 ?_
      refine k_istore C (lv' := [(6, .int (x_rem v4 2)), (5, .int (v4 / 2)), (0, .ref (g_a g 83)), (4, .int v4)]) d_Mo_two_101 rfl rfl ?_
      refine k_aload_n C d_Mo_two_103 2 rfl ?_
      refine k_iconst C 0 d_Mo_two_104 ic_0 ?_
      refine k_iload C d_Mo_two_105 1 rfl ?_
      refine k_iload C d_Mo_two_107 0 rfl ?_
      obtain ⟨p2, ep2, h⟩ := bd_some h
      refine k_callVi C q_Mo_263 (fun l => m_Mo_hasBy (cx_g C) l 0 (v4 / 2) (x_rem v4 2) m xx oo p2 ep2) rfl rfl (rtI_c q) (by decide) sh_Mo rfl rfl rfl rfl d_Mo_two_109 ?_
      refine k_aload_n C d_Mo_two_112 2 rfl ?_
      refine k_iconst C 0 d_Mo_two_113 ic_0 ?_
      refine k_iconst C 1 d_Mo_two_114 ic_1 ?_
      refine k_iload C d_Mo_two_115 1 rfl ?_
      refine k_isub C d_Mo_two_117 ?_
      refine k_iload C d_Mo_two_118 0 rfl ?_
      obtain ⟨p3, ep3, h⟩ := bd_some h
      refine k_callVi C q_Mo_263 (fun l => m_Mo_hasBy (cx_g C) l 0 (1 - (v4 / 2)) (x_rem v4 2) p2.2 xx oo p3 ep3) rfl rfl (rtI_c q) (by decide) sh_Mo rfl rfl rfl rfl d_Mo_two_120 ?_
      refine k_icmp_lt C 158 d_Mo_two_123 (by decide) (fun c4 => ?_) (fun c4 => ?_)
      · have h := (if_pos c4).symm.trans h
        exact k_sub [2, 3] rfl (t_Mo_two_158 C q v4 (b_Mo_two_85 n) ih p3.2 h)
      · have h := (if_neg c4).symm.trans h
        refine k_aload_n C d_Mo_two_126 2 rfl ?_
        refine k_iconst C 2 d_Mo_two_127 ic_2 ?_
        refine k_iload C d_Mo_two_128 0 rfl ?_
        refine k_iload C d_Mo_two_130 1 rfl ?_
        obtain ⟨p5, ep5, h⟩ := bd_some h
        refine k_callVi C q_Mo_263 (fun l => m_Mo_hasBy (cx_g C) l 2 (x_rem v4 2) (v4 / 2) p3.2 xx oo p5 ep5) rfl rfl (rtI_c q) (by decide) sh_Mo rfl rfl rfl rfl d_Mo_two_132 ?_
        refine k_aload_n C d_Mo_two_135 2 rfl ?_
        refine k_iconst C 2 d_Mo_two_136 ic_2 ?_
        refine k_iconst C 1 d_Mo_two_137 ic_1 ?_
        refine k_iload C d_Mo_two_138 0 rfl ?_
        refine k_isub C d_Mo_two_140 ?_
        refine k_iload C d_Mo_two_141 1 rfl ?_
        obtain ⟨p6, ep6, h⟩ := bd_some h
        refine k_callVi C q_Mo_263 (fun l => m_Mo_hasBy (cx_g C) l 2 (1 - (x_rem v4 2)) (v4 / 2) p5.2 xx oo p6 ep6) rfl rfl (rtI_c q) (by decide) sh_Mo rfl rfl rfl rfl d_Mo_two_143 ?_
        refine k_icmp_lt C 158 d_Mo_two_146 (by decide) (fun c7 => ?_) (fun c7 => ?_)
        · have h := (if_pos c7).symm.trans h
          exact k_sub [2, 3] rfl (t_Mo_two_158 C q v4 (b_Mo_two_85 n) ih p6.2 h)
        · have h := (if_neg c7).symm.trans h
          refine k_bipush C 10 d_Mo_two_149 bp_10 ?_
          refine k_iload C d_Mo_two_151 1 rfl ?_
          refine k_imul C d_Mo_two_153 ?_
          refine k_iload C d_Mo_two_154 0 rfl ?_
          refine k_iadd C d_Mo_two_156 ?_
          obtain rfl := Option.some.inj h
          exact k_iret C q d_Mo_two_157

def b_Mo_two_38 (v1 : Int32) (v2 : Int32) (v3 : Int32) : Nat → Int32 → MD → Option (Int32 × MD)
  | 0, _, _ => none
  | n + 1, v4, m => (if 2 ≤ v4 then b_Mo_two_85 fu 0 m else (f_Mo_waitedRide v1 v3 v4 m).bind fun p2 => (gI v4 4 (lt ((x_up p2.2.1 102 v4.toNatClampNeg p2.1, p2.2.2)) fun (m3 : MD) => (f_Mo_waitedRide v2 v3 v4 m3).bind fun p5 => (gI (2 + v4) 4 (lt ((x_up p5.2.1 102 (2 + v4).toNatClampNeg p5.1, p5.2.2)) fun (m6 : MD) => b_Mo_two_38 v1 v2 v3 n (v4 + 1) m6)))))
theorem t_Mo_two_38 {g : GC} {X : MX} (C : Cx g X c_Mo_two 7 n_Mo 7) {r : Int32 × MD} {xx : XD} {oo : Nat → Int64} (q : RtI g X (some .int) r.1 (xx, r.2, oo)) (v1 : Int32) (v2 : Int32) (v3 : Int32) : ∀ (n : Nat) (v4 : Int32) (m : MD) (h : b_Mo_two_38 v1 v2 v3 n v4 m = some r), Wk g X 7 38 [(0, .ref (g_a g 83)), (1, .int v1), (2, .int v2), (3, .int v3), (4, .int v4)] [] (xx, m, oo) := by
  intro n
  induction n with
  | zero =>
    intro v4 m h
    rw [b_Mo_two_38] at h
    cases h
  | succ n ih =>
    intro v4 m h
    rw [b_Mo_two_38] at h
    refine k_iload C d_Mo_two_38 4 rfl ?_
    refine k_iconst C 2 d_Mo_two_40 ic_2 ?_
    refine k_icmp_ge C 82 d_Mo_two_41 (by decide) (fun c1 => ?_) (fun c1 => ?_)
    · have h := (if_pos c1).symm.trans h
      refine k_iconst C 0 d_Mo_two_82 ic_0 ?_
      refine k_istore C (lv' := [(4, .int 0), (0, .ref (g_a g 83)), (1, .int v1), (2, .int v2), (3, .int v3)]) d_Mo_two_83 rfl rfl ?_
      exact k_sub [1, 0] rfl (t_Mo_two_85 C q fu 0 m h)
    · have h := (if_neg c1).symm.trans h
      refine k_aload_n C d_Mo_two_44 0 rfl ?_
      refine kg_Mo_65 C d_Mo_two_45 ?_
      refine k_iload C d_Mo_two_48 4 rfl ?_
      refine k_aload_n C d_Mo_two_50 0 rfl ?_
      refine k_iload_n C d_Mo_two_51 1 rfl ?_
      refine k_iload_n C d_Mo_two_52 3 rfl ?_
      refine k_iload C d_Mo_two_53 4 rfl ?_
      obtain ⟨p2, ep2, h⟩ := bd_some h
      refine k_callVi C q_Mo_259 (fun l => m_Mo_waitedRide (cx_g C) l v1 v3 v4 m xx oo p2 ep2) rfl rfl (rtI_c q) (by decide) sh_Mo rfl rfl rfl rfl d_Mo_two_55 ?_
      obtain ⟨i4, h⟩ := gI_some h
      obtain ⟨m3, em3, h⟩ := lt_some h
      refine k_iastM C (by decide) (by decide) i4 em3 d_Mo_two_58 ?_
      refine k_aload_n C d_Mo_two_59 0 rfl ?_
      refine kg_Mo_65 C d_Mo_two_60 ?_
      refine k_iconst C 2 d_Mo_two_63 ic_2 ?_
      refine k_iload C d_Mo_two_64 4 rfl ?_
      refine k_iadd C d_Mo_two_66 ?_
      refine k_aload_n C d_Mo_two_67 0 rfl ?_
      refine k_iload_n C d_Mo_two_68 2 rfl ?_
      refine k_iload_n C d_Mo_two_69 3 rfl ?_
      refine k_iload C d_Mo_two_70 4 rfl ?_
      obtain ⟨p5, ep5, h⟩ := bd_some h
      refine k_callVi C q_Mo_259 (fun l => m_Mo_waitedRide (cx_g C) l v2 v3 v4 m3 xx oo p5 ep5) rfl rfl (rtI_c q) (by decide) sh_Mo rfl rfl rfl rfl d_Mo_two_72 ?_
      obtain ⟨i7, h⟩ := gI_some h
      obtain ⟨m6, em6, h⟩ := lt_some h
      refine k_iastM C (by decide) (by decide) i7 em6 d_Mo_two_75 ?_
      refine k_inc C (lv' := [(4, .int (v4 + 1)), (0, .ref (g_a g 83)), (1, .int v1), (2, .int v2), (3, .int v3)]) d_Mo_two_76 4 rfl ic_1 rfl rfl ?_
      refine k_goto C 38 d_Mo_two_79 (by decide) ?_
      exact k_sub [1, 2, 3, 4, 0] rfl (ih (v4 + 1) m6 h)

def f_Mo_two (v1 : Int32) (v2 : Int32) (v3 : Int32) (m : MD) : Option (Int32 × MD) := lt ((x_up m.1 83 14 0, m.2)) fun (m1 : MD) => (f_Mo_isHorse v1 m1).bind fun p2 => ((if p2.1 = 0 then some ((-1), p2.2) else (f_Mo_isHorse v2 p2.2).bind fun p4 => ((if p4.1 = 0 then some ((-1), p4.2) else (if v1 = v2 then some ((-1), p4.2) else (f_Mo_isYard v3 p4.2).bind fun p7 => ((if p7.1 = 0 then some ((-1), p7.2) else b_Mo_two_38 v1 v2 v3 fu 0 p7.2)))))))
theorem m_Mo_two {g : GC} (hg : gOk g) (l : Launch)  (v1 : Int32) (v2 : Int32) (v3 : Int32) (m : MD) (xx : XD) (oo : Nat → Int64) (r : Int32 × MD) (h : f_Mo_two v1 v2 v3 m = some r) : Mi g l y_Mo_two c_Mo_two 7 (some .int) 7 [.ref (g_a g 83), .int v1, .int v2, .int v3] (xx, m, oo) r.1 (xx, r.2, oo) := by
  refine m_i hg pn_Mo rfl fun X q C => ?_
  refine k_sub (lv' := [(0, .ref (g_a g 83)), (1, .int v1), (2, .int v2), (3, .int v3)]) [0, 1, 2, 3] rfl ?_
  unfold f_Mo_two at h
  refine k_aload_n C d_Mo_two_0 0 rfl ?_
  refine k_iconst C 0 d_Mo_two_1 ic_0 ?_
  obtain ⟨m1, em1, h⟩ := lt_some h
  refine kp_Mo_71 C em1 d_Mo_two_2 ?_
  refine k_aload_n C d_Mo_two_5 0 rfl ?_
  refine k_iload_n C d_Mo_two_6 1 rfl ?_
  obtain ⟨p2, ep2, h⟩ := bd_some h
  refine k_callVi C q_Mo_162 (fun l => m_Mo_isHorse (cx_g C) l v1 m1 xx oo p2 ep2) rfl rfl (rtI_c q) (by decide) sh_Mo rfl rfl rfl rfl d_Mo_two_7 ?_
  refine k_if_eq C 33 d_Mo_two_10 (by decide) (fun c3 => ?_) (fun c3 => ?_)
  · have h := (if_pos c3).symm.trans h
    refine k_iconst C (-1) d_Mo_two_33 ic_m1 ?_
    obtain rfl := Option.some.inj h
    exact k_iret C q d_Mo_two_34
  · have h := (if_neg c3).symm.trans h
    refine k_aload_n C d_Mo_two_13 0 rfl ?_
    refine k_iload_n C d_Mo_two_14 2 rfl ?_
    obtain ⟨p4, ep4, h⟩ := bd_some h
    refine k_callVi C q_Mo_162 (fun l => m_Mo_isHorse (cx_g C) l v2 p2.2 xx oo p4 ep4) rfl rfl (rtI_c q) (by decide) sh_Mo rfl rfl rfl rfl d_Mo_two_15 ?_
    refine k_if_eq C 33 d_Mo_two_18 (by decide) (fun c5 => ?_) (fun c5 => ?_)
    · have h := (if_pos c5).symm.trans h
      refine k_iconst C (-1) d_Mo_two_33 ic_m1 ?_
      obtain rfl := Option.some.inj h
      exact k_iret C q d_Mo_two_34
    · have h := (if_neg c5).symm.trans h
      refine k_iload_n C d_Mo_two_21 1 rfl ?_
      refine k_iload_n C d_Mo_two_22 2 rfl ?_
      refine k_icmp_eq C 33 d_Mo_two_23 (by decide) (fun c6 => ?_) (fun c6 => ?_)
      · have h := (if_pos c6).symm.trans h
        refine k_iconst C (-1) d_Mo_two_33 ic_m1 ?_
        obtain rfl := Option.some.inj h
        exact k_iret C q d_Mo_two_34
      · have h := (if_neg c6).symm.trans h
        refine k_iload_n C d_Mo_two_26 3 rfl ?_
        obtain ⟨p7, ep7, h⟩ := bd_some h
        refine k_callSi C q_Mo_149 (fun l => m_Mo_isYard (cx_g C) l v3 p4.2 xx oo p7 ep7) rfl rfl (rtI_c q) rfl rfl rfl d_Mo_two_27 ?_
        refine k_if_ne C 35 d_Mo_two_30 (by decide) (fun c8 => ?_) (fun c8 => ?_)
        · have h := (if_neg c8).symm.trans h
          refine k_iconst C 0 d_Mo_two_35 ic_0 ?_
          refine k_istore C (lv' := [(4, .int 0), (0, .ref (g_a g 83)), (1, .int v1), (2, .int v2), (3, .int v3)]) d_Mo_two_36 rfl rfl ?_
          exact k_sub [1, 2, 3, 4, 0] rfl (t_Mo_two_38 C q v1 v2 v3 fu 0 p7.2 h)
        · have h := (if_pos c8).symm.trans h
          refine k_iconst C (-1) d_Mo_two_33 ic_m1 ?_
          obtain rfl := Option.some.inj h
          exact k_iret C q d_Mo_two_34

def b_Mo_chain_151 (K62 : Int32 → MD → Option (Int32 × MD)) (v1 : Int32) (v2 : Int32) (v3 : Int32) (v4 : Int32) (m : MD) : Option (Int32 × MD) := K62 (v4 + 1) m
theorem t_Mo_chain_151 {g : GC} {X : MX} (C : Cx g X c_Mo_chain 8 n_Mo 8) {r : Int32 × MD} {xx : XD} {oo : Nat → Int64} (q : RtI g X (some .int) r.1 (xx, r.2, oo)) (v1 : Int32) (v2 : Int32) (v3 : Int32) (v4 : Int32) (K62 : Int32 → MD → Option (Int32 × MD)) (hK62 : ∀ (v4 : Int32) (m : MD), K62 v4 m = some r → Wk g X 8 62 [(0, .ref (g_a g 83)), (1, .int v1), (2, .int v2), (3, .int v3), (4, .int v4)] [] (xx, m, oo)) (m : MD) (h : b_Mo_chain_151 K62 v1 v2 v3 v4 m = some r) : Wk g X 8 151 [(0, .ref (g_a g 83)), (1, .int v1), (2, .int v2), (3, .int v3), (4, .int v4)] [] (xx, m, oo) := by
  unfold b_Mo_chain_151 at h
  refine k_inc C (lv' := [(4, .int (v4 + 1)), (0, .ref (g_a g 83)), (1, .int v1), (2, .int v2), (3, .int v3)]) d_Mo_chain_151 4 rfl ic_1 rfl rfl ?_
  refine k_goto C 62 d_Mo_chain_154 (by decide) ?_
  exact k_sub [1, 2, 3, 4, 0] rfl (hK62 (v4 + 1) m h)

def b_Mo_chain_147 (K62 : Int32 → MD → Option (Int32 × MD)) (v1 : Int32) (v2 : Int32) (v3 : Int32) (v4 : Int32) (m : MD) : Option (Int32 × MD) := (f_Mo_close m).bind fun p1 => (b_Mo_chain_151 K62 v1 v2 v3 v4 p1.2)
theorem t_Mo_chain_147 {g : GC} {X : MX} (C : Cx g X c_Mo_chain 8 n_Mo 8) {r : Int32 × MD} {xx : XD} {oo : Nat → Int64} (q : RtI g X (some .int) r.1 (xx, r.2, oo)) (v1 : Int32) (v2 : Int32) (v3 : Int32) (v4 : Int32) (K62 : Int32 → MD → Option (Int32 × MD)) (hK62 : ∀ (v4 : Int32) (m : MD), K62 v4 m = some r → Wk g X 8 62 [(0, .ref (g_a g 83)), (1, .int v1), (2, .int v2), (3, .int v3), (4, .int v4)] [] (xx, m, oo)) (m : MD) (h : b_Mo_chain_147 K62 v1 v2 v3 v4 m = some r) : Wk g X 8 147 [(0, .ref (g_a g 83)), (1, .int v1), (2, .int v2), (3, .int v3), (4, .int v4)] [] (xx, m, oo) := by
  unfold b_Mo_chain_147 at h
  refine k_aload_n C d_Mo_chain_147 0 rfl ?_
  obtain ⟨p1, ep1, h⟩ := bd_some h
  refine k_callVv C q_Mo_183 (fun l => m_Mo_close (cx_g C) l m xx oo p1 ep1) rfl rfl (rtI_c q) (by decide) sh_Mo rfl rfl rfl rfl d_Mo_chain_148 ?_
  exact k_sub [0, 1, 2, 3, 4] rfl (t_Mo_chain_151 C q v1 v2 v3 v4 K62 hK62 p1.2 h)

def b_Mo_chain_62 (v1 : Int32) (v2 : Int32) (v3 : Int32) : Nat → Int32 → MD → Option (Int32 × MD)
  | 0, _, _ => none
  | n + 1, v4, m => (if 21 * (m.1 83 0) ≤ v4 then (if v3 = 0 then some (m.1 83 30, m) else some (m.1 83 31, m)) else gI (v4 / 21) 7 ((if m.1 87 (v4 / 21).toNatClampNeg = v1 then (if x_rem v4 21 = v1 then b_Mo_chain_151 (b_Mo_chain_62 v1 v2 v3 n) v1 v2 v3 v4 m else (f_Mo_open m).bind fun p6 => ((f_Mo_ride (v4 / 21) (x_rem v4 21) p6.2).bind fun p7 => ((if x_rem v4 21 = v2 then (f_Mo_takeChain p7.1 (v4 / 21) p7.2).bind fun p10 => (b_Mo_chain_147 (b_Mo_chain_62 v1 v2 v3 n) v1 v2 v3 v4 p10.2) else (f_Mo_secondRides (x_rem v4 21) v2 p7.1 (v4 / 21) p7.2).bind fun p9 => (b_Mo_chain_147 (b_Mo_chain_62 v1 v2 v3 n) v1 v2 v3 v4 p9.2))))) else b_Mo_chain_151 (b_Mo_chain_62 v1 v2 v3 n) v1 v2 v3 v4 m)))
theorem t_Mo_chain_62 {g : GC} {X : MX} (C : Cx g X c_Mo_chain 8 n_Mo 8) {r : Int32 × MD} {xx : XD} {oo : Nat → Int64} (q : RtI g X (some .int) r.1 (xx, r.2, oo)) (v1 : Int32) (v2 : Int32) (v3 : Int32) : ∀ (n : Nat) (v4 : Int32) (m : MD) (h : b_Mo_chain_62 v1 v2 v3 n v4 m = some r), Wk g X 8 62 [(0, .ref (g_a g 83)), (1, .int v1), (2, .int v2), (3, .int v3), (4, .int v4)] [] (xx, m, oo) := by
  intro n
  induction n with
  | zero =>
    intro v4 m h
    rw [b_Mo_chain_62] at h
    cases h
  | succ n ih =>
    intro v4 m h
    rw [b_Mo_chain_62] at h
    refine k_iload C d_Mo_chain_62 4 rfl ?_
    refine k_bipush C 21 d_Mo_chain_64 bp_21 ?_
    refine k_aload_n C d_Mo_chain_66 0 rfl ?_
    refine kg_Mo_81 C d_Mo_chain_67 ?_
    refine k_imul C d_Mo_chain_70 ?_
    refine k_icmp_ge C 157 d_Mo_chain_71 (by decide) (fun c1 => ?_) (fun c1 => ?_)
    · have h := (if_pos c1).symm.trans h
      refine k_iload_n C d_Mo_chain_157 3 rfl ?_
      refine k_if_ne C 168 d_Mo_chain_158 (by decide) (fun c2 => ?_) (fun c2 => ?_)
      · have h := (if_neg c2).symm.trans h
        refine k_aload_n C d_Mo_chain_168 0 rfl ?_
        refine kg_Mo_221 C d_Mo_chain_169 ?_
        obtain rfl := Option.some.inj h
        exact k_iret C q d_Mo_chain_172
      · have h := (if_pos c2).symm.trans h
        refine k_aload_n C d_Mo_chain_161 0 rfl ?_
        refine kg_Mo_218 C d_Mo_chain_162 ?_
        refine k_goto C 172 d_Mo_chain_165 (by decide) ?_
        obtain rfl := Option.some.inj h
        exact k_iret C q d_Mo_chain_172
    · have h := (if_neg c1).symm.trans h
      refine k_iload C d_Mo_chain_74 4 rfl ?_
      refine k_bipush C 21 d_Mo_chain_76 bp_21 ?_
      refine k_idiv C nz_21 d_Mo_chain_78 ?_
      refine k_istore C (lv' := [(5, .int (v4 / 21)), (0, .ref (g_a g 83)), (1, .int v1), (2, .int v2), (3, .int v3), (4, .int v4)]) d_Mo_chain_79 rfl rfl ?_
      refine k_iload C d_Mo_chain_81 5 rfl ?_
      refine k_bipush C 21 d_Mo_chain_83 bp_21 ?_
      refine k_irem C nz_21 d_Mo_chain_85 ?_
      refine k_istore C (lv' := [(6, .int (x_rem v4 21)), (5, .int (v4 / 21)), (0, .ref (g_a g 83)), (1, .int v1), (2, .int v2), (3, .int v3), (4, .int v4)]) d_Mo_chain_86 rfl rfl ?_
      refine k_aload_n C d_Mo_chain_88 2 rfl ?_
      refine kg_Mo_19 C d_Mo_chain_89 ?_
      refine k_iload C d_Mo_chain_92 1 rfl ?_
      obtain ⟨i3, h⟩ := gI_some h
      refine k_ialdM C (by decide) (by decide) i3 d_Mo_chain_94 ?_
      refine k_iload_n C d_Mo_chain_95 3 rfl ?_
      refine k_icmp_ne C 151 d_Mo_chain_96 (by decide) (fun c4 => ?_) (fun c4 => ?_)
      · have h := (if_neg c4).symm.trans h
        exact k_sub [2, 3, 4, 5, 6] rfl (t_Mo_chain_151 C q v1 v2 v3 v4 (b_Mo_chain_62 v1 v2 v3 n) ih m h)
      · have h := (if_pos c4).symm.trans h
        refine k_iload C d_Mo_chain_99 0 rfl ?_
        refine k_iload_n C d_Mo_chain_101 3 rfl ?_
        refine k_icmp_eq C 151 d_Mo_chain_102 (by decide) (fun c5 => ?_) (fun c5 => ?_)
        · have h := (if_pos c5).symm.trans h
          exact k_sub [2, 3, 4, 5, 6] rfl (t_Mo_chain_151 C q v1 v2 v3 v4 (b_Mo_chain_62 v1 v2 v3 n) ih m h)
        · have h := (if_neg c5).symm.trans h
          refine k_aload_n C d_Mo_chain_105 2 rfl ?_
          obtain ⟨p6, ep6, h⟩ := bd_some h
          refine k_callVv C q_Mo_177 (fun l => m_Mo_open (cx_g C) l m xx oo p6 ep6) rfl rfl (rtI_c q) (by decide) sh_Mo rfl rfl rfl rfl d_Mo_chain_106 ?_
          refine k_aload_n C d_Mo_chain_109 2 rfl ?_
          refine k_iload C d_Mo_chain_110 1 rfl ?_
          refine k_iload C d_Mo_chain_112 0 rfl ?_
          obtain ⟨p7, ep7, h⟩ := bd_some h
          refine k_callVi C q_Mo_165 (fun l => m_Mo_ride (cx_g C) l (v4 / 21) (x_rem v4 21) p6.2 xx oo p7 ep7) rfl rfl (rtI_c q) (by decide) sh_Mo rfl rfl rfl rfl d_Mo_chain_114 ?_
          refine k_istore C (lv' := [(7, .int p7.1), (6, .int (x_rem v4 21)), (5, .int (v4 / 21)), (0, .ref (g_a g 83)), (1, .int v1), (2, .int v2), (3, .int v3), (4, .int v4)]) d_Mo_chain_117 rfl rfl ?_
          refine k_iload C d_Mo_chain_119 1 rfl ?_
          refine k_iload_n C d_Mo_chain_121 5 rfl ?_
          refine k_icmp_ne C 136 d_Mo_chain_122 (by decide) (fun c8 => ?_) (fun c8 => ?_)
          · have h := (if_neg c8).symm.trans h
            refine k_aload_n C d_Mo_chain_136 3 rfl ?_
            refine k_iload C d_Mo_chain_137 1 rfl ?_
            refine k_iload_n C d_Mo_chain_139 5 rfl ?_
            refine k_iload C d_Mo_chain_140 0 rfl ?_
            refine k_iload C d_Mo_chain_142 2 rfl ?_
            obtain ⟨p9, ep9, h⟩ := bd_some h
            refine k_callVv C q_Mo_231 (fun l => m_Mo_secondRides (cx_g C) l (x_rem v4 21) v2 p7.1 (v4 / 21) p7.2 xx oo p9 ep9) rfl rfl (rtI_c q) (by decide) sh_Mo rfl rfl rfl rfl d_Mo_chain_144 ?_
            exact k_sub [3, 4, 5, 6, 7] rfl (t_Mo_chain_147 C q v1 v2 v3 v4 (b_Mo_chain_62 v1 v2 v3 n) ih p9.2 h)
          · have h := (if_pos c8).symm.trans h
            refine k_aload_n C d_Mo_chain_125 3 rfl ?_
            refine k_iload C d_Mo_chain_126 0 rfl ?_
            refine k_iload C d_Mo_chain_128 2 rfl ?_
            obtain ⟨p10, ep10, h⟩ := bd_some h
            refine k_callVv C q_Mo_224 (fun l => m_Mo_takeChain (cx_g C) l p7.1 (v4 / 21) p7.2 xx oo p10 ep10) rfl rfl (rtI_c q) (by decide) sh_Mo rfl rfl rfl rfl d_Mo_chain_130 ?_
            refine k_goto C 147 d_Mo_chain_133 (by decide) ?_
            exact k_sub [3, 4, 5, 6, 7] rfl (t_Mo_chain_147 C q v1 v2 v3 v4 (b_Mo_chain_62 v1 v2 v3 n) ih p10.2 h)

def f_Mo_chain (v1 : Int32) (v2 : Int32) (v3 : Int32) (m : MD) : Option (Int32 × MD) := lt ((x_up m.1 83 14 0, m.2)) fun (m1 : MD) => (f_Mo_isYard v1 m1).bind fun p2 => ((if p2.1 = 0 then some ((-1), p2.2) else (f_Mo_isYard v2 p2.2).bind fun p4 => ((if p4.1 = 0 then some ((-1), p4.2) else (f_Mo_in v3.toInt64 0 1 p4.2).bind fun p6 => ((if p6.1 = 0 then some ((-1), p6.2) else (if v1 = v2 then (if v3 = 0 then some (0, p6.2) else some ((-4), p6.2)) else lt ((x_up p6.2.1 83 30 (-4), p6.2.2)) fun (m9 : MD) => lt ((x_up m9.1 83 31 (-4), m9.2)) fun (m10 : MD) => b_Mo_chain_62 v1 v2 v3 fu 0 m10)))))))
theorem m_Mo_chain {g : GC} (hg : gOk g) (l : Launch)  (v1 : Int32) (v2 : Int32) (v3 : Int32) (m : MD) (xx : XD) (oo : Nat → Int64) (r : Int32 × MD) (h : f_Mo_chain v1 v2 v3 m = some r) : Mi g l y_Mo_chain c_Mo_chain 8 (some .int) 8 [.ref (g_a g 83), .int v1, .int v2, .int v3] (xx, m, oo) r.1 (xx, r.2, oo) := by
  refine m_i hg pn_Mo rfl fun X q C => ?_
  refine k_sub (lv' := [(0, .ref (g_a g 83)), (1, .int v1), (2, .int v2), (3, .int v3)]) [0, 1, 2, 3] rfl ?_
  unfold f_Mo_chain at h
  refine k_aload_n C d_Mo_chain_0 0 rfl ?_
  refine k_iconst C 0 d_Mo_chain_1 ic_0 ?_
  obtain ⟨m1, em1, h⟩ := lt_some h
  refine kp_Mo_71 C em1 d_Mo_chain_2 ?_
  refine k_iload_n C d_Mo_chain_5 1 rfl ?_
  obtain ⟨p2, ep2, h⟩ := bd_some h
  refine k_callSi C q_Mo_149 (fun l => m_Mo_isYard (cx_g C) l v1 m1 xx oo p2 ep2) rfl rfl (rtI_c q) rfl rfl rfl d_Mo_chain_6 ?_
  refine k_if_eq C 29 d_Mo_chain_9 (by decide) (fun c3 => ?_) (fun c3 => ?_)
  · have h := (if_pos c3).symm.trans h
    refine k_iconst C (-1) d_Mo_chain_29 ic_m1 ?_
    obtain rfl := Option.some.inj h
    exact k_iret C q d_Mo_chain_30
  · have h := (if_neg c3).symm.trans h
    refine k_iload_n C d_Mo_chain_12 2 rfl ?_
    obtain ⟨p4, ep4, h⟩ := bd_some h
    refine k_callSi C q_Mo_149 (fun l => m_Mo_isYard (cx_g C) l v2 p2.2 xx oo p4 ep4) rfl rfl (rtI_c q) rfl rfl rfl d_Mo_chain_13 ?_
    refine k_if_eq C 29 d_Mo_chain_16 (by decide) (fun c5 => ?_) (fun c5 => ?_)
    · have h := (if_pos c5).symm.trans h
      refine k_iconst C (-1) d_Mo_chain_29 ic_m1 ?_
      obtain rfl := Option.some.inj h
      exact k_iret C q d_Mo_chain_30
    · have h := (if_neg c5).symm.trans h
      refine k_iload_n C d_Mo_chain_19 3 rfl ?_
      refine k_i2l C d_Mo_chain_20 ?_
      refine k_lconst C 0 d_Mo_chain_21 rfl ?_
      refine k_lconst C 1 d_Mo_chain_22 rfl ?_
      obtain ⟨p6, ep6, h⟩ := bd_some h
      refine k_callSi C q_Mo_77 (fun l => m_Mo_in (cx_g C) l v3.toInt64 0 1 p4.2 xx oo p6 ep6) rfl rfl (rtI_c q) rfl rfl rfl d_Mo_chain_23 ?_
      refine k_if_ne C 31 d_Mo_chain_26 (by decide) (fun c7 => ?_) (fun c7 => ?_)
      · have h := (if_neg c7).symm.trans h
        refine k_iload_n C d_Mo_chain_31 1 rfl ?_
        refine k_iload_n C d_Mo_chain_32 2 rfl ?_
        refine k_icmp_ne C 47 d_Mo_chain_33 (by decide) (fun c8 => ?_) (fun c8 => ?_)
        · have h := (if_neg c8).symm.trans h
          refine k_aload_n C d_Mo_chain_47 0 rfl ?_
          refine k_bipush C (-4) d_Mo_chain_48 bp_m4 ?_
          obtain ⟨m9, em9, h⟩ := lt_some h
          refine kp_Mo_218 C em9 d_Mo_chain_50 ?_
          refine k_aload_n C d_Mo_chain_53 0 rfl ?_
          refine k_bipush C (-4) d_Mo_chain_54 bp_m4 ?_
          obtain ⟨m10, em10, h⟩ := lt_some h
          refine kp_Mo_221 C em10 d_Mo_chain_56 ?_
          refine k_iconst C 0 d_Mo_chain_59 ic_0 ?_
          refine k_istore C (lv' := [(4, .int 0), (0, .ref (g_a g 83)), (1, .int v1), (2, .int v2), (3, .int v3)]) d_Mo_chain_60 rfl rfl ?_
          exact k_sub [1, 2, 3, 4, 0] rfl (t_Mo_chain_62 C q v1 v2 v3 fu 0 m10 h)
        · have h := (if_pos c8).symm.trans h
          refine k_iload_n C d_Mo_chain_36 3 rfl ?_
          refine k_if_ne C 44 d_Mo_chain_37 (by decide) (fun c11 => ?_) (fun c11 => ?_)
          · have h := (if_neg c11).symm.trans h
            refine k_bipush C (-4) d_Mo_chain_44 bp_m4 ?_
            obtain rfl := Option.some.inj h
            exact k_iret C q d_Mo_chain_46
          · have h := (if_pos c11).symm.trans h
            refine k_iconst C 0 d_Mo_chain_40 ic_0 ?_
            refine k_goto C 46 d_Mo_chain_41 (by decide) ?_
            obtain rfl := Option.some.inj h
            exact k_iret C q d_Mo_chain_46
      · have h := (if_pos c7).symm.trans h
        refine k_iconst C (-1) d_Mo_chain_29 ic_m1 ?_
        obtain rfl := Option.some.inj h
        exact k_iret C q d_Mo_chain_30

def b_Mo_fees_84 (K49 : Int32 → Int32 → MD → Option (Int32 × MD)) (v2 : Int32) (v4 : Int32) (vt0 : Int32) (m : MD) : Option (Int32 × MD) := K49 vt0 (v4 + 1) m
theorem t_Mo_fees_84 {g : GC} {X : MX} (C : Cx g X c_Mo_fees 5 n_Mo 8) {r : Int32 × MD} {xx : XD} {oo : Nat → Int64} (q : RtI g X (some .int) r.1 (xx, r.2, oo)) (v2 : Int32) (v4 : Int32) (vt0 : Int32) (K49 : Int32 → Int32 → MD → Option (Int32 × MD)) (hK49 : ∀ (v3 : Int32) (v4 : Int32) (m : MD), K49 v3 v4 m = some r → Wk g X 5 49 [(0, .ref (g_a g 83)), (2, .int v2), (3, .int v3), (4, .int v4)] [] (xx, m, oo)) (m : MD) (h : b_Mo_fees_84 K49 v2 v4 vt0 m = some r) : Wk g X 5 84 [(0, .ref (g_a g 83)), (2, .int v2), (4, .int v4)] [.int vt0] (xx, m, oo) := by
  unfold b_Mo_fees_84 at h
  refine k_istore_n C (lv' := [(3, .int vt0), (0, .ref (g_a g 83)), (2, .int v2), (4, .int v4)]) d_Mo_fees_84 rfl rfl ?_
  refine k_inc C (lv' := [(4, .int (v4 + 1)), (3, .int vt0), (0, .ref (g_a g 83)), (2, .int v2)]) d_Mo_fees_85 3 rfl ic_1 rfl rfl ?_
  refine k_goto C 49 d_Mo_fees_88 (by decide) ?_
  exact k_sub [2, 3, 1, 0] rfl (hK49 vt0 (v4 + 1) m h)

def b_Mo_fees_78 (K49 : Int32 → Int32 → MD → Option (Int32 × MD)) (v2 : Int32) (v4 : Int32) (m : MD) : Option (Int32 × MD) := b_Mo_fees_84 K49 v2 v4 v4 m
theorem t_Mo_fees_78 {g : GC} {X : MX} (C : Cx g X c_Mo_fees 5 n_Mo 8) {r : Int32 × MD} {xx : XD} {oo : Nat → Int64} (q : RtI g X (some .int) r.1 (xx, r.2, oo)) (v2 : Int32) (v4 : Int32) (K49 : Int32 → Int32 → MD → Option (Int32 × MD)) (hK49 : ∀ (v3 : Int32) (v4 : Int32) (m : MD), K49 v3 v4 m = some r → Wk g X 5 49 [(0, .ref (g_a g 83)), (2, .int v2), (3, .int v3), (4, .int v4)] [] (xx, m, oo)) (m : MD) (h : b_Mo_fees_78 K49 v2 v4 m = some r) : Wk g X 5 78 [(0, .ref (g_a g 83)), (2, .int v2), (4, .int v4)] [] (xx, m, oo) := by
  unfold b_Mo_fees_78 at h
  refine k_iload C d_Mo_fees_78 2 rfl ?_
  refine k_goto C 84 d_Mo_fees_80 (by decide) ?_
  exact k_sub [0, 1, 2] rfl (t_Mo_fees_84 C q v2 v4 v4 K49 hK49 m h)

def b_Mo_fees_49 (v2 : Int32) : Nat → Int32 → Int32 → MD → Option (Int32 × MD)
  | 0, _, _, _ => none
  | n + 1, v3, v4, m => (if m.1 83 0 ≤ v4 then some (v3, m) else (if v3 < 0 then b_Mo_fees_78 (b_Mo_fees_49 v2 n) v2 v4 m else (f_Mo_feesOf v4 v2 m).bind fun p3 => ((f_Mo_feesOf v3 v2 p3.2).bind fun p4 => ((if p4.1 ≤ p3.1 then b_Mo_fees_84 (b_Mo_fees_49 v2 n) v2 v4 v3 p4.2 else b_Mo_fees_78 (b_Mo_fees_49 v2 n) v2 v4 p4.2)))))
theorem t_Mo_fees_49 {g : GC} {X : MX} (C : Cx g X c_Mo_fees 5 n_Mo 8) {r : Int32 × MD} {xx : XD} {oo : Nat → Int64} (q : RtI g X (some .int) r.1 (xx, r.2, oo)) (v2 : Int32) : ∀ (n : Nat) (v3 : Int32) (v4 : Int32) (m : MD) (h : b_Mo_fees_49 v2 n v3 v4 m = some r), Wk g X 5 49 [(0, .ref (g_a g 83)), (2, .int v2), (3, .int v3), (4, .int v4)] [] (xx, m, oo) := by
  intro n
  induction n with
  | zero =>
    intro v3 v4 m h
    rw [b_Mo_fees_49] at h
    cases h
  | succ n ih =>
    intro v3 v4 m h
    rw [b_Mo_fees_49] at h
    refine k_iload C d_Mo_fees_49 3 rfl ?_
    refine k_aload_n C d_Mo_fees_51 0 rfl ?_
    refine kg_Mo_81 C d_Mo_fees_52 ?_
    refine k_icmp_ge C 91 d_Mo_fees_55 (by decide) (fun c1 => ?_) (fun c1 => ?_)
    · have h := (if_pos c1).symm.trans h
      refine k_iload_n C d_Mo_fees_91 2 rfl ?_
      obtain rfl := Option.some.inj h
      exact k_iret C q d_Mo_fees_92
    · have h := (if_neg c1).symm.trans h
      refine k_iload_n C d_Mo_fees_58 2 rfl ?_
      refine k_if_lt C 78 d_Mo_fees_59 (by decide) (fun c2 => ?_) (fun c2 => ?_)
      · have h := (if_pos c2).symm.trans h
        exact k_sub [0, 1, 3] rfl (t_Mo_fees_78 C q v2 v4 (b_Mo_fees_49 v2 n) ih m h)
      · have h := (if_neg c2).symm.trans h
        refine k_aload_n C d_Mo_fees_62 0 rfl ?_
        refine k_iload C d_Mo_fees_63 3 rfl ?_
        refine k_iload_n C d_Mo_fees_65 1 rfl ?_
        obtain ⟨p3, ep3, h⟩ := bd_some h
        refine k_callVi C q_Mo_242 (fun l => m_Mo_feesOf (cx_g C) l v4 v2 m xx oo p3 ep3) rfl rfl (rtI_c q) (by decide) sh_Mo rfl rfl rfl rfl d_Mo_fees_66 ?_
        refine k_aload_n C d_Mo_fees_69 0 rfl ?_
        refine k_iload_n C d_Mo_fees_70 2 rfl ?_
        refine k_iload_n C d_Mo_fees_71 1 rfl ?_
        obtain ⟨p4, ep4, h⟩ := bd_some h
        refine k_callVi C q_Mo_242 (fun l => m_Mo_feesOf (cx_g C) l v3 v2 p3.2 xx oo p4 ep4) rfl rfl (rtI_c q) (by decide) sh_Mo rfl rfl rfl rfl d_Mo_fees_72 ?_
        refine k_icmp_ge C 83 d_Mo_fees_75 (by decide) (fun c5 => ?_) (fun c5 => ?_)
        · have h := (if_pos c5).symm.trans h
          refine k_iload_n C d_Mo_fees_83 2 rfl ?_
          exact k_sub [0, 1, 3] rfl (t_Mo_fees_84 C q v2 v4 v3 (b_Mo_fees_49 v2 n) ih p4.2 h)
        · have h := (if_neg c5).symm.trans h
          exact k_sub [0, 1, 3] rfl (t_Mo_fees_78 C q v2 v4 (b_Mo_fees_49 v2 n) ih p4.2 h)

def f_Mo_fees (v1 : Int32) (v2 : Int32) (m : MD) : Option (Int32 × MD) := lt ((x_up m.1 83 14 0, m.2)) fun (m1 : MD) => (f_Mo_in v1.toInt64 (-1) (((m1.1 83 0) - 1).toInt64) m1).bind fun p2 => ((if p2.1 = 0 then some ((-1), p2.2) else (f_Mo_isYard v2 p2.2).bind fun p4 => ((if p4.1 = 0 then some ((-1), p4.2) else (if v1 < 0 then b_Mo_fees_49 v2 fu (-4) 0 p4.2 else (f_Mo_feesOf v1 v2 p4.2).bind fun p7 => (some (p7.1, p7.2)))))))
theorem m_Mo_fees {g : GC} (hg : gOk g) (l : Launch)  (v1 : Int32) (v2 : Int32) (m : MD) (xx : XD) (oo : Nat → Int64) (r : Int32 × MD) (h : f_Mo_fees v1 v2 m = some r) : Mi g l y_Mo_fees c_Mo_fees 5 (some .int) 8 [.ref (g_a g 83), .int v1, .int v2] (xx, m, oo) r.1 (xx, r.2, oo) := by
  refine m_i hg pn_Mo rfl fun X q C => ?_
  refine k_sub (lv' := [(0, .ref (g_a g 83)), (1, .int v1), (2, .int v2)]) [0, 1, 2] rfl ?_
  unfold f_Mo_fees at h
  refine k_aload_n C d_Mo_fees_0 0 rfl ?_
  refine k_iconst C 0 d_Mo_fees_1 ic_0 ?_
  obtain ⟨m1, em1, h⟩ := lt_some h
  refine kp_Mo_71 C em1 d_Mo_fees_2 ?_
  refine k_iload_n C d_Mo_fees_5 1 rfl ?_
  refine k_i2l C d_Mo_fees_6 ?_
  refine k_ldc2 C (-1) l_1285 d_Mo_fees_7 ?_
  refine k_aload_n C d_Mo_fees_10 0 rfl ?_
  refine kg_Mo_81 C d_Mo_fees_11 ?_
  refine k_iconst C 1 d_Mo_fees_14 ic_1 ?_
  refine k_isub C d_Mo_fees_15 ?_
  refine k_i2l C d_Mo_fees_16 ?_
  obtain ⟨p2, ep2, h⟩ := bd_some h
  refine k_callSi C q_Mo_77 (fun l => m_Mo_in (cx_g C) l v1.toInt64 (-1) (((m1.1 83 0) - 1).toInt64) m1 xx oo p2 ep2) rfl rfl (rtI_c q) rfl rfl rfl d_Mo_fees_17 ?_
  refine k_if_eq C 30 d_Mo_fees_20 (by decide) (fun c3 => ?_) (fun c3 => ?_)
  · have h := (if_pos c3).symm.trans h
    refine k_iconst C (-1) d_Mo_fees_30 ic_m1 ?_
    obtain rfl := Option.some.inj h
    exact k_iret C q d_Mo_fees_31
  · have h := (if_neg c3).symm.trans h
    refine k_iload_n C d_Mo_fees_23 2 rfl ?_
    obtain ⟨p4, ep4, h⟩ := bd_some h
    refine k_callSi C q_Mo_149 (fun l => m_Mo_isYard (cx_g C) l v2 p2.2 xx oo p4 ep4) rfl rfl (rtI_c q) rfl rfl rfl d_Mo_fees_24 ?_
    refine k_if_ne C 32 d_Mo_fees_27 (by decide) (fun c5 => ?_) (fun c5 => ?_)
    · have h := (if_neg c5).symm.trans h
      refine k_iload_n C d_Mo_fees_32 1 rfl ?_
      refine k_if_lt C 43 d_Mo_fees_33 (by decide) (fun c6 => ?_) (fun c6 => ?_)
      · have h := (if_pos c6).symm.trans h
        refine k_bipush C (-4) d_Mo_fees_43 bp_m4 ?_
        refine k_istore_n C (lv' := [(3, .int (-4)), (0, .ref (g_a g 83)), (1, .int v1), (2, .int v2)]) d_Mo_fees_45 rfl rfl ?_
        refine k_iconst C 0 d_Mo_fees_46 ic_0 ?_
        refine k_istore C (lv' := [(4, .int 0), (3, .int (-4)), (0, .ref (g_a g 83)), (1, .int v1), (2, .int v2)]) d_Mo_fees_47 rfl rfl ?_
        exact k_sub [2, 4, 1, 0] rfl (t_Mo_fees_49 C q v2 fu (-4) 0 p4.2 h)
      · have h := (if_neg c6).symm.trans h
        refine k_aload_n C d_Mo_fees_36 0 rfl ?_
        refine k_iload_n C d_Mo_fees_37 1 rfl ?_
        refine k_iload_n C d_Mo_fees_38 2 rfl ?_
        obtain ⟨p7, ep7, h⟩ := bd_some h
        refine k_callVi C q_Mo_242 (fun l => m_Mo_feesOf (cx_g C) l v1 v2 p4.2 xx oo p7 ep7) rfl rfl (rtI_c q) (by decide) sh_Mo rfl rfl rfl rfl d_Mo_fees_39 ?_
        obtain rfl := Option.some.inj h
        exact k_iret C q d_Mo_fees_42
    · have h := (if_pos c5).symm.trans h
      refine k_iconst C (-1) d_Mo_fees_30 ic_m1 ?_
      obtain rfl := Option.some.inj h
      exact k_iret C q d_Mo_fees_31


def f_Hb_digitsBehind (v0 : Int32) (x : XD) : Option (Int32 × XD) := (if v0 = 100 then some (2, x) else (if v0 = 101 then some (0, x) else (if v0 = 102 then some (0, x) else (if v0 = 103 then some (0, x) else (if v0 = 104 then some (6, x) else (if v0 = 105 then some (0, x) else (if v0 = 106 then some (0, x) else (if v0 = 107 then some (0, x) else (if v0 = 108 then some (3, x) else (if v0 = 109 then some (0, x) else (if v0 = 110 then some (0, x) else (if v0 = 111 then some (2, x) else (if v0 = 112 then some (0, x) else (if v0 = 113 then some (0, x) else (if v0 = 114 then some (3, x) else (some (0, x)))))))))))))))))
theorem m_Hb_digitsBehind {g : GC} (hg : gOk g) (l : Launch)  (v0 : Int32) (x : XD) (z : ZD) (r : Int32 × XD) (h : f_Hb_digitsBehind v0 x = some r) : Mi g l y_Hb_digitsBehind c_Hb_digitsBehind 1 (some .int) 0 [.int v0] (x, z) r.1 (r.2, z) := by
  refine m_i hg pn_Hb rfl fun X q C => ?_
  refine k_sub (lv' := [(0, .int v0)]) [0] rfl ?_
  unfold f_Hb_digitsBehind at h
  refine k_iload_n C d_Hb_digitsBehind_0 0 rfl ?_
  by_cases c1 : v0 = 100
  · have h := (if_pos c1).symm.trans h
    refine k_tabin C (84) 85 d_Hb_digitsBehind_1 (by rw [c1]; decide) (by rw [c1]; decide) (by rw [c1]; decide) (by decide) ?_
    refine k_iconst C 2 d_Hb_digitsBehind_85 ic_2 ?_
    obtain rfl := Option.some.inj h
    exact k_iret C q d_Hb_digitsBehind_86
  have h := (if_neg c1).symm.trans h
  by_cases c2 : v0 = 101
  · have h := (if_pos c2).symm.trans h
    refine k_tabin C (86) 87 d_Hb_digitsBehind_1 (by rw [c2]; decide) (by rw [c2]; decide) (by rw [c2]; decide) (by decide) ?_
    refine k_iconst C 0 d_Hb_digitsBehind_87 ic_0 ?_
    obtain rfl := Option.some.inj h
    exact k_iret C q d_Hb_digitsBehind_88
  have h := (if_neg c2).symm.trans h
  by_cases c3 : v0 = 102
  · have h := (if_pos c3).symm.trans h
    refine k_tabin C (86) 87 d_Hb_digitsBehind_1 (by rw [c3]; decide) (by rw [c3]; decide) (by rw [c3]; decide) (by decide) ?_
    refine k_iconst C 0 d_Hb_digitsBehind_87 ic_0 ?_
    obtain rfl := Option.some.inj h
    exact k_iret C q d_Hb_digitsBehind_88
  have h := (if_neg c3).symm.trans h
  by_cases c4 : v0 = 103
  · have h := (if_pos c4).symm.trans h
    refine k_tabin C (86) 87 d_Hb_digitsBehind_1 (by rw [c4]; decide) (by rw [c4]; decide) (by rw [c4]; decide) (by decide) ?_
    refine k_iconst C 0 d_Hb_digitsBehind_87 ic_0 ?_
    obtain rfl := Option.some.inj h
    exact k_iret C q d_Hb_digitsBehind_88
  have h := (if_neg c4).symm.trans h
  by_cases c5 : v0 = 104
  · have h := (if_pos c5).symm.trans h
    refine k_tabin C (75) 76 d_Hb_digitsBehind_1 (by rw [c5]; decide) (by rw [c5]; decide) (by rw [c5]; decide) (by decide) ?_
    refine k_bipush C 6 d_Hb_digitsBehind_76 bp_6 ?_
    obtain rfl := Option.some.inj h
    exact k_iret C q d_Hb_digitsBehind_78
  have h := (if_neg c5).symm.trans h
  by_cases c6 : v0 = 105
  · have h := (if_pos c6).symm.trans h
    refine k_tabin C (86) 87 d_Hb_digitsBehind_1 (by rw [c6]; decide) (by rw [c6]; decide) (by rw [c6]; decide) (by decide) ?_
    refine k_iconst C 0 d_Hb_digitsBehind_87 ic_0 ?_
    obtain rfl := Option.some.inj h
    exact k_iret C q d_Hb_digitsBehind_88
  have h := (if_neg c6).symm.trans h
  by_cases c7 : v0 = 106
  · have h := (if_pos c7).symm.trans h
    refine k_tabin C (86) 87 d_Hb_digitsBehind_1 (by rw [c7]; decide) (by rw [c7]; decide) (by rw [c7]; decide) (by decide) ?_
    refine k_iconst C 0 d_Hb_digitsBehind_87 ic_0 ?_
    obtain rfl := Option.some.inj h
    exact k_iret C q d_Hb_digitsBehind_88
  have h := (if_neg c7).symm.trans h
  by_cases c8 : v0 = 107
  · have h := (if_pos c8).symm.trans h
    refine k_tabin C (86) 87 d_Hb_digitsBehind_1 (by rw [c8]; decide) (by rw [c8]; decide) (by rw [c8]; decide) (by decide) ?_
    refine k_iconst C 0 d_Hb_digitsBehind_87 ic_0 ?_
    obtain rfl := Option.some.inj h
    exact k_iret C q d_Hb_digitsBehind_88
  have h := (if_neg c8).symm.trans h
  by_cases c9 : v0 = 108
  · have h := (if_pos c9).symm.trans h
    refine k_tabin C (80) 81 d_Hb_digitsBehind_1 (by rw [c9]; decide) (by rw [c9]; decide) (by rw [c9]; decide) (by decide) ?_
    refine k_iconst C 3 d_Hb_digitsBehind_81 ic_3 ?_
    obtain rfl := Option.some.inj h
    exact k_iret C q d_Hb_digitsBehind_82
  have h := (if_neg c9).symm.trans h
  by_cases c10 : v0 = 109
  · have h := (if_pos c10).symm.trans h
    refine k_tabin C (86) 87 d_Hb_digitsBehind_1 (by rw [c10]; decide) (by rw [c10]; decide) (by rw [c10]; decide) (by decide) ?_
    refine k_iconst C 0 d_Hb_digitsBehind_87 ic_0 ?_
    obtain rfl := Option.some.inj h
    exact k_iret C q d_Hb_digitsBehind_88
  have h := (if_neg c10).symm.trans h
  by_cases c11 : v0 = 110
  · have h := (if_pos c11).symm.trans h
    refine k_tabin C (86) 87 d_Hb_digitsBehind_1 (by rw [c11]; decide) (by rw [c11]; decide) (by rw [c11]; decide) (by decide) ?_
    refine k_iconst C 0 d_Hb_digitsBehind_87 ic_0 ?_
    obtain rfl := Option.some.inj h
    exact k_iret C q d_Hb_digitsBehind_88
  have h := (if_neg c11).symm.trans h
  by_cases c12 : v0 = 111
  · have h := (if_pos c12).symm.trans h
    refine k_tabin C (82) 83 d_Hb_digitsBehind_1 (by rw [c12]; decide) (by rw [c12]; decide) (by rw [c12]; decide) (by decide) ?_
    refine k_iconst C 2 d_Hb_digitsBehind_83 ic_2 ?_
    obtain rfl := Option.some.inj h
    exact k_iret C q d_Hb_digitsBehind_84
  have h := (if_neg c12).symm.trans h
  by_cases c13 : v0 = 112
  · have h := (if_pos c13).symm.trans h
    refine k_tabin C (86) 87 d_Hb_digitsBehind_1 (by rw [c13]; decide) (by rw [c13]; decide) (by rw [c13]; decide) (by decide) ?_
    refine k_iconst C 0 d_Hb_digitsBehind_87 ic_0 ?_
    obtain rfl := Option.some.inj h
    exact k_iret C q d_Hb_digitsBehind_88
  have h := (if_neg c13).symm.trans h
  by_cases c14 : v0 = 113
  · have h := (if_pos c14).symm.trans h
    refine k_tabin C (86) 87 d_Hb_digitsBehind_1 (by rw [c14]; decide) (by rw [c14]; decide) (by rw [c14]; decide) (by decide) ?_
    refine k_iconst C 0 d_Hb_digitsBehind_87 ic_0 ?_
    obtain rfl := Option.some.inj h
    exact k_iret C q d_Hb_digitsBehind_88
  have h := (if_neg c14).symm.trans h
  by_cases c15 : v0 = 114
  · have h := (if_pos c15).symm.trans h
    refine k_tabin C (78) 79 d_Hb_digitsBehind_1 (by rw [c15]; decide) (by rw [c15]; decide) (by rw [c15]; decide) (by decide) ?_
    refine k_iconst C 3 d_Hb_digitsBehind_79 ic_3 ?_
    obtain rfl := Option.some.inj h
    exact k_iret C q d_Hb_digitsBehind_80
  have h := (if_neg c15).symm.trans h
  have ac1 : ¬ v0.toInt = 100 := nti c1
  have ac2 : ¬ v0.toInt = 101 := nti c2
  have ac3 : ¬ v0.toInt = 102 := nti c3
  have ac4 : ¬ v0.toInt = 103 := nti c4
  have ac5 : ¬ v0.toInt = 104 := nti c5
  have ac6 : ¬ v0.toInt = 105 := nti c6
  have ac7 : ¬ v0.toInt = 106 := nti c7
  have ac8 : ¬ v0.toInt = 107 := nti c8
  have ac9 : ¬ v0.toInt = 108 := nti c9
  have ac10 : ¬ v0.toInt = 109 := nti c10
  have ac11 : ¬ v0.toInt = 110 := nti c11
  have ac12 : ¬ v0.toInt = 111 := nti c12
  have ac13 : ¬ v0.toInt = 112 := nti c13
  have ac14 : ¬ v0.toInt = 113 := nti c14
  have ac15 : ¬ v0.toInt = 114 := nti c15
  refine k_tabout C 87 d_Hb_digitsBehind_1 (by omega) (by decide) ?_
  refine k_iconst C 0 d_Hb_digitsBehind_87 ic_0 ?_
  obtain rfl := Option.some.inj h
  exact k_iret C q d_Hb_digitsBehind_88

def f_Hb_gain (v0 : Int32) (v1 : Int32) (v2 : Int32) (x : XD) : Option (Int32 × XD) := (if v1 ≤ v0 then some (0 + v2, x) else some (3 + v2, x))
theorem m_Hb_gain {g : GC} (hg : gOk g) (l : Launch)  (v0 : Int32) (v1 : Int32) (v2 : Int32) (x : XD) (z : ZD) (r : Int32 × XD) (h : f_Hb_gain v0 v1 v2 x = some r) : Mi g l y_Hb_gain c_Hb_gain 3 (some .int) 0 [.int v0, .int v1, .int v2] (x, z) r.1 (r.2, z) := by
  refine m_i hg pn_Hb rfl fun X q C => ?_
  refine k_sub (lv' := [(0, .int v0), (1, .int v1), (2, .int v2)]) [0, 1, 2] rfl ?_
  unfold f_Hb_gain at h
  refine k_iload_n C d_Hb_gain_0 0 rfl ?_
  refine k_iload_n C d_Hb_gain_1 1 rfl ?_
  refine k_icmp_ge C 9 d_Hb_gain_2 (by decide) (fun c1 => ?_) (fun c1 => ?_)
  · have h := (if_pos c1).symm.trans h
    refine k_iconst C 0 d_Hb_gain_9 ic_0 ?_
    refine k_iload_n C d_Hb_gain_10 2 rfl ?_
    refine k_iadd C d_Hb_gain_11 ?_
    obtain rfl := Option.some.inj h
    exact k_iret C q d_Hb_gain_12
  · have h := (if_neg c1).symm.trans h
    refine k_iconst C 3 d_Hb_gain_5 ic_3 ?_
    refine k_goto C 10 d_Hb_gain_6 (by decide) ?_
    refine k_iload_n C d_Hb_gain_10 2 rfl ?_
    refine k_iadd C d_Hb_gain_11 ?_
    obtain rfl := Option.some.inj h
    exact k_iret C q d_Hb_gain_12

def b_Hb_isEither_9 (x : XD) : Option (Int32 × XD) := some (1, x)
theorem t_Hb_isEither_9 {g : GC} {X : MX} (C : Cx g X c_Hb_isEither 1 n_Hb 0) {r : Int32 × XD} {z : ZD} (q : RtI g X (some .boolean) r.1 (r.2, z)) (x : XD) (h : b_Hb_isEither_9 x = some r) : Wk g X 1 9 [] [] (x, z) := by
  unfold b_Hb_isEither_9 at h
  refine k_iconst C 1 d_Hb_isEither_9 ic_1 ?_
  refine k_goto C 14 d_Hb_isEither_10 (by decide) ?_
  obtain rfl := Option.some.inj h
  exact k_zret C q (Or.inr rfl) d_Hb_isEither_14

def f_Hb_isEither (v0 : Int32) (x : XD) : Option (Int32 × XD) := (if v0 = 0 then b_Hb_isEither_9 x else (if v0 = 1 then b_Hb_isEither_9 x else some (0, x)))
theorem m_Hb_isEither {g : GC} (hg : gOk g) (l : Launch)  (v0 : Int32) (x : XD) (z : ZD) (r : Int32 × XD) (h : f_Hb_isEither v0 x = some r) : Mi g l y_Hb_isEither c_Hb_isEither 1 (some .boolean) 0 [.int v0] (x, z) r.1 (r.2, z) := by
  refine m_i hg pn_Hb rfl fun X q C => ?_
  refine k_sub (lv' := [(0, .int v0)]) [0] rfl ?_
  unfold f_Hb_isEither at h
  refine k_iload_n C d_Hb_isEither_0 0 rfl ?_
  refine k_if_eq C 9 d_Hb_isEither_1 (by decide) (fun c1 => ?_) (fun c1 => ?_)
  · have h := (if_pos c1).symm.trans h
    exact k_sub [] rfl (t_Hb_isEither_9 C q x h)
  · have h := (if_neg c1).symm.trans h
    refine k_iload_n C d_Hb_isEither_4 0 rfl ?_
    refine k_iconst C 1 d_Hb_isEither_5 ic_1 ?_
    refine k_icmp_ne C 13 d_Hb_isEither_6 (by decide) (fun c2 => ?_) (fun c2 => ?_)
    · have h := (if_neg c2).symm.trans h
      refine k_iconst C 0 d_Hb_isEither_13 ic_0 ?_
      obtain rfl := Option.some.inj h
      exact k_zret C q (Or.inl rfl) d_Hb_isEither_14
    · have h := (if_pos c2).symm.trans h
      exact k_sub [] rfl (t_Hb_isEither_9 C q x h)

def b_Hb_partOf_45 (v0 : Int64) (v2 : Int64) (v4 : Int32) (v5 : Int64) (x : XD) : Option (Int64 × XD) := (if lg_cmp v5 0 = 0 then some (0, x) else (if v4 = 0 then if v5 = 0 then none else some (v0 / v5, x) else if v5 = 0 then none else some (v2 / v5, x)))
theorem t_Hb_partOf_45 {g : GC} {X : MX} (C : Cx g X c_Hb_partOf 12 n_Hb 0) {r : Int64 × XD} {z : ZD} (q : RtL g X (some .long) r.1 (r.2, z)) (v0 : Int64) (v2 : Int64) (v4 : Int32) (v5 : Int64) (x : XD) (h : b_Hb_partOf_45 v0 v2 v4 v5 x = some r) : Wk g X 12 45 [(0, .long v0), (2, .long v2), (4, .int v4), (5, .long v5)] [] (x, z) := by
  unfold b_Hb_partOf_45 at h
  refine k_lload C d_Hb_partOf_45 3 rfl ?_
  refine k_lconst C 0 d_Hb_partOf_47 rfl ?_
  refine k_lcmp C d_Hb_partOf_48 ?_
  refine k_if_ne C 54 d_Hb_partOf_49 (by decide) (fun c1 => ?_) (fun c1 => ?_)
  · have h := (if_neg c1).symm.trans h
    refine k_iload C d_Hb_partOf_54 2 rfl ?_
    refine k_if_ne C 66 d_Hb_partOf_56 (by decide) (fun c2 => ?_) (fun c2 => ?_)
    · have h := (if_neg c2).symm.trans h
      refine k_lload_n C d_Hb_partOf_66 1 rfl ?_
      refine k_lload C d_Hb_partOf_67 3 rfl ?_
      by_cases c3 : v5 = 0
      · rw [if_pos c3] at h; cases h
      have h := (if_neg c3).symm.trans h
      refine k_ldiv C c3 d_Hb_partOf_69 ?_
      obtain rfl := Option.some.inj h
      exact k_lret C q d_Hb_partOf_70
    · have h := (if_pos c2).symm.trans h
      refine k_lload_n C d_Hb_partOf_59 0 rfl ?_
      refine k_lload C d_Hb_partOf_60 3 rfl ?_
      by_cases c4 : v5 = 0
      · rw [if_pos c4] at h; cases h
      have h := (if_neg c4).symm.trans h
      refine k_ldiv C c4 d_Hb_partOf_62 ?_
      refine k_goto C 70 d_Hb_partOf_63 (by decide) ?_
      obtain rfl := Option.some.inj h
      exact k_lret C q d_Hb_partOf_70
  · have h := (if_pos c1).symm.trans h
    refine k_lconst C 0 d_Hb_partOf_52 rfl ?_
    obtain rfl := Option.some.inj h
    exact k_lret C q d_Hb_partOf_53

def b_Hb_partOf_9 (v0 : Int64) (v2 : Int64) (v4 : Int32) : Nat → Int64 → Int64 → Int32 → XD → Option (Int64 × XD)
  | 0, _, _, _, _ => none
  | n + 1, v5, v7, v9, x => (if 130 ≤ v9 then b_Hb_partOf_45 v0 v2 v4 v5 x else (if lg_cmp v7 0 = 0 then b_Hb_partOf_45 v0 v2 v4 v5 x else if v7 = 0 then none else b_Hb_partOf_9 v0 v2 v4 n v7 (l_rem v5 v7) (v9 + 1) x))
theorem t_Hb_partOf_9 {g : GC} {X : MX} (C : Cx g X c_Hb_partOf 12 n_Hb 0) {r : Int64 × XD} {z : ZD} (q : RtL g X (some .long) r.1 (r.2, z)) (v0 : Int64) (v2 : Int64) (v4 : Int32) : ∀ (n : Nat) (v5 : Int64) (v7 : Int64) (v9 : Int32) (x : XD) (h : b_Hb_partOf_9 v0 v2 v4 n v5 v7 v9 x = some r), Wk g X 12 9 [(0, .long v0), (2, .long v2), (4, .int v4), (5, .long v5), (7, .long v7), (9, .int v9)] [] (x, z) := by
  intro n
  induction n with
  | zero =>
    intro v5 v7 v9 x h
    rw [b_Hb_partOf_9] at h
    cases h
  | succ n ih =>
    intro v5 v7 v9 x h
    rw [b_Hb_partOf_9] at h
    refine k_iload C d_Hb_partOf_9 5 rfl ?_
    refine k_sipush C 130 d_Hb_partOf_11 sp_130 ?_
    refine k_icmp_ge C 45 d_Hb_partOf_14 (by decide) (fun c1 => ?_) (fun c1 => ?_)
    · have h := (if_pos c1).symm.trans h
      exact k_sub [0, 1, 2, 3] rfl (t_Hb_partOf_45 C q v0 v2 v4 v5 x h)
    · have h := (if_neg c1).symm.trans h
      refine k_lload C d_Hb_partOf_17 4 rfl ?_
      refine k_lconst C 0 d_Hb_partOf_19 rfl ?_
      refine k_lcmp C d_Hb_partOf_20 ?_
      refine k_if_eq C 45 d_Hb_partOf_21 (by decide) (fun c2 => ?_) (fun c2 => ?_)
      · have h := (if_pos c2).symm.trans h
        exact k_sub [0, 1, 2, 3] rfl (t_Hb_partOf_45 C q v0 v2 v4 v5 x h)
      · have h := (if_neg c2).symm.trans h
        refine k_lload C d_Hb_partOf_24 3 rfl ?_
        refine k_lload C d_Hb_partOf_26 4 rfl ?_
        by_cases c3 : v7 = 0
        · rw [if_pos c3] at h; cases h
        have h := (if_neg c3).symm.trans h
        refine k_lrem C c3 d_Hb_partOf_28 ?_
        refine k_lstore C (lv' := [(10, .long (l_rem v5 v7)), (0, .long v0), (2, .long v2), (4, .int v4), (5, .long v5), (7, .long v7), (9, .int v9)]) d_Hb_partOf_29 rfl rfl ?_
        refine k_lload C d_Hb_partOf_31 5 rfl ?_
        refine k_lstore C (lv' := [(5, .long v7), (10, .long (l_rem v5 v7)), (0, .long v0), (2, .long v2), (4, .int v4), (7, .long v7), (9, .int v9)]) d_Hb_partOf_33 rfl rfl ?_
        refine k_lload C d_Hb_partOf_35 1 rfl ?_
        refine k_lstore C (lv' := [(7, .long (l_rem v5 v7)), (5, .long v7), (10, .long (l_rem v5 v7)), (0, .long v0), (2, .long v2), (4, .int v4), (9, .int v9)]) d_Hb_partOf_37 rfl rfl ?_
        refine k_inc C (lv' := [(9, .int (v9 + 1)), (7, .long (l_rem v5 v7)), (5, .long v7), (10, .long (l_rem v5 v7)), (0, .long v0), (2, .long v2), (4, .int v4)]) d_Hb_partOf_39 6 rfl ic_1 rfl rfl ?_
        refine k_goto C 9 d_Hb_partOf_42 (by decide) ?_
        exact k_sub [4, 5, 6, 2, 1, 0] rfl (ih v7 (l_rem v5 v7) (v9 + 1) x h)

def f_Hb_partOf (v0 : Int64) (v2 : Int64) (v4 : Int32) (x : XD) : Option (Int64 × XD) := b_Hb_partOf_9 v0 v2 v4 fu v2 v0 0 x
theorem m_Hb_partOf {g : GC} (hg : gOk g) (l : Launch)  (v0 : Int64) (v2 : Int64) (v4 : Int32) (x : XD) (z : ZD) (r : Int64 × XD) (h : f_Hb_partOf v0 v2 v4 x = some r) : Ml g l y_Hb_partOf c_Hb_partOf 12 (some .long) 0 [.long v0, .long v2, .int v4] (x, z) r.1 (r.2, z) := by
  refine m_l hg pn_Hb rfl fun X q C => ?_
  refine k_sub (lv' := [(0, .long v0), (2, .long v2), (4, .int v4)]) [0, 1, 2] rfl ?_
  unfold f_Hb_partOf at h
  refine k_lload_n C d_Hb_partOf_0 1 rfl ?_
  refine k_lstore C (lv' := [(5, .long v2), (0, .long v0), (2, .long v2), (4, .int v4)]) d_Hb_partOf_1 rfl rfl ?_
  refine k_lload_n C d_Hb_partOf_3 1 rfl ?_
  refine k_lstore C (lv' := [(7, .long v0), (5, .long v2), (0, .long v0), (2, .long v2), (4, .int v4)]) d_Hb_partOf_4 rfl rfl ?_
  refine k_iconst C 0 d_Hb_partOf_6 ic_0 ?_
  refine k_istore C (lv' := [(9, .int 0), (7, .long v0), (5, .long v2), (0, .long v0), (2, .long v2), (4, .int v4)]) d_Hb_partOf_7 rfl rfl ?_
  exact k_sub [3, 4, 5, 2, 1, 0] rfl (t_Hb_partOf_9 C q v0 v2 v4 fu v2 v0 0 x h)

def f_Hb_isHorse (v1 : Int32) (x : XD) : Option (Int32 × XD) := (f_Hb_isWithin v1 0 ((x 10 2) - 1) x).bind fun p1 => (gB p1.1 (some (p1.1, p1.2)))
theorem m_Hb_isHorse {g : GC} (hg : gOk g) (l : Launch)  (v1 : Int32) (x : XD) (z : ZD) (r : Int32 × XD) (h : f_Hb_isHorse v1 x = some r) : Mi g l y_Hb_isHorse c_Hb_isHorse 2 (some .boolean) 1 [.ref (g_a g 0), .int v1] (x, z) r.1 (r.2, z) := by
  refine m_i hg pn_Hb rfl fun X q C => ?_
  refine k_sub (lv' := [(0, .ref (g_a g 0)), (1, .int v1)]) [0, 1] rfl ?_
  unfold f_Hb_isHorse at h
  refine k_iload_n C d_Hb_isHorse_0 1 rfl ?_
  refine k_iconst C 0 d_Hb_isHorse_1 ic_0 ?_
  refine k_aload_n C d_Hb_isHorse_2 0 rfl ?_
  refine kg_Hb_42 C d_Hb_isHorse_3 ?_
  refine kg_Hb_149 C (by decide) d_Hb_isHorse_6 ?_
  refine k_iconst C 1 d_Hb_isHorse_9 ic_1 ?_
  refine k_isub C d_Hb_isHorse_10 ?_
  obtain ⟨p1, ep1, h⟩ := bd_some h
  refine k_callSi C q_Hb_169 (fun l => m_Hb_isWithin (cx_g C) l v1 0 ((x 10 2) - 1) x z p1 ep1) rfl rfl (rtI_c q) rfl rfl rfl d_Hb_isHorse_11 ?_
  obtain ⟨i2, h⟩ := gB_some h
  obtain rfl := Option.some.inj h
  exact k_zret C q i2 d_Hb_isHorse_14

def f_Hb_isShelf (v0 : Int32) (x : XD) : Option (Int32 × XD) := (f_Hb_isWithin v0 0 7 x).bind fun p1 => (gB p1.1 (some (p1.1, p1.2)))
theorem m_Hb_isShelf {g : GC} (hg : gOk g) (l : Launch)  (v0 : Int32) (x : XD) (z : ZD) (r : Int32 × XD) (h : f_Hb_isShelf v0 x = some r) : Mi g l y_Hb_isShelf c_Hb_isShelf 1 (some .boolean) 1 [.int v0] (x, z) r.1 (r.2, z) := by
  refine m_i hg pn_Hb rfl fun X q C => ?_
  refine k_sub (lv' := [(0, .int v0)]) [0] rfl ?_
  unfold f_Hb_isShelf at h
  refine k_iload_n C d_Hb_isShelf_0 0 rfl ?_
  refine k_iconst C 0 d_Hb_isShelf_1 ic_0 ?_
  refine k_bipush C 7 d_Hb_isShelf_2 bp_7 ?_
  obtain ⟨p1, ep1, h⟩ := bd_some h
  refine k_callSi C q_Hb_169 (fun l => m_Hb_isWithin (cx_g C) l v0 0 7 x z p1 ep1) rfl rfl (rtI_c q) rfl rfl rfl d_Hb_isShelf_4 ?_
  obtain ⟨i2, h⟩ := gB_some h
  obtain rfl := Option.some.inj h
  exact k_zret C q i2 d_Hb_isShelf_7

def f_Hb_mean (v1 : Int32) (x : XD) : Option (Int64 × XD) := (f_Hb_isEither v1 x).bind fun p1 => ((if p1.1 = 0 then some (1000000001, p1.2) else (f_La_allLonging 10 p1.2).bind fun p3 => ((f_Hb_partOf p3.1.toInt64 ((x_max 1 (p3.2 10 2)).toInt64) v1 p3.2).bind fun p4 => (some (p4.1, p4.2)))))
theorem m_Hb_mean {g : GC} (hg : gOk g) (l : Launch)  (v1 : Int32) (x : XD) (z : ZD) (r : Int64 × XD) (h : f_Hb_mean v1 x = some r) : Ml g l y_Hb_mean c_Hb_mean 2 (some .long) 1 [.ref (g_a g 0), .int v1] (x, z) r.1 (r.2, z) := by
  refine m_l hg pn_Hb rfl fun X q C => ?_
  refine k_sub (lv' := [(0, .ref (g_a g 0)), (1, .int v1)]) [0, 1] rfl ?_
  unfold f_Hb_mean at h
  refine k_iload_n C d_Hb_mean_0 1 rfl ?_
  obtain ⟨p1, ep1, h⟩ := bd_some h
  refine k_callSi C q_Hb_180 (fun l => m_Hb_isEither (cx_g C) l v1 x z p1 ep1) rfl rfl (rtL_c q) rfl rfl rfl d_Hb_mean_1 ?_
  refine k_if_ne C 11 d_Hb_mean_4 (by decide) (fun c2 => ?_) (fun c2 => ?_)
  · have h := (if_neg c2).symm.trans h
    refine k_aload_n C d_Hb_mean_11 0 rfl ?_
    refine kg_Hb_42 C d_Hb_mean_12 ?_
    obtain ⟨p3, ep3, h⟩ := bd_some h
    refine k_callVi C q_Hb_177 (fun l => m_La_allLonging (cx_g C) l 10 (by decide) p1.2 z p3 ep3) rfl rfl (rtL_c q) (by decide) (sh_La (by decide)) rfl rfl rfl rfl d_Hb_mean_15 ?_
    refine k_i2l C d_Hb_mean_18 ?_
    refine k_iconst C 1 d_Hb_mean_19 ic_1 ?_
    refine k_aload_n C d_Hb_mean_20 0 rfl ?_
    refine kg_Hb_42 C d_Hb_mean_21 ?_
    refine kg_Hb_149 C (by decide) d_Hb_mean_24 ?_
    refine k_mmax C l_728 l_729 l_65 l_730 rfl rfl (rtL_c q) d_Hb_mean_27 ?_
    refine k_i2l C d_Hb_mean_30 ?_
    refine k_iload_n C d_Hb_mean_31 1 rfl ?_
    obtain ⟨p4, ep4, h⟩ := bd_some h
    refine k_callSl C q_Hb_232 (fun l => m_Hb_partOf (cx_g C) l p3.1.toInt64 ((x_max 1 (p3.2 10 2)).toInt64) v1 p3.2 z p4 ep4) rfl rfl (rtL_c q) rfl rfl rfl d_Hb_mean_32 ?_
    obtain rfl := Option.some.inj h
    exact k_lret C q d_Hb_mean_35
  · have h := (if_pos c2).symm.trans h
    refine k_ldc2 C 1000000001 l_720 d_Hb_mean_7 ?_
    obtain rfl := Option.some.inj h
    exact k_lret C q d_Hb_mean_10

def b_Hb_placeOfLack_38 (K2 : Int32 → XD → Option (Int32 × XD)) (o0 : Nat) (v3 : Int32) : Nat → Int32 → XD → Option (Int32 × XD)
  | 0, _, _ => none
  | n + 1, v1, x => (if v3 ≤ v1 then (f_Sh_hasPlaces o0 v1 1 x).bind fun p2 => ((if p2.1 = 0 then some (v1, p2.2) else gI v1 100 ((if p2.2 (o0 + 8) v1.toNatClampNeg = 59 then (if v1 + 1 < p2.2 o0 4 then K2 (v1 + 1) p2.2 else some ((-1), p2.2)) else some (v1, p2.2))))) else (f_Sh_hasPlaces o0 v1 1 x).bind fun p7 => ((if p7.1 = 0 then some (v1, p7.2) else gI v1 100 ((f_Hb_isWithin (p7.2 (o0 + 8) v1.toNatClampNeg) 48 57 p7.2).bind fun p10 => ((if p10.1 = 0 then some (v1, p10.2) else b_Hb_placeOfLack_38 K2 o0 v3 n (v1 + 1) p10.2))))))
theorem t_Hb_placeOfLack_38 {g : GC} {X : MX} (C : Cx g X c_Hb_placeOfLack 4 n_Hb 1) {r : Int32 × XD} {z : ZD} (q : RtI g X (some .int) r.1 (r.2, z)) (o0 : Nat) (h_o0 : 67 ≤ o0 ∧ o0 < 75) (v3 : Int32) (K2 : Int32 → XD → Option (Int32 × XD)) (hK2 : ∀ (v1 : Int32) (x : XD), K2 v1 x = some r → Wk g X 4 2 [(0, .ref (g_a g o0)), (1, .int v1)] [] (x, z)) : ∀ (n : Nat) (v1 : Int32) (x : XD) (h : b_Hb_placeOfLack_38 K2 o0 v3 n v1 x = some r), Wk g X 4 38 [(0, .ref (g_a g o0)), (1, .int v1), (3, .int v3)] [] (x, z) := by
  intro n
  induction n with
  | zero =>
    intro v1 x h
    rw [b_Hb_placeOfLack_38] at h
    cases h
  | succ n ih =>
    intro v1 x h
    rw [b_Hb_placeOfLack_38] at h
    refine k_iload_n C d_Hb_placeOfLack_38 1 rfl ?_
    refine k_iload_n C d_Hb_placeOfLack_39 2 rfl ?_
    refine k_icmp_ge C 76 d_Hb_placeOfLack_40 (by decide) (fun c1 => ?_) (fun c1 => ?_)
    · have h := (if_pos c1).symm.trans h
      refine k_aload_n C d_Hb_placeOfLack_76 0 rfl ?_
      refine k_iload_n C d_Hb_placeOfLack_77 1 rfl ?_
      refine k_iconst C 1 d_Hb_placeOfLack_78 ic_1 ?_
      obtain ⟨p2, ep2, h⟩ := bd_some h
      refine k_callVi C q_Hb_282 (fun l => m_Sh_hasPlaces (cx_g C) l o0 h_o0 v1 1 x z p2 ep2) rfl rfl (rtI_c q) (lt105 h_o0 rfl) (sh_Sh h_o0) rfl rfl rfl rfl d_Hb_placeOfLack_79 ?_
      refine k_if_eq C 96 d_Hb_placeOfLack_82 (by decide) (fun c3 => ?_) (fun c3 => ?_)
      · have h := (if_pos c3).symm.trans h
        refine k_iload_n C d_Hb_placeOfLack_96 1 rfl ?_
        obtain rfl := Option.some.inj h
        exact k_iret C q d_Hb_placeOfLack_97
      · have h := (if_neg c3).symm.trans h
        refine k_aload_n C d_Hb_placeOfLack_85 0 rfl ?_
        refine kg_Hb_96 C h_o0 d_Hb_placeOfLack_86 ?_
        refine k_iload_n C d_Hb_placeOfLack_89 1 rfl ?_
        obtain ⟨i4, h⟩ := gI_some h
        refine k_ialdE C h_o0 i4 d_Hb_placeOfLack_90 ?_
        refine k_bipush C 59 d_Hb_placeOfLack_91 bp_59 ?_
        refine k_icmp_eq C 98 d_Hb_placeOfLack_93 (by decide) (fun c5 => ?_) (fun c5 => ?_)
        · have h := (if_pos c5).symm.trans h
          refine k_inc C (lv' := [(1, .int (v1 + 1)), (0, .ref (g_a g o0)), (3, .int v3)]) d_Hb_placeOfLack_98 1 rfl ic_1 rfl rfl ?_
          refine k_iload_n C d_Hb_placeOfLack_101 0 rfl ?_
          refine k_aload_n C d_Hb_placeOfLack_102 1 rfl ?_
          refine kg_Hb_89 C h_o0 d_Hb_placeOfLack_103 ?_
          refine k_icmp_lt C 2 d_Hb_placeOfLack_106 (by decide) (fun c6 => ?_) (fun c6 => ?_)
          · have h := (if_pos c6).symm.trans h
            exact k_sub [1, 0] rfl (hK2 (v1 + 1) p2.2 h)
          · have h := (if_neg c6).symm.trans h
            refine k_iconst C (-1) d_Hb_placeOfLack_109 ic_m1 ?_
            obtain rfl := Option.some.inj h
            exact k_iret C q d_Hb_placeOfLack_110
        · have h := (if_neg c5).symm.trans h
          refine k_iload_n C d_Hb_placeOfLack_96 1 rfl ?_
          obtain rfl := Option.some.inj h
          exact k_iret C q d_Hb_placeOfLack_97
    · have h := (if_neg c1).symm.trans h
      refine k_aload_n C d_Hb_placeOfLack_43 0 rfl ?_
      refine k_iload_n C d_Hb_placeOfLack_44 1 rfl ?_
      refine k_iconst C 1 d_Hb_placeOfLack_45 ic_1 ?_
      obtain ⟨p7, ep7, h⟩ := bd_some h
      refine k_callVi C q_Hb_282 (fun l => m_Sh_hasPlaces (cx_g C) l o0 h_o0 v1 1 x z p7 ep7) rfl rfl (rtI_c q) (lt105 h_o0 rfl) (sh_Sh h_o0) rfl rfl rfl rfl d_Hb_placeOfLack_46 ?_
      refine k_if_eq C 68 d_Hb_placeOfLack_49 (by decide) (fun c8 => ?_) (fun c8 => ?_)
      · have h := (if_pos c8).symm.trans h
        refine k_iload_n C d_Hb_placeOfLack_68 1 rfl ?_
        obtain rfl := Option.some.inj h
        exact k_iret C q d_Hb_placeOfLack_69
      · have h := (if_neg c8).symm.trans h
        refine k_aload_n C d_Hb_placeOfLack_52 0 rfl ?_
        refine kg_Hb_96 C h_o0 d_Hb_placeOfLack_53 ?_
        refine k_iload_n C d_Hb_placeOfLack_56 1 rfl ?_
        obtain ⟨i9, h⟩ := gI_some h
        refine k_ialdE C h_o0 i9 d_Hb_placeOfLack_57 ?_
        refine k_bipush C 48 d_Hb_placeOfLack_58 bp_48 ?_
        refine k_bipush C 57 d_Hb_placeOfLack_60 bp_57 ?_
        obtain ⟨p10, ep10, h⟩ := bd_some h
        refine k_callSi C q_Hb_169 (fun l => m_Hb_isWithin (cx_g C) l (p7.2 (o0 + 8) v1.toNatClampNeg) 48 57 p7.2 z p10 ep10) rfl rfl (rtI_c q) rfl rfl rfl d_Hb_placeOfLack_62 ?_
        refine k_if_ne C 70 d_Hb_placeOfLack_65 (by decide) (fun c11 => ?_) (fun c11 => ?_)
        · have h := (if_neg c11).symm.trans h
          refine k_inc C (lv' := [(1, .int (v1 + 1)), (0, .ref (g_a g o0)), (3, .int v3)]) d_Hb_placeOfLack_70 1 rfl ic_1 rfl rfl ?_
          refine k_goto C 38 d_Hb_placeOfLack_73 (by decide) ?_
          exact k_sub [1, 0, 2] rfl (ih (v1 + 1) p10.2 h)
        · have h := (if_pos c11).symm.trans h
          refine k_iload_n C d_Hb_placeOfLack_68 1 rfl ?_
          obtain rfl := Option.some.inj h
          exact k_iret C q d_Hb_placeOfLack_69

def b_Hb_placeOfLack_24 (K2 : Int32 → XD → Option (Int32 × XD)) (o0 : Nat) (v1 : Int32) (vt0 : Int32) (x : XD) : Option (Int32 × XD) := (if vt0 = 0 then some (v1, x) else b_Hb_placeOfLack_38 K2 o0 ((v1 + 1) + vt0) fu (v1 + 1) x)
theorem t_Hb_placeOfLack_24 {g : GC} {X : MX} (C : Cx g X c_Hb_placeOfLack 4 n_Hb 1) {r : Int32 × XD} {z : ZD} (q : RtI g X (some .int) r.1 (r.2, z)) (o0 : Nat) (h_o0 : 67 ≤ o0 ∧ o0 < 75) (v1 : Int32) (vt0 : Int32) (K2 : Int32 → XD → Option (Int32 × XD)) (hK2 : ∀ (v1 : Int32) (x : XD), K2 v1 x = some r → Wk g X 4 2 [(0, .ref (g_a g o0)), (1, .int v1)] [] (x, z)) (x : XD) (h : b_Hb_placeOfLack_24 K2 o0 v1 vt0 x = some r) : Wk g X 4 24 [(0, .ref (g_a g o0)), (1, .int v1)] [.int vt0] (x, z) := by
  unfold b_Hb_placeOfLack_24 at h
  refine k_istore_n C (lv' := [(2, .int vt0), (0, .ref (g_a g o0)), (1, .int v1)]) d_Hb_placeOfLack_24 rfl rfl ?_
  refine k_iload_n C d_Hb_placeOfLack_25 0 rfl ?_
  refine k_if_ne C 31 d_Hb_placeOfLack_26 (by decide) (fun c1 => ?_) (fun c1 => ?_)
  · have h := (if_neg c1).symm.trans h
    refine k_inc C (lv' := [(1, .int (v1 + 1)), (2, .int vt0), (0, .ref (g_a g o0))]) d_Hb_placeOfLack_31 2 rfl ic_1 rfl rfl ?_
    refine k_iload_n C d_Hb_placeOfLack_34 0 rfl ?_
    refine k_iload_n C d_Hb_placeOfLack_35 1 rfl ?_
    refine k_iadd C d_Hb_placeOfLack_36 ?_
    refine k_istore_n C (lv' := [(3, .int ((v1 + 1) + vt0)), (1, .int (v1 + 1)), (2, .int vt0), (0, .ref (g_a g o0))]) d_Hb_placeOfLack_37 rfl rfl ?_
    exact k_sub [3, 1, 0] rfl (t_Hb_placeOfLack_38 C q o0 h_o0 ((v1 + 1) + vt0) K2 hK2 fu (v1 + 1) x h)
  · have h := (if_pos c1).symm.trans h
    refine k_iload_n C d_Hb_placeOfLack_29 2 rfl ?_
    obtain rfl := Option.some.inj h
    exact k_iret C q d_Hb_placeOfLack_30

def b_Hb_placeOfLack_2 (o0 : Nat) : Nat → Int32 → XD → Option (Int32 × XD)
  | 0, _, _ => none
  | n + 1, v1, x => (f_Sh_hasPlaces o0 v1 1 x).bind fun p1 => ((if p1.1 = 0 then b_Hb_placeOfLack_24 (b_Hb_placeOfLack_2 o0 n) o0 v1 0 p1.2 else gI v1 100 ((f_Hb_digitsBehind (p1.2 (o0 + 8) v1.toNatClampNeg) p1.2).bind fun p4 => (b_Hb_placeOfLack_24 (b_Hb_placeOfLack_2 o0 n) o0 v1 p4.1 p4.2))))
theorem t_Hb_placeOfLack_2 {g : GC} {X : MX} (C : Cx g X c_Hb_placeOfLack 4 n_Hb 1) {r : Int32 × XD} {z : ZD} (q : RtI g X (some .int) r.1 (r.2, z)) (o0 : Nat) (h_o0 : 67 ≤ o0 ∧ o0 < 75) : ∀ (n : Nat) (v1 : Int32) (x : XD) (h : b_Hb_placeOfLack_2 o0 n v1 x = some r), Wk g X 4 2 [(0, .ref (g_a g o0)), (1, .int v1)] [] (x, z) := by
  intro n
  induction n with
  | zero =>
    intro v1 x h
    rw [b_Hb_placeOfLack_2] at h
    cases h
  | succ n ih =>
    intro v1 x h
    rw [b_Hb_placeOfLack_2] at h
    refine k_aload_n C d_Hb_placeOfLack_2 0 rfl ?_
    refine k_iload_n C d_Hb_placeOfLack_3 1 rfl ?_
    refine k_iconst C 1 d_Hb_placeOfLack_4 ic_1 ?_
    obtain ⟨p1, ep1, h⟩ := bd_some h
    refine k_callVi C q_Hb_282 (fun l => m_Sh_hasPlaces (cx_g C) l o0 h_o0 v1 1 x z p1 ep1) rfl rfl (rtI_c q) (lt105 h_o0 rfl) (sh_Sh h_o0) rfl rfl rfl rfl d_Hb_placeOfLack_5 ?_
    refine k_if_eq C 23 d_Hb_placeOfLack_8 (by decide) (fun c2 => ?_) (fun c2 => ?_)
    · have h := (if_pos c2).symm.trans h
      refine k_iconst C 0 d_Hb_placeOfLack_23 ic_0 ?_
      exact k_sub [0, 1] rfl (t_Hb_placeOfLack_24 C q o0 h_o0 v1 0 (b_Hb_placeOfLack_2 o0 n) ih p1.2 h)
    · have h := (if_neg c2).symm.trans h
      refine k_aload_n C d_Hb_placeOfLack_11 0 rfl ?_
      refine kg_Hb_96 C h_o0 d_Hb_placeOfLack_12 ?_
      refine k_iload_n C d_Hb_placeOfLack_15 1 rfl ?_
      obtain ⟨i3, h⟩ := gI_some h
      refine k_ialdE C h_o0 i3 d_Hb_placeOfLack_16 ?_
      obtain ⟨p4, ep4, h⟩ := bd_some h
      refine k_callSi C q_Hb_100 (fun l => m_Hb_digitsBehind (cx_g C) l (p1.2 (o0 + 8) v1.toNatClampNeg) p1.2 z p4 ep4) rfl rfl (rtI_c q) rfl rfl rfl d_Hb_placeOfLack_17 ?_
      refine k_goto C 24 d_Hb_placeOfLack_20 (by decide) ?_
      exact k_sub [0, 1] rfl (t_Hb_placeOfLack_24 C q o0 h_o0 v1 p4.1 (b_Hb_placeOfLack_2 o0 n) ih p4.2 h)

def f_Hb_placeOfLack (o0 : Nat) (x : XD) : Option (Int32 × XD) := b_Hb_placeOfLack_2 o0 fu 0 x
theorem m_Hb_placeOfLack {g : GC} (hg : gOk g) (l : Launch)  (o0 : Nat) (h_o0 : 67 ≤ o0 ∧ o0 < 75) (x : XD) (z : ZD) (r : Int32 × XD) (h : f_Hb_placeOfLack o0 x = some r) : Mi g l y_Hb_placeOfLack c_Hb_placeOfLack 4 (some .int) 1 [.ref (g_a g o0)] (x, z) r.1 (r.2, z) := by
  refine m_i hg pn_Hb rfl fun X q C => ?_
  refine k_sub (lv' := [(0, .ref (g_a g o0))]) [0] rfl ?_
  unfold f_Hb_placeOfLack at h
  refine k_iconst C 0 d_Hb_placeOfLack_0 ic_0 ?_
  refine k_istore_n C (lv' := [(1, .int 0), (0, .ref (g_a g o0))]) d_Hb_placeOfLack_1 rfl rfl ?_
  exact k_sub [1, 0] rfl (t_Hb_placeOfLack_2 C q o0 h_o0 fu 0 x h)

def b_Hb_spread_83 (K7 : Int32 → Int32 → Int32 → XD → Option (Int32 × XD)) (K23 : Int32 → Int32 → Int32 → XD → Option (Int32 × XD)) (v1 : Int32) (v2 : Int32) (v3 : Int32) (v4 : Int32) (x : XD) : Option (Int32 × XD) := K23 v1 v2 (v4 + 1) x
theorem t_Hb_spread_83 {g : GC} {X : MX} (C : Cx g X c_Hb_spread 6 n_Hb 1) {r : Int32 × XD} {z : ZD} (q : RtI g X (some .int) r.1 (r.2, z)) (v1 : Int32) (v2 : Int32) (v3 : Int32) (v4 : Int32) (K7 : Int32 → Int32 → Int32 → XD → Option (Int32 × XD)) (hK7 : ∀ (v1 : Int32) (v2 : Int32) (v3 : Int32) (x : XD), K7 v1 v2 v3 x = some r → Wk g X 6 7 [(0, .ref (g_a g 0)), (1, .int v1), (2, .int v2), (3, .int v3)] [] (x, z)) (K23 : Int32 → Int32 → Int32 → XD → Option (Int32 × XD)) (hK23 : ∀ (v1 : Int32) (v2 : Int32) (v4 : Int32) (x : XD), K23 v1 v2 v4 x = some r → Wk g X 6 23 [(0, .ref (g_a g 0)), (1, .int v1), (2, .int v2), (3, .int v3), (4, .int v4)] [] (x, z)) (x : XD) (h : b_Hb_spread_83 K7 K23 v1 v2 v3 v4 x = some r) : Wk g X 6 83 [(0, .ref (g_a g 0)), (1, .int v1), (2, .int v2), (3, .int v3), (4, .int v4)] [] (x, z) := by
  unfold b_Hb_spread_83 at h
  refine k_inc C (lv' := [(4, .int (v4 + 1)), (0, .ref (g_a g 0)), (1, .int v1), (2, .int v2), (3, .int v3)]) d_Hb_spread_83 4 rfl ic_1 rfl rfl ?_
  refine k_goto C 23 d_Hb_spread_86 (by decide) ?_
  exact k_sub [1, 2, 3, 4, 0] rfl (hK23 v1 v2 (v4 + 1) x h)

def b_Hb_spread_23 (K7 : Int32 → Int32 → Int32 → XD → Option (Int32 × XD)) (v3 : Int32) : Nat → Int32 → Int32 → Int32 → XD → Option (Int32 × XD)
  | 0, _, _, _, _ => none
  | n + 1, v1, v2, v4, x => (if x 10 2 ≤ v4 then K7 v1 v2 (v3 + 1) x else gI v3 7 (gI v4 7 ((if x_abs ((x (sid 10 v3) 3) - (x (sid 10 v4) 3)) ≤ v2 then b_Hb_spread_83 K7 (b_Hb_spread_23 K7 v3 n) v1 v2 v3 v4 x else b_Hb_spread_83 K7 (b_Hb_spread_23 K7 v3 n) ((10 * v3) + v4) (x_abs ((x (sid 10 v3) 3) - (x (sid 10 v4) 3))) v3 v4 x))))
theorem t_Hb_spread_23 {g : GC} {X : MX} (C : Cx g X c_Hb_spread 6 n_Hb 1) {r : Int32 × XD} {z : ZD} (q : RtI g X (some .int) r.1 (r.2, z)) (v3 : Int32) (K7 : Int32 → Int32 → Int32 → XD → Option (Int32 × XD)) (hK7 : ∀ (v1 : Int32) (v2 : Int32) (v3 : Int32) (x : XD), K7 v1 v2 v3 x = some r → Wk g X 6 7 [(0, .ref (g_a g 0)), (1, .int v1), (2, .int v2), (3, .int v3)] [] (x, z)) : ∀ (n : Nat) (v1 : Int32) (v2 : Int32) (v4 : Int32) (x : XD) (h : b_Hb_spread_23 K7 v3 n v1 v2 v4 x = some r), Wk g X 6 23 [(0, .ref (g_a g 0)), (1, .int v1), (2, .int v2), (3, .int v3), (4, .int v4)] [] (x, z) := by
  intro n
  induction n with
  | zero =>
    intro v1 v2 v4 x h
    rw [b_Hb_spread_23] at h
    cases h
  | succ n ih =>
    intro v1 v2 v4 x h
    rw [b_Hb_spread_23] at h
    refine k_iload C d_Hb_spread_23 4 rfl ?_
    refine k_aload_n C d_Hb_spread_25 0 rfl ?_
    refine kg_Hb_42 C d_Hb_spread_26 ?_
    refine kg_Hb_149 C (by decide) d_Hb_spread_29 ?_
    refine k_icmp_ge C 89 d_Hb_spread_32 (by decide) (fun c1 => ?_) (fun c1 => ?_)
    · have h := (if_pos c1).symm.trans h
      refine k_inc C (lv' := [(3, .int (v3 + 1)), (0, .ref (g_a g 0)), (1, .int v1), (2, .int v2), (4, .int v4)]) d_Hb_spread_89 3 rfl ic_1 rfl rfl ?_
      refine k_goto C 7 d_Hb_spread_92 (by decide) ?_
      exact k_sub [1, 2, 3, 0] rfl (hK7 v1 v2 (v3 + 1) x h)
    · have h := (if_neg c1).symm.trans h
      refine k_aload_n C d_Hb_spread_35 0 rfl ?_
      refine kg_Hb_42 C d_Hb_spread_36 ?_
      refine kg_Hb_107 C (by decide) d_Hb_spread_39 ?_
      refine k_iload_n C d_Hb_spread_42 3 rfl ?_
      obtain ⟨i2, h⟩ := gI_some h
      refine k_aald_St C (by decide) i2 d_Hb_spread_43 ?_
      refine kg_Hb_125 C (sid_ok (by decide) i2) d_Hb_spread_44 ?_
      refine k_aload_n C d_Hb_spread_47 0 rfl ?_
      refine kg_Hb_42 C d_Hb_spread_48 ?_
      refine kg_Hb_107 C (by decide) d_Hb_spread_51 ?_
      refine k_iload C d_Hb_spread_54 4 rfl ?_
      obtain ⟨i3, h⟩ := gI_some h
      refine k_aald_St C (by decide) i3 d_Hb_spread_56 ?_
      refine kg_Hb_125 C (sid_ok (by decide) i3) d_Hb_spread_57 ?_
      refine k_isub C d_Hb_spread_60 ?_
      refine k_mabs C l_628 l_359 l_65 l_360 rfl rfl (rtI_c q) d_Hb_spread_61 ?_
      refine k_istore C (lv' := [(5, .int (x_abs ((x (sid 10 v3) 3) - (x (sid 10 v4) 3)))), (0, .ref (g_a g 0)), (1, .int v1), (2, .int v2), (3, .int v3), (4, .int v4)]) d_Hb_spread_64 rfl rfl ?_
      refine k_iload C d_Hb_spread_66 0 rfl ?_
      refine k_iload_n C d_Hb_spread_68 3 rfl ?_
      refine k_icmp_le C 83 d_Hb_spread_69 (by decide) (fun c4 => ?_) (fun c4 => ?_)
      · have h := (if_pos c4).symm.trans h
        exact k_sub [1, 2, 3, 4, 5] rfl (t_Hb_spread_83 C q v1 v2 v3 v4 K7 hK7 (b_Hb_spread_23 K7 v3 n) ih x h)
      · have h := (if_neg c4).symm.trans h
        refine k_iload C d_Hb_spread_72 0 rfl ?_
        refine k_istore_n C (lv' := [(2, .int (x_abs ((x (sid 10 v3) 3) - (x (sid 10 v4) 3)))), (5, .int (x_abs ((x (sid 10 v3) 3) - (x (sid 10 v4) 3)))), (0, .ref (g_a g 0)), (1, .int v1), (3, .int v3), (4, .int v4)]) d_Hb_spread_74 rfl rfl ?_
        refine k_bipush C 10 d_Hb_spread_75 bp_10 ?_
        refine k_iload_n C d_Hb_spread_77 4 rfl ?_
        refine k_imul C d_Hb_spread_78 ?_
        refine k_iload C d_Hb_spread_79 5 rfl ?_
        refine k_iadd C d_Hb_spread_81 ?_
        refine k_istore_n C (lv' := [(1, .int ((10 * v3) + v4)), (2, .int (x_abs ((x (sid 10 v3) 3) - (x (sid 10 v4) 3)))), (5, .int (x_abs ((x (sid 10 v3) 3) - (x (sid 10 v4) 3)))), (0, .ref (g_a g 0)), (3, .int v3), (4, .int v4)]) d_Hb_spread_82 rfl rfl ?_
        exact k_sub [3, 0, 1, 4, 5] rfl (t_Hb_spread_83 C q ((10 * v3) + v4) (x_abs ((x (sid 10 v3) 3) - (x (sid 10 v4) 3))) v3 v4 K7 hK7 (b_Hb_spread_23 K7 v3 n) ih x h)

def b_Hb_spread_7 : Nat → Int32 → Int32 → Int32 → XD → Option (Int32 × XD)
  | 0, _, _, _, _ => none
  | n + 1, v1, v2, v3, x => (if x 10 2 ≤ v3 then some (v1, x) else b_Hb_spread_23 (b_Hb_spread_7 n) v3 fu v1 v2 (v3 + 1) x)
theorem t_Hb_spread_7 {g : GC} {X : MX} (C : Cx g X c_Hb_spread 6 n_Hb 1) {r : Int32 × XD} {z : ZD} (q : RtI g X (some .int) r.1 (r.2, z)) : ∀ (n : Nat) (v1 : Int32) (v2 : Int32) (v3 : Int32) (x : XD) (h : b_Hb_spread_7 n v1 v2 v3 x = some r), Wk g X 6 7 [(0, .ref (g_a g 0)), (1, .int v1), (2, .int v2), (3, .int v3)] [] (x, z) := by
  intro n
  induction n with
  | zero =>
    intro v1 v2 v3 x h
    rw [b_Hb_spread_7] at h
    cases h
  | succ n ih =>
    intro v1 v2 v3 x h
    rw [b_Hb_spread_7] at h
    refine k_iload_n C d_Hb_spread_7 3 rfl ?_
    refine k_aload_n C d_Hb_spread_8 0 rfl ?_
    refine kg_Hb_42 C d_Hb_spread_9 ?_
    refine kg_Hb_149 C (by decide) d_Hb_spread_12 ?_
    refine k_icmp_ge C 95 d_Hb_spread_15 (by decide) (fun c1 => ?_) (fun c1 => ?_)
    · have h := (if_pos c1).symm.trans h
      refine k_iload_n C d_Hb_spread_95 1 rfl ?_
      obtain rfl := Option.some.inj h
      exact k_iret C q d_Hb_spread_96
    · have h := (if_neg c1).symm.trans h
      refine k_iload_n C d_Hb_spread_18 3 rfl ?_
      refine k_iconst C 1 d_Hb_spread_19 ic_1 ?_
      refine k_iadd C d_Hb_spread_20 ?_
      refine k_istore C (lv' := [(4, .int (v3 + 1)), (0, .ref (g_a g 0)), (1, .int v1), (2, .int v2), (3, .int v3)]) d_Hb_spread_21 rfl rfl ?_
      exact k_sub [1, 2, 3, 4, 0] rfl (t_Hb_spread_23 C q v3 (b_Hb_spread_7 n) ih fu v1 v2 (v3 + 1) x h)

def f_Hb_spread (x : XD) : Option (Int32 × XD) := b_Hb_spread_7 fu (-4) (-1) 0 x
theorem m_Hb_spread {g : GC} (hg : gOk g) (l : Launch)  (x : XD) (z : ZD) (r : Int32 × XD) (h : f_Hb_spread x = some r) : Mi g l y_Hb_spread c_Hb_spread 6 (some .int) 1 [.ref (g_a g 0)] (x, z) r.1 (r.2, z) := by
  refine m_i hg pn_Hb rfl fun X q C => ?_
  refine k_sub (lv' := [(0, .ref (g_a g 0))]) [0] rfl ?_
  unfold f_Hb_spread at h
  refine k_bipush C (-4) d_Hb_spread_0 bp_m4 ?_
  refine k_istore_n C (lv' := [(1, .int (-4)), (0, .ref (g_a g 0))]) d_Hb_spread_2 rfl rfl ?_
  refine k_iconst C (-1) d_Hb_spread_3 ic_m1 ?_
  refine k_istore_n C (lv' := [(2, .int (-1)), (1, .int (-4)), (0, .ref (g_a g 0))]) d_Hb_spread_4 rfl rfl ?_
  refine k_iconst C 0 d_Hb_spread_5 ic_0 ?_
  refine k_istore_n C (lv' := [(3, .int 0), (2, .int (-1)), (1, .int (-4)), (0, .ref (g_a g 0))]) d_Hb_spread_6 rfl rfl ?_
  exact k_sub [3, 2, 1, 0] rfl (t_Hb_spread_7 C q fu (-4) (-1) 0 x h)

def f_Hb_copy (v1 : Int32) (v2 : Int32) (v3 : Int32) (v4 : Int32) (v5 : Int32) (x : XD) : Option (Int32 × XD) := (f_Hb_isShelf v1 x).bind fun p1 => ((if p1.1 = 0 then some ((-1), p1.2) else (f_Hb_isShelf v3 p1.2).bind fun p3 => ((if p3.1 = 0 then some ((-1), p3.2) else gI v1 8 (gI v3 8 ((if p3.2 (hid v1) 0 = 0 then some ((-11), p3.2) else (if p3.2 (hid v3) 0 = 0 then some ((-11), p3.2) else (if p3.2 (hid v1) 0 = 2 then (if p3.2 (hid v3) 0 = 2 then (if p3.2 (hid v1) 3 = p3.2 (hid v3) 3 then (f_Sh_hasPlaces (hid v1) v2 v5 p3.2).bind fun p12 => ((if p12.1 = 0 then some ((-13), p12.2) else (f_Sh_hasPlaces (hid v3) v4 v5 p12.2).bind fun p14 => ((if p14.1 = 0 then some ((-13), p14.2) else gC v2 v4 v5 (lt (x_cp p14.2 (hid v1 + 8) (hid v3 + 8) v2.toNatClampNeg v4.toNatClampNeg v5.toNatClampNeg) fun (x16 : XD) => some (v5, x16)))))) else some ((-12), p3.2)) else some ((-12), p3.2)) else some ((-12), p3.2))))))))))
theorem m_Hb_copy {g : GC} (hg : gOk g) (l : Launch)  (v1 : Int32) (v2 : Int32) (v3 : Int32) (v4 : Int32) (v5 : Int32) (x : XD) (z : ZD) (r : Int32 × XD) (h : f_Hb_copy v1 v2 v3 v4 v5 x = some r) : Mi g l y_Hb_copy c_Hb_copy 8 (some .int) 2 [.ref (g_a g 0), .int v1, .int v2, .int v3, .int v4, .int v5] (x, z) r.1 (r.2, z) := by
  refine m_i hg pn_Hb rfl fun X q C => ?_
  refine k_sub (lv' := [(0, .ref (g_a g 0)), (1, .int v1), (2, .int v2), (3, .int v3), (4, .int v4), (5, .int v5)]) [0, 1, 2, 3, 4, 5] rfl ?_
  unfold f_Hb_copy at h
  refine k_iload_n C d_Hb_copy_0 1 rfl ?_
  obtain ⟨p1, ep1, h⟩ := bd_some h
  refine k_callSi C q_Hb_255 (fun l => m_Hb_isShelf (cx_g C) l v1 x z p1 ep1) rfl rfl (rtI_c q) rfl rfl rfl d_Hb_copy_1 ?_
  refine k_if_eq C 14 d_Hb_copy_4 (by decide) (fun c2 => ?_) (fun c2 => ?_)
  · have h := (if_pos c2).symm.trans h
    refine k_iconst C (-1) d_Hb_copy_14 ic_m1 ?_
    obtain rfl := Option.some.inj h
    exact k_iret C q d_Hb_copy_15
  · have h := (if_neg c2).symm.trans h
    refine k_iload_n C d_Hb_copy_7 3 rfl ?_
    obtain ⟨p3, ep3, h⟩ := bd_some h
    refine k_callSi C q_Hb_255 (fun l => m_Hb_isShelf (cx_g C) l v3 p1.2 z p3 ep3) rfl rfl (rtI_c q) rfl rfl rfl d_Hb_copy_8 ?_
    refine k_if_ne C 16 d_Hb_copy_11 (by decide) (fun c4 => ?_) (fun c4 => ?_)
    · have h := (if_neg c4).symm.trans h
      refine k_aload_n C d_Hb_copy_16 0 rfl ?_
      refine kg_Hb_64 C d_Hb_copy_17 ?_
      refine k_iload_n C d_Hb_copy_20 1 rfl ?_
      obtain ⟨i5, h⟩ := gI_some h
      refine k_aald_Sh C i5 d_Hb_copy_21 ?_
      refine k_astore C (lv' := [(6, .ref (g_a g (hid v1))), (0, .ref (g_a g 0)), (1, .int v1), (2, .int v2), (3, .int v3), (4, .int v4), (5, .int v5)]) d_Hb_copy_22 rfl rfl ?_
      refine k_aload_n C d_Hb_copy_24 1 rfl ?_
      refine kg_Hb_64 C d_Hb_copy_25 ?_
      refine k_iload_n C d_Hb_copy_28 4 rfl ?_
      obtain ⟨i6, h⟩ := gI_some h
      refine k_aald_Sh C i6 d_Hb_copy_29 ?_
      refine k_astore C (lv' := [(7, .ref (g_a g (hid v3))), (6, .ref (g_a g (hid v1))), (0, .ref (g_a g 0)), (1, .int v1), (2, .int v2), (3, .int v3), (4, .int v4), (5, .int v5)]) d_Hb_copy_30 rfl rfl ?_
      refine k_aload C d_Hb_copy_32 1 rfl ?_
      refine kg_Hb_258 C (hid_ok i5) d_Hb_copy_34 ?_
      refine k_if_eq C 48 d_Hb_copy_37 (by decide) (fun c7 => ?_) (fun c7 => ?_)
      · have h := (if_pos c7).symm.trans h
        refine k_bipush C (-11) d_Hb_copy_48 bp_m11 ?_
        obtain rfl := Option.some.inj h
        exact k_iret C q d_Hb_copy_50
      · have h := (if_neg c7).symm.trans h
        refine k_aload C d_Hb_copy_40 0 rfl ?_
        refine kg_Hb_258 C (hid_ok i6) d_Hb_copy_42 ?_
        refine k_if_ne C 51 d_Hb_copy_45 (by decide) (fun c8 => ?_) (fun c8 => ?_)
        · have h := (if_neg c8).symm.trans h
          refine k_aload C d_Hb_copy_51 1 rfl ?_
          refine kg_Hb_258 C (hid_ok i5) d_Hb_copy_53 ?_
          refine k_iconst C 2 d_Hb_copy_56 ic_2 ?_
          refine k_icmp_ne C 82 d_Hb_copy_57 (by decide) (fun c9 => ?_) (fun c9 => ?_)
          · have h := (if_neg c9).symm.trans h
            refine k_bipush C (-12) d_Hb_copy_82 bp_m12 ?_
            obtain rfl := Option.some.inj h
            exact k_iret C q d_Hb_copy_84
          · have h := (if_pos c9).symm.trans h
            refine k_aload C d_Hb_copy_60 0 rfl ?_
            refine kg_Hb_258 C (hid_ok i6) d_Hb_copy_62 ?_
            refine k_iconst C 2 d_Hb_copy_65 ic_2 ?_
            refine k_icmp_ne C 82 d_Hb_copy_66 (by decide) (fun c10 => ?_) (fun c10 => ?_)
            · have h := (if_neg c10).symm.trans h
              refine k_bipush C (-12) d_Hb_copy_82 bp_m12 ?_
              obtain rfl := Option.some.inj h
              exact k_iret C q d_Hb_copy_84
            · have h := (if_pos c10).symm.trans h
              refine k_aload C d_Hb_copy_69 1 rfl ?_
              refine kg_Hb_77 C (hid_ok i5) d_Hb_copy_71 ?_
              refine k_aload C d_Hb_copy_74 0 rfl ?_
              refine kg_Hb_77 C (hid_ok i6) d_Hb_copy_76 ?_
              refine k_icmp_eq C 85 d_Hb_copy_79 (by decide) (fun c11 => ?_) (fun c11 => ?_)
              · have h := (if_pos c11).symm.trans h
                refine k_aload C d_Hb_copy_85 1 rfl ?_
                refine k_iload_n C d_Hb_copy_87 4 rfl ?_
                refine k_iload C d_Hb_copy_88 7 rfl ?_
                obtain ⟨p12, ep12, h⟩ := bd_some h
                refine k_callVi C q_Hb_282 (fun l => m_Sh_hasPlaces (cx_g C) l (hid v1) (hid_ok i5) v2 v5 p3.2 z p12 ep12) rfl rfl (rtI_c q) (lt105 (hid_ok i5) rfl) (sh_Sh (hid_ok i5)) rfl rfl rfl rfl d_Hb_copy_90 ?_
                refine k_if_eq C 108 d_Hb_copy_93 (by decide) (fun c13 => ?_) (fun c13 => ?_)
                · have h := (if_pos c13).symm.trans h
                  refine k_bipush C (-13) d_Hb_copy_108 bp_m13 ?_
                  obtain rfl := Option.some.inj h
                  exact k_iret C q d_Hb_copy_110
                · have h := (if_neg c13).symm.trans h
                  refine k_aload C d_Hb_copy_96 0 rfl ?_
                  refine k_iload C d_Hb_copy_98 6 rfl ?_
                  refine k_iload C d_Hb_copy_100 7 rfl ?_
                  obtain ⟨p14, ep14, h⟩ := bd_some h
                  refine k_callVi C q_Hb_282 (fun l => m_Sh_hasPlaces (cx_g C) l (hid v3) (hid_ok i6) v4 v5 p12.2 z p14 ep14) rfl rfl (rtI_c q) (lt105 (hid_ok i6) rfl) (sh_Sh (hid_ok i6)) rfl rfl rfl rfl d_Hb_copy_102 ?_
                  refine k_if_ne C 111 d_Hb_copy_105 (by decide) (fun c15 => ?_) (fun c15 => ?_)
                  · have h := (if_neg c15).symm.trans h
                    refine k_aload C d_Hb_copy_111 1 rfl ?_
                    refine kg_Hb_96 C (hid_ok i5) d_Hb_copy_113 ?_
                    refine k_iload_n C d_Hb_copy_116 4 rfl ?_
                    refine k_aload C d_Hb_copy_117 0 rfl ?_
                    refine kg_Hb_96 C (hid_ok i6) d_Hb_copy_119 ?_
                    refine k_iload C d_Hb_copy_122 6 rfl ?_
                    refine k_iload C d_Hb_copy_124 7 rfl ?_
                    obtain ⟨i17, h⟩ := gC_some h
                    obtain ⟨x16, ex16, h⟩ := lt_some h
                    refine k_acopy C l_793 l_795 l_794 l_72 (hid_ok i5) (hid_ok i6) i17 rfl rfl ex16 d_Hb_copy_126 ?_
                    refine k_iload C d_Hb_copy_129 7 rfl ?_
                    obtain rfl := Option.some.inj h
                    exact k_iret C q d_Hb_copy_131
                  · have h := (if_pos c15).symm.trans h
                    refine k_bipush C (-13) d_Hb_copy_108 bp_m13 ?_
                    obtain rfl := Option.some.inj h
                    exact k_iret C q d_Hb_copy_110
              · have h := (if_neg c11).symm.trans h
                refine k_bipush C (-12) d_Hb_copy_82 bp_m12 ?_
                obtain rfl := Option.some.inj h
                exact k_iret C q d_Hb_copy_84
        · have h := (if_pos c8).symm.trans h
          refine k_bipush C (-11) d_Hb_copy_48 bp_m11 ?_
          obtain rfl := Option.some.inj h
          exact k_iret C q d_Hb_copy_50
    · have h := (if_pos c4).symm.trans h
      refine k_iconst C (-1) d_Hb_copy_14 ic_m1 ?_
      obtain rfl := Option.some.inj h
      exact k_iret C q d_Hb_copy_15

def f_Hb_hangs (v1 : Int32) (x : XD) : Option (Int32 × XD) := (f_Hb_isYard v1 x).bind fun p1 => ((if p1.1 = 0 then some ((-1), p1.2) else lt (x_up p1.2 10 3 v1) fun (x3 : XD) => some (p1.2 10 3, x3)))
theorem m_Hb_hangs {g : GC} (hg : gOk g) (l : Launch)  (v1 : Int32) (x : XD) (z : ZD) (r : Int32 × XD) (h : f_Hb_hangs v1 x = some r) : Mi g l y_Hb_hangs c_Hb_hangs 3 (some .int) 2 [.ref (g_a g 0), .int v1] (x, z) r.1 (r.2, z) := by
  refine m_i hg pn_Hb rfl fun X q C => ?_
  refine k_sub (lv' := [(0, .ref (g_a g 0)), (1, .int v1)]) [0, 1] rfl ?_
  unfold f_Hb_hangs at h
  refine k_iload_n C d_Hb_hangs_0 1 rfl ?_
  obtain ⟨p1, ep1, h⟩ := bd_some h
  refine k_callSi C q_Hb_143 (fun l => m_Hb_isYard (cx_g C) l v1 x z p1 ep1) rfl rfl (rtI_c q) rfl rfl rfl d_Hb_hangs_1 ?_
  refine k_if_ne C 9 d_Hb_hangs_4 (by decide) (fun c2 => ?_) (fun c2 => ?_)
  · have h := (if_neg c2).symm.trans h
    refine k_aload_n C d_Hb_hangs_9 0 rfl ?_
    refine kg_Hb_42 C d_Hb_hangs_10 ?_
    refine kg_Hb_131 C (by decide) d_Hb_hangs_13 ?_
    refine k_istore_n C (lv' := [(2, .int (p1.2 10 3)), (0, .ref (g_a g 0)), (1, .int v1)]) d_Hb_hangs_16 rfl rfl ?_
    refine k_aload_n C d_Hb_hangs_17 1 rfl ?_
    refine kg_Hb_42 C d_Hb_hangs_18 ?_
    refine k_iload_n C d_Hb_hangs_21 2 rfl ?_
    obtain ⟨x3, ex3, h⟩ := lt_some h
    refine kp_Hb_131 C (by decide) ex3 d_Hb_hangs_22 ?_
    refine k_iload_n C d_Hb_hangs_25 0 rfl ?_
    obtain rfl := Option.some.inj h
    exact k_iret C q d_Hb_hangs_26
  · have h := (if_pos c2).symm.trans h
    refine k_iconst C (-1) d_Hb_hangs_7 ic_m1 ?_
    obtain rfl := Option.some.inj h
    exact k_iret C q d_Hb_hangs_8

def f_Hb_image (x : XD) : Option (Int32 × XD) := (f_La_become 11 10 x).bind fun p1 => (lt (x_up p1.2 0 6 1) fun (x2 : XD) => some (x2 10 4, x2))
theorem m_Hb_image {g : GC} (hg : gOk g) (l : Launch)  (x : XD) (z : ZD) (r : Int32 × XD) (h : f_Hb_image x = some r) : Mi g l y_Hb_image c_Hb_image 1 (some .int) 2 [.ref (g_a g 0)] (x, z) r.1 (r.2, z) := by
  refine m_i hg pn_Hb rfl fun X q C => ?_
  refine k_sub (lv' := [(0, .ref (g_a g 0))]) [0] rfl ?_
  unfold f_Hb_image at h
  refine k_aload_n C d_Hb_image_0 0 rfl ?_
  refine kg_Hb_46 C d_Hb_image_1 ?_
  refine k_aload_n C d_Hb_image_4 0 rfl ?_
  refine kg_Hb_42 C d_Hb_image_5 ?_
  obtain ⟨p1, ep1, h⟩ := bd_some h
  refine k_callVv C q_Hb_85 (fun l => m_La_become (cx_g C) l 11 (by decide) 10 (by decide) x z p1 ep1) rfl rfl (rtI_c q) (by decide) (sh_La (by decide)) rfl rfl rfl rfl d_Hb_image_8 ?_
  refine k_aload_n C d_Hb_image_11 0 rfl ?_
  refine k_iconst C 1 d_Hb_image_12 ic_1 ?_
  obtain ⟨x2, ex2, h⟩ := lt_some h
  refine kp_Hb_69 C (Or.inr rfl) ex2 d_Hb_image_13 ?_
  refine k_aload_n C d_Hb_image_16 0 rfl ?_
  refine kg_Hb_42 C d_Hb_image_17 ?_
  refine kg_Hb_249 C (by decide) d_Hb_image_20 ?_
  obtain rfl := Option.some.inj h
  exact k_iret C q d_Hb_image_23

def f_Hb_keep (v1 : Int32) (v2 : Int32) (v3 : Int32) (v4 : Int32) (x : XD) : Option (Int32 × XD) := (f_Hb_isShelf v1 x).bind fun p1 => ((if p1.1 = 0 then some ((-1), p1.2) else (f_Hb_isEither v2 p1.2).bind fun p3 => ((if p3.1 = 0 then some ((-1), p3.2) else (if v2 = 0 then gI v1 8 (lt (x_up p3.2 (hid v1) 0 0) fun (x18 : XD) => some (0, x18)) else (f_Hb_isKind v3 p3.2).bind fun p6 => ((if p6.1 = 0 then some ((-1), p6.2) else (f_Hb_isWithin v4 0 9 p6.2).bind fun p8 => ((if p8.1 = 0 then some ((-1), p8.2) else gI v1 8 (lt (x_up p8.2 (hid v1) 0 1) fun (x11 : XD) => gI v1 8 (gI v3 8 (lt (x_up x11 (hid v1) 1 v3) fun (x14 : XD) => gI v1 8 (lt (x_up x14 (hid v1) 2 v4) fun (x16 : XD) => some (0, x16))))))))))))))
theorem m_Hb_keep {g : GC} (hg : gOk g) (l : Launch)  (v1 : Int32) (v2 : Int32) (v3 : Int32) (v4 : Int32) (x : XD) (z : ZD) (r : Int32 × XD) (h : f_Hb_keep v1 v2 v3 v4 x = some r) : Mi g l y_Hb_keep c_Hb_keep 5 (some .int) 2 [.ref (g_a g 0), .int v1, .int v2, .int v3, .int v4] (x, z) r.1 (r.2, z) := by
  refine m_i hg pn_Hb rfl fun X q C => ?_
  refine k_sub (lv' := [(0, .ref (g_a g 0)), (1, .int v1), (2, .int v2), (3, .int v3), (4, .int v4)]) [0, 1, 2, 3, 4] rfl ?_
  unfold f_Hb_keep at h
  refine k_iload_n C d_Hb_keep_0 1 rfl ?_
  obtain ⟨p1, ep1, h⟩ := bd_some h
  refine k_callSi C q_Hb_255 (fun l => m_Hb_isShelf (cx_g C) l v1 x z p1 ep1) rfl rfl (rtI_c q) rfl rfl rfl d_Hb_keep_1 ?_
  refine k_if_eq C 14 d_Hb_keep_4 (by decide) (fun c2 => ?_) (fun c2 => ?_)
  · have h := (if_pos c2).symm.trans h
    refine k_iconst C (-1) d_Hb_keep_14 ic_m1 ?_
    obtain rfl := Option.some.inj h
    exact k_iret C q d_Hb_keep_15
  · have h := (if_neg c2).symm.trans h
    refine k_iload_n C d_Hb_keep_7 2 rfl ?_
    obtain ⟨p3, ep3, h⟩ := bd_some h
    refine k_callSi C q_Hb_180 (fun l => m_Hb_isEither (cx_g C) l v2 p1.2 z p3 ep3) rfl rfl (rtI_c q) rfl rfl rfl d_Hb_keep_8 ?_
    refine k_if_ne C 16 d_Hb_keep_11 (by decide) (fun c4 => ?_) (fun c4 => ?_)
    · have h := (if_neg c4).symm.trans h
      refine k_iload_n C d_Hb_keep_16 2 rfl ?_
      refine k_if_ne C 32 d_Hb_keep_17 (by decide) (fun c5 => ?_) (fun c5 => ?_)
      · have h := (if_neg c5).symm.trans h
        refine k_iload_n C d_Hb_keep_32 3 rfl ?_
        obtain ⟨p6, ep6, h⟩ := bd_some h
        refine k_callSi C q_Hb_261 (fun l => m_Hb_isKind (cx_g C) l v3 p3.2 z p6 ep6) rfl rfl (rtI_c q) rfl rfl rfl d_Hb_keep_33 ?_
        refine k_if_eq C 50 d_Hb_keep_36 (by decide) (fun c7 => ?_) (fun c7 => ?_)
        · have h := (if_pos c7).symm.trans h
          refine k_iconst C (-1) d_Hb_keep_50 ic_m1 ?_
          obtain rfl := Option.some.inj h
          exact k_iret C q d_Hb_keep_51
        · have h := (if_neg c7).symm.trans h
          refine k_iload C d_Hb_keep_39 4 rfl ?_
          refine k_iconst C 0 d_Hb_keep_41 ic_0 ?_
          refine k_bipush C 9 d_Hb_keep_42 bp_9 ?_
          obtain ⟨p8, ep8, h⟩ := bd_some h
          refine k_callSi C q_Hb_169 (fun l => m_Hb_isWithin (cx_g C) l v4 0 9 p6.2 z p8 ep8) rfl rfl (rtI_c q) rfl rfl rfl d_Hb_keep_44 ?_
          refine k_if_ne C 52 d_Hb_keep_47 (by decide) (fun c9 => ?_) (fun c9 => ?_)
          · have h := (if_neg c9).symm.trans h
            refine k_aload_n C d_Hb_keep_52 0 rfl ?_
            refine kg_Hb_64 C d_Hb_keep_53 ?_
            refine k_iload_n C d_Hb_keep_56 1 rfl ?_
            obtain ⟨i10, h⟩ := gI_some h
            refine k_aald_Sh C i10 d_Hb_keep_57 ?_
            refine k_iconst C 1 d_Hb_keep_58 ic_1 ?_
            obtain ⟨x11, ex11, h⟩ := lt_some h
            refine kp_Hb_258 C (hid_ok i10) ex11 d_Hb_keep_59 ?_
            refine k_aload_n C d_Hb_keep_62 0 rfl ?_
            refine kg_Hb_64 C d_Hb_keep_63 ?_
            refine k_iload_n C d_Hb_keep_66 1 rfl ?_
            obtain ⟨i12, h⟩ := gI_some h
            refine k_aald_Sh C i12 d_Hb_keep_67 ?_
            refine k_aload_n C d_Hb_keep_68 0 rfl ?_
            refine kg_Hb_31 C d_Hb_keep_69 ?_
            refine k_iload_n C d_Hb_keep_72 3 rfl ?_
            obtain ⟨i13, h⟩ := gI_some h
            refine k_aald_kd C i13 d_Hb_keep_73 ?_
            obtain ⟨x14, ex14, h⟩ := lt_some h
            refine kp_Hb_152 C (hid_ok i12) ex14 d_Hb_keep_74 ?_
            refine k_aload_n C d_Hb_keep_77 0 rfl ?_
            refine kg_Hb_64 C d_Hb_keep_78 ?_
            refine k_iload_n C d_Hb_keep_81 1 rfl ?_
            obtain ⟨i15, h⟩ := gI_some h
            refine k_aald_Sh C i15 d_Hb_keep_82 ?_
            refine k_iload C d_Hb_keep_83 4 rfl ?_
            obtain ⟨x16, ex16, h⟩ := lt_some h
            refine kp_Hb_153 C (hid_ok i15) ex16 d_Hb_keep_85 ?_
            refine k_iconst C 0 d_Hb_keep_88 ic_0 ?_
            obtain rfl := Option.some.inj h
            exact k_iret C q d_Hb_keep_89
          · have h := (if_pos c9).symm.trans h
            refine k_iconst C (-1) d_Hb_keep_50 ic_m1 ?_
            obtain rfl := Option.some.inj h
            exact k_iret C q d_Hb_keep_51
      · have h := (if_pos c5).symm.trans h
        refine k_aload_n C d_Hb_keep_20 0 rfl ?_
        refine kg_Hb_64 C d_Hb_keep_21 ?_
        refine k_iload_n C d_Hb_keep_24 1 rfl ?_
        obtain ⟨i17, h⟩ := gI_some h
        refine k_aald_Sh C i17 d_Hb_keep_25 ?_
        refine k_iconst C 0 d_Hb_keep_26 ic_0 ?_
        obtain ⟨x18, ex18, h⟩ := lt_some h
        refine kp_Hb_258 C (hid_ok i17) ex18 d_Hb_keep_27 ?_
        refine k_iconst C 0 d_Hb_keep_30 ic_0 ?_
        obtain rfl := Option.some.inj h
        exact k_iret C q d_Hb_keep_31
    · have h := (if_pos c4).symm.trans h
      refine k_iconst C (-1) d_Hb_keep_14 ic_m1 ?_
      obtain rfl := Option.some.inj h
      exact k_iret C q d_Hb_keep_15

def f_Hb_longs (v1 : Int32) (v2 : Int32) (x : XD) : Option (Int32 × XD) := (f_Hb_isHorse v1 x).bind fun p1 => ((if p1.1 = 0 then some ((-1), p1.2) else (f_Hb_isWithin v2 0 99 p1.2).bind fun p3 => ((if p3.1 = 0 then some ((-1), p3.2) else gI v1 7 (gI v1 7 (lt (x_up p3.2 (sid 10 v1) 4 v2) fun (x7 : XD) => some (p3.2 (sid 10 v1) 4, x7)))))))
theorem m_Hb_longs {g : GC} (hg : gOk g) (l : Launch)  (v1 : Int32) (v2 : Int32) (x : XD) (z : ZD) (r : Int32 × XD) (h : f_Hb_longs v1 v2 x = some r) : Mi g l y_Hb_longs c_Hb_longs 4 (some .int) 2 [.ref (g_a g 0), .int v1, .int v2] (x, z) r.1 (r.2, z) := by
  refine m_i hg pn_Hb rfl fun X q C => ?_
  refine k_sub (lv' := [(0, .ref (g_a g 0)), (1, .int v1), (2, .int v2)]) [0, 1, 2] rfl ?_
  unfold f_Hb_longs at h
  refine k_aload_n C d_Hb_longs_0 0 rfl ?_
  refine k_iload_n C d_Hb_longs_1 1 rfl ?_
  obtain ⟨p1, ep1, h⟩ := bd_some h
  refine k_callVi C q_Hb_103 (fun l => m_Hb_isHorse (cx_g C) l v1 x z p1 ep1) rfl rfl (rtI_c q) (by decide) sh_Hb rfl rfl rfl rfl d_Hb_longs_2 ?_
  refine k_if_eq C 18 d_Hb_longs_5 (by decide) (fun c2 => ?_) (fun c2 => ?_)
  · have h := (if_pos c2).symm.trans h
    refine k_iconst C (-1) d_Hb_longs_18 ic_m1 ?_
    obtain rfl := Option.some.inj h
    exact k_iret C q d_Hb_longs_19
  · have h := (if_neg c2).symm.trans h
    refine k_iload_n C d_Hb_longs_8 2 rfl ?_
    refine k_iconst C 0 d_Hb_longs_9 ic_0 ?_
    refine k_bipush C 99 d_Hb_longs_10 bp_99 ?_
    obtain ⟨p3, ep3, h⟩ := bd_some h
    refine k_callSi C q_Hb_169 (fun l => m_Hb_isWithin (cx_g C) l v2 0 99 p1.2 z p3 ep3) rfl rfl (rtI_c q) rfl rfl rfl d_Hb_longs_12 ?_
    refine k_if_ne C 20 d_Hb_longs_15 (by decide) (fun c4 => ?_) (fun c4 => ?_)
    · have h := (if_neg c4).symm.trans h
      refine k_aload_n C d_Hb_longs_20 0 rfl ?_
      refine kg_Hb_42 C d_Hb_longs_21 ?_
      refine kg_Hb_107 C (by decide) d_Hb_longs_24 ?_
      refine k_iload_n C d_Hb_longs_27 1 rfl ?_
      obtain ⟨i5, h⟩ := gI_some h
      refine k_aald_St C (by decide) i5 d_Hb_longs_28 ?_
      refine kg_Hb_128 C (sid_ok (by decide) i5) d_Hb_longs_29 ?_
      refine k_istore_n C (lv' := [(3, .int (p3.2 (sid 10 v1) 4)), (0, .ref (g_a g 0)), (1, .int v1), (2, .int v2)]) d_Hb_longs_32 rfl rfl ?_
      refine k_aload_n C d_Hb_longs_33 1 rfl ?_
      refine kg_Hb_42 C d_Hb_longs_34 ?_
      refine kg_Hb_107 C (by decide) d_Hb_longs_37 ?_
      refine k_iload_n C d_Hb_longs_40 2 rfl ?_
      obtain ⟨i6, h⟩ := gI_some h
      refine k_aald_St C (by decide) i6 d_Hb_longs_41 ?_
      refine k_iload_n C d_Hb_longs_42 3 rfl ?_
      obtain ⟨x7, ex7, h⟩ := lt_some h
      refine kp_Hb_128 C (sid_ok (by decide) i6) ex7 d_Hb_longs_43 ?_
      refine k_iload_n C d_Hb_longs_46 0 rfl ?_
      obtain rfl := Option.some.inj h
      exact k_iret C q d_Hb_longs_47
    · have h := (if_pos c4).symm.trans h
      refine k_iconst C (-1) d_Hb_longs_18 ic_m1 ?_
      obtain rfl := Option.some.inj h
      exact k_iret C q d_Hb_longs_19

def f_Hb_refusalOf (v1 : Int32) (v2 : Int32) (x : XD) : Option (Int32 × XD) := (f_Hb_isShelf v1 x).bind fun p1 => ((if p1.1 = 0 then some ((-1), p1.2) else gI v1 8 ((if p1.2 (hid v1) 0 = 0 then some ((-11), p1.2) else gI v1 8 ((if p1.2 (hid v1) 0 = v2 then some (0, p1.2) else some ((-12), p1.2)))))))
theorem m_Hb_refusalOf {g : GC} (hg : gOk g) (l : Launch)  (v1 : Int32) (v2 : Int32) (x : XD) (z : ZD) (r : Int32 × XD) (h : f_Hb_refusalOf v1 v2 x = some r) : Mi g l y_Hb_refusalOf c_Hb_refusalOf 3 (some .int) 2 [.ref (g_a g 0), .int v1, .int v2] (x, z) r.1 (r.2, z) := by
  refine m_i hg pn_Hb rfl fun X q C => ?_
  refine k_sub (lv' := [(0, .ref (g_a g 0)), (1, .int v1), (2, .int v2)]) [0, 1, 2] rfl ?_
  unfold f_Hb_refusalOf at h
  refine k_iload_n C d_Hb_refusalOf_0 1 rfl ?_
  obtain ⟨p1, ep1, h⟩ := bd_some h
  refine k_callSi C q_Hb_255 (fun l => m_Hb_isShelf (cx_g C) l v1 x z p1 ep1) rfl rfl (rtI_c q) rfl rfl rfl d_Hb_refusalOf_1 ?_
  refine k_if_ne C 9 d_Hb_refusalOf_4 (by decide) (fun c2 => ?_) (fun c2 => ?_)
  · have h := (if_neg c2).symm.trans h
    refine k_aload_n C d_Hb_refusalOf_9 0 rfl ?_
    refine kg_Hb_64 C d_Hb_refusalOf_10 ?_
    refine k_iload_n C d_Hb_refusalOf_13 1 rfl ?_
    obtain ⟨i3, h⟩ := gI_some h
    refine k_aald_Sh C i3 d_Hb_refusalOf_14 ?_
    refine kg_Hb_258 C (hid_ok i3) d_Hb_refusalOf_15 ?_
    refine k_if_ne C 24 d_Hb_refusalOf_18 (by decide) (fun c4 => ?_) (fun c4 => ?_)
    · have h := (if_neg c4).symm.trans h
      refine k_aload_n C d_Hb_refusalOf_24 0 rfl ?_
      refine kg_Hb_64 C d_Hb_refusalOf_25 ?_
      refine k_iload_n C d_Hb_refusalOf_28 1 rfl ?_
      obtain ⟨i5, h⟩ := gI_some h
      refine k_aald_Sh C i5 d_Hb_refusalOf_29 ?_
      refine kg_Hb_258 C (hid_ok i5) d_Hb_refusalOf_30 ?_
      refine k_iload_n C d_Hb_refusalOf_33 2 rfl ?_
      refine k_icmp_ne C 41 d_Hb_refusalOf_34 (by decide) (fun c6 => ?_) (fun c6 => ?_)
      · have h := (if_neg c6).symm.trans h
        refine k_bipush C (-12) d_Hb_refusalOf_41 bp_m12 ?_
        obtain rfl := Option.some.inj h
        exact k_iret C q d_Hb_refusalOf_43
      · have h := (if_pos c6).symm.trans h
        refine k_iconst C 0 d_Hb_refusalOf_37 ic_0 ?_
        refine k_goto C 43 d_Hb_refusalOf_38 (by decide) ?_
        obtain rfl := Option.some.inj h
        exact k_iret C q d_Hb_refusalOf_43
    · have h := (if_pos c4).symm.trans h
      refine k_bipush C (-11) d_Hb_refusalOf_21 bp_m11 ?_
      obtain rfl := Option.some.inj h
      exact k_iret C q d_Hb_refusalOf_23
  · have h := (if_pos c2).symm.trans h
    refine k_iconst C (-1) d_Hb_refusalOf_7 ic_m1 ?_
    obtain rfl := Option.some.inj h
    exact k_iret C q d_Hb_refusalOf_8

def f_Hb_restore (x : XD) : Option (Int32 × XD) := (if x 0 6 = 0 then some ((-3), x) else (f_La_become 10 11 x).bind fun p2 => (some (p2.2 10 4, p2.2)))
theorem m_Hb_restore {g : GC} (hg : gOk g) (l : Launch)  (x : XD) (z : ZD) (r : Int32 × XD) (h : f_Hb_restore x = some r) : Mi g l y_Hb_restore c_Hb_restore 1 (some .int) 2 [.ref (g_a g 0)] (x, z) r.1 (r.2, z) := by
  refine m_i hg pn_Hb rfl fun X q C => ?_
  refine k_sub (lv' := [(0, .ref (g_a g 0))]) [0] rfl ?_
  unfold f_Hb_restore at h
  refine k_aload_n C d_Hb_restore_0 0 rfl ?_
  refine kg_Hb_69 C d_Hb_restore_1 ?_
  refine k_if_ne C 10 d_Hb_restore_4 (by decide) (fun c1 => ?_) (fun c1 => ?_)
  · have h := (if_neg c1).symm.trans h
    refine k_aload_n C d_Hb_restore_10 0 rfl ?_
    refine kg_Hb_42 C d_Hb_restore_11 ?_
    refine k_aload_n C d_Hb_restore_14 0 rfl ?_
    refine kg_Hb_46 C d_Hb_restore_15 ?_
    obtain ⟨p2, ep2, h⟩ := bd_some h
    refine k_callVv C q_Hb_85 (fun l => m_La_become (cx_g C) l 10 (by decide) 11 (by decide) x z p2 ep2) rfl rfl (rtI_c q) (by decide) (sh_La (by decide)) rfl rfl rfl rfl d_Hb_restore_18 ?_
    refine k_aload_n C d_Hb_restore_21 0 rfl ?_
    refine kg_Hb_42 C d_Hb_restore_22 ?_
    refine kg_Hb_249 C (by decide) d_Hb_restore_25 ?_
    obtain rfl := Option.some.inj h
    exact k_iret C q d_Hb_restore_28
  · have h := (if_pos c1).symm.trans h
    refine k_bipush C (-3) d_Hb_restore_7 bp_m3 ?_
    obtain rfl := Option.some.inj h
    exact k_iret C q d_Hb_restore_9

def f_Hb_row (v1 : Int32) (v2 : Int32) (v3 : Int32) (x : XD) : Option (Int32 × XD) := (f_Hb_isShelf v1 x).bind fun p1 => ((if p1.1 = 0 then some ((-1), p1.2) else (f_Hb_isWithin v2 0 2 p1.2).bind fun p3 => ((if p3.1 = 0 then some ((-1), p3.2) else (if v3 ≤ 100 then (if 0 ≤ v3 then gI v1 8 ((f_Sh_getRow (hid v1) v2 v3 p3.2).bind fun p8 => (some (0, p8.2))) else some ((-14), p3.2)) else some ((-1), p3.2))))))
theorem m_Hb_row {g : GC} (hg : gOk g) (l : Launch)  (v1 : Int32) (v2 : Int32) (v3 : Int32) (x : XD) (z : ZD) (r : Int32 × XD) (h : f_Hb_row v1 v2 v3 x = some r) : Mi g l y_Hb_row c_Hb_row 4 (some .int) 2 [.ref (g_a g 0), .int v1, .int v2, .int v3] (x, z) r.1 (r.2, z) := by
  refine m_i hg pn_Hb rfl fun X q C => ?_
  refine k_sub (lv' := [(0, .ref (g_a g 0)), (1, .int v1), (2, .int v2), (3, .int v3)]) [0, 1, 2, 3] rfl ?_
  unfold f_Hb_row at h
  refine k_iload_n C d_Hb_row_0 1 rfl ?_
  obtain ⟨p1, ep1, h⟩ := bd_some h
  refine k_callSi C q_Hb_255 (fun l => m_Hb_isShelf (cx_g C) l v1 x z p1 ep1) rfl rfl (rtI_c q) rfl rfl rfl d_Hb_row_1 ?_
  refine k_if_eq C 22 d_Hb_row_4 (by decide) (fun c2 => ?_) (fun c2 => ?_)
  · have h := (if_pos c2).symm.trans h
    refine k_iconst C (-1) d_Hb_row_22 ic_m1 ?_
    obtain rfl := Option.some.inj h
    exact k_iret C q d_Hb_row_23
  · have h := (if_neg c2).symm.trans h
    refine k_iload_n C d_Hb_row_7 2 rfl ?_
    refine k_iconst C 0 d_Hb_row_8 ic_0 ?_
    refine k_iconst C 2 d_Hb_row_9 ic_2 ?_
    obtain ⟨p3, ep3, h⟩ := bd_some h
    refine k_callSi C q_Hb_169 (fun l => m_Hb_isWithin (cx_g C) l v2 0 2 p1.2 z p3 ep3) rfl rfl (rtI_c q) rfl rfl rfl d_Hb_row_10 ?_
    refine k_if_eq C 22 d_Hb_row_13 (by decide) (fun c4 => ?_) (fun c4 => ?_)
    · have h := (if_pos c4).symm.trans h
      refine k_iconst C (-1) d_Hb_row_22 ic_m1 ?_
      obtain rfl := Option.some.inj h
      exact k_iret C q d_Hb_row_23
    · have h := (if_neg c4).symm.trans h
      refine k_iload_n C d_Hb_row_16 3 rfl ?_
      refine k_bipush C 100 d_Hb_row_17 bp_100 ?_
      refine k_icmp_le C 24 d_Hb_row_19 (by decide) (fun c5 => ?_) (fun c5 => ?_)
      · have h := (if_pos c5).symm.trans h
        refine k_iload_n C d_Hb_row_24 3 rfl ?_
        refine k_if_ge C 31 d_Hb_row_25 (by decide) (fun c6 => ?_) (fun c6 => ?_)
        · have h := (if_pos c6).symm.trans h
          refine k_aload_n C d_Hb_row_31 0 rfl ?_
          refine kg_Hb_64 C d_Hb_row_32 ?_
          refine k_iload_n C d_Hb_row_35 1 rfl ?_
          obtain ⟨i7, h⟩ := gI_some h
          refine k_aald_Sh C i7 d_Hb_row_36 ?_
          refine k_iload_n C d_Hb_row_37 2 rfl ?_
          refine k_iload_n C d_Hb_row_38 3 rfl ?_
          obtain ⟨p8, ep8, h⟩ := bd_some h
          refine k_callVv C q_Hb_264 (fun l => m_Sh_getRow (cx_g C) l (hid v1) (hid_ok i7) v2 v3 p3.2 z p8 ep8) rfl rfl (rtI_c q) (lt105 (hid_ok i7) rfl) (sh_Sh (hid_ok i7)) rfl rfl rfl rfl d_Hb_row_39 ?_
          refine k_iconst C 0 d_Hb_row_42 ic_0 ?_
          obtain rfl := Option.some.inj h
          exact k_iret C q d_Hb_row_43
        · have h := (if_neg c6).symm.trans h
          refine k_bipush C (-14) d_Hb_row_28 bp_m14 ?_
          obtain rfl := Option.some.inj h
          exact k_iret C q d_Hb_row_30
      · have h := (if_neg c5).symm.trans h
        refine k_iconst C (-1) d_Hb_row_22 ic_m1 ?_
        obtain rfl := Option.some.inj h
        exact k_iret C q d_Hb_row_23

def f_Hb_taken (v1 : Int32) (v2 : Int32) (x : XD) : Option (Int32 × XD) := (f_Hb_isHorse v1 x).bind fun p1 => ((if p1.1 = 0 then some ((-1), p1.2) else (f_Hb_isYard v2 p1.2).bind fun p3 => ((if p3.1 = 0 then some ((-1), p3.2) else gI v1 7 (gI v1 7 (lt (x_up p3.2 (sid 10 v1) 3 v2) fun (x7 : XD) => some (p3.2 (sid 10 v1) 3, x7)))))))
theorem m_Hb_taken {g : GC} (hg : gOk g) (l : Launch)  (v1 : Int32) (v2 : Int32) (x : XD) (z : ZD) (r : Int32 × XD) (h : f_Hb_taken v1 v2 x = some r) : Mi g l y_Hb_taken c_Hb_taken 4 (some .int) 2 [.ref (g_a g 0), .int v1, .int v2] (x, z) r.1 (r.2, z) := by
  refine m_i hg pn_Hb rfl fun X q C => ?_
  refine k_sub (lv' := [(0, .ref (g_a g 0)), (1, .int v1), (2, .int v2)]) [0, 1, 2] rfl ?_
  unfold f_Hb_taken at h
  refine k_aload_n C d_Hb_taken_0 0 rfl ?_
  refine k_iload_n C d_Hb_taken_1 1 rfl ?_
  obtain ⟨p1, ep1, h⟩ := bd_some h
  refine k_callVi C q_Hb_103 (fun l => m_Hb_isHorse (cx_g C) l v1 x z p1 ep1) rfl rfl (rtI_c q) (by decide) sh_Hb rfl rfl rfl rfl d_Hb_taken_2 ?_
  refine k_if_eq C 15 d_Hb_taken_5 (by decide) (fun c2 => ?_) (fun c2 => ?_)
  · have h := (if_pos c2).symm.trans h
    refine k_iconst C (-1) d_Hb_taken_15 ic_m1 ?_
    obtain rfl := Option.some.inj h
    exact k_iret C q d_Hb_taken_16
  · have h := (if_neg c2).symm.trans h
    refine k_iload_n C d_Hb_taken_8 2 rfl ?_
    obtain ⟨p3, ep3, h⟩ := bd_some h
    refine k_callSi C q_Hb_143 (fun l => m_Hb_isYard (cx_g C) l v2 p1.2 z p3 ep3) rfl rfl (rtI_c q) rfl rfl rfl d_Hb_taken_9 ?_
    refine k_if_ne C 17 d_Hb_taken_12 (by decide) (fun c4 => ?_) (fun c4 => ?_)
    · have h := (if_neg c4).symm.trans h
      refine k_aload_n C d_Hb_taken_17 0 rfl ?_
      refine kg_Hb_42 C d_Hb_taken_18 ?_
      refine kg_Hb_107 C (by decide) d_Hb_taken_21 ?_
      refine k_iload_n C d_Hb_taken_24 1 rfl ?_
      obtain ⟨i5, h⟩ := gI_some h
      refine k_aald_St C (by decide) i5 d_Hb_taken_25 ?_
      refine kg_Hb_125 C (sid_ok (by decide) i5) d_Hb_taken_26 ?_
      refine k_istore_n C (lv' := [(3, .int (p3.2 (sid 10 v1) 3)), (0, .ref (g_a g 0)), (1, .int v1), (2, .int v2)]) d_Hb_taken_29 rfl rfl ?_
      refine k_aload_n C d_Hb_taken_30 1 rfl ?_
      refine kg_Hb_42 C d_Hb_taken_31 ?_
      refine kg_Hb_107 C (by decide) d_Hb_taken_34 ?_
      refine k_iload_n C d_Hb_taken_37 2 rfl ?_
      obtain ⟨i6, h⟩ := gI_some h
      refine k_aald_St C (by decide) i6 d_Hb_taken_38 ?_
      refine k_iload_n C d_Hb_taken_39 3 rfl ?_
      obtain ⟨x7, ex7, h⟩ := lt_some h
      refine kp_Hb_125 C (sid_ok (by decide) i6) ex7 d_Hb_taken_40 ?_
      refine k_iload_n C d_Hb_taken_43 0 rfl ?_
      obtain rfl := Option.some.inj h
      exact k_iret C q d_Hb_taken_44
    · have h := (if_pos c4).symm.trans h
      refine k_iconst C (-1) d_Hb_taken_15 ic_m1 ?_
      obtain rfl := Option.some.inj h
      exact k_iret C q d_Hb_taken_16

def f_Hb_horse (v1 : Int32) (v2 : Int32) (x : XD) : Option (Int32 × XD) := (f_Hb_isHorse v1 x).bind fun p1 => ((if p1.1 = 0 then some ((-1), p1.2) else gI v1 7 ((if v2 = 0 then (v_number (p1.2 (sid 10 v1) 0) p1.2).bind fun p5 => (some (p5.1, p5.2)) else (if v2 = 1 then some (p1.2 (sid 10 v1) 1, p1.2) else (if v2 = 2 then some (p1.2 (sid 10 v1) 2, p1.2) else (if v2 = 3 then some (p1.2 (sid 10 v1) 3, p1.2) else (if v2 = 4 then some (p1.2 (sid 10 v1) 4, p1.2) else (if v2 = 5 then (f_St_goal (sid 10 v1) (p1.2 10 3) p1.2).bind fun p11 => (some (p11.1, p11.2)) else (if v2 = 6 then (f_St_pace (sid 10 v1) p1.2).bind fun p13 => (some (p13.1, p13.2)) else (if v2 = 7 then (v_walk (p1.2 (sid 10 v1) 0) p1.2).bind fun p15 => (some (p15.1, p15.2)) else (some ((-1), p1.2)))))))))))))
theorem m_Hb_horse {g : GC} (hg : gOk g) (l : Launch)  (v1 : Int32) (v2 : Int32) (x : XD) (z : ZD) (r : Int32 × XD) (h : f_Hb_horse v1 v2 x = some r) : Mi g l y_Hb_horse c_Hb_horse 4 (some .int) 3 [.ref (g_a g 0), .int v1, .int v2] (x, z) r.1 (r.2, z) := by
  refine m_i hg pn_Hb rfl fun X q C => ?_
  refine k_sub (lv' := [(0, .ref (g_a g 0)), (1, .int v1), (2, .int v2)]) [0, 1, 2] rfl ?_
  unfold f_Hb_horse at h
  refine k_aload_n C d_Hb_horse_0 0 rfl ?_
  refine k_iload_n C d_Hb_horse_1 1 rfl ?_
  obtain ⟨p1, ep1, h⟩ := bd_some h
  refine k_callVi C q_Hb_103 (fun l => m_Hb_isHorse (cx_g C) l v1 x z p1 ep1) rfl rfl (rtI_c q) (by decide) sh_Hb rfl rfl rfl rfl d_Hb_horse_2 ?_
  refine k_if_ne C 10 d_Hb_horse_5 (by decide) (fun c2 => ?_) (fun c2 => ?_)
  · have h := (if_neg c2).symm.trans h
    refine k_aload_n C d_Hb_horse_10 0 rfl ?_
    refine kg_Hb_42 C d_Hb_horse_11 ?_
    refine kg_Hb_107 C (by decide) d_Hb_horse_14 ?_
    refine k_iload_n C d_Hb_horse_17 1 rfl ?_
    obtain ⟨i3, h⟩ := gI_some h
    refine k_aald_St C (by decide) i3 d_Hb_horse_18 ?_
    refine k_astore_n C (lv' := [(3, .ref (g_a g (sid 10 v1))), (0, .ref (g_a g 0)), (1, .int v1), (2, .int v2)]) d_Hb_horse_19 rfl rfl ?_
    refine k_iload_n C d_Hb_horse_20 3 rfl ?_
    by_cases c4 : v2 = 0
    · have h := (if_pos c4).symm.trans h
      refine k_tabin C (47) 68 d_Hb_horse_21 (by rw [c4]; decide) (by rw [c4]; decide) (by rw [c4]; decide) (by decide) ?_
      refine k_aload_n C d_Hb_horse_68 0 rfl ?_
      refine kg_Hb_111 C (sid_ok (by decide) i3) d_Hb_horse_69 ?_
      obtain ⟨p5, ep5, h⟩ := bd_some h
      refine kv_Hb_115 C ep5 rfl (rtI_c q) rfl d_Hb_horse_72 ?_
      obtain rfl := Option.some.inj h
      exact k_iret C q d_Hb_horse_75
    have h := (if_neg c4).symm.trans h
    by_cases c6 : v2 = 1
    · have h := (if_pos c6).symm.trans h
      refine k_tabin C (55) 76 d_Hb_horse_21 (by rw [c6]; decide) (by rw [c6]; decide) (by rw [c6]; decide) (by decide) ?_
      refine k_aload_n C d_Hb_horse_76 0 rfl ?_
      refine kg_Hb_119 C (sid_ok (by decide) i3) d_Hb_horse_77 ?_
      obtain rfl := Option.some.inj h
      exact k_iret C q d_Hb_horse_80
    have h := (if_neg c6).symm.trans h
    by_cases c7 : v2 = 2
    · have h := (if_pos c7).symm.trans h
      refine k_tabin C (60) 81 d_Hb_horse_21 (by rw [c7]; decide) (by rw [c7]; decide) (by rw [c7]; decide) (by decide) ?_
      refine k_aload_n C d_Hb_horse_81 0 rfl ?_
      refine kg_Hb_122 C (sid_ok (by decide) i3) d_Hb_horse_82 ?_
      obtain rfl := Option.some.inj h
      exact k_iret C q d_Hb_horse_85
    have h := (if_neg c7).symm.trans h
    by_cases c8 : v2 = 3
    · have h := (if_pos c8).symm.trans h
      refine k_tabin C (65) 86 d_Hb_horse_21 (by rw [c8]; decide) (by rw [c8]; decide) (by rw [c8]; decide) (by decide) ?_
      refine k_aload_n C d_Hb_horse_86 0 rfl ?_
      refine kg_Hb_125 C (sid_ok (by decide) i3) d_Hb_horse_87 ?_
      obtain rfl := Option.some.inj h
      exact k_iret C q d_Hb_horse_90
    have h := (if_neg c8).symm.trans h
    by_cases c9 : v2 = 4
    · have h := (if_pos c9).symm.trans h
      refine k_tabin C (70) 91 d_Hb_horse_21 (by rw [c9]; decide) (by rw [c9]; decide) (by rw [c9]; decide) (by decide) ?_
      refine k_aload_n C d_Hb_horse_91 0 rfl ?_
      refine kg_Hb_128 C (sid_ok (by decide) i3) d_Hb_horse_92 ?_
      obtain rfl := Option.some.inj h
      exact k_iret C q d_Hb_horse_95
    have h := (if_neg c9).symm.trans h
    by_cases c10 : v2 = 5
    · have h := (if_pos c10).symm.trans h
      refine k_tabin C (75) 96 d_Hb_horse_21 (by rw [c10]; decide) (by rw [c10]; decide) (by rw [c10]; decide) (by decide) ?_
      refine k_aload_n C d_Hb_horse_96 0 rfl ?_
      refine k_aload_n C d_Hb_horse_97 1 rfl ?_
      refine kg_Hb_42 C d_Hb_horse_98 ?_
      refine kg_Hb_131 C (by decide) d_Hb_horse_101 ?_
      obtain ⟨p11, ep11, h⟩ := bd_some h
      refine k_callVi C q_Hb_134 (fun l => m_St_goal (cx_g C) l (sid 10 v1) (sid_ok (by decide) i3) (p1.2 10 3) p1.2 z p11 ep11) rfl rfl (rtI_c q) (lt105 (sid_ok (by decide) i3) rfl) (sh_St (sid_ok (by decide) i3)) rfl rfl rfl rfl d_Hb_horse_104 ?_
      obtain rfl := Option.some.inj h
      exact k_iret C q d_Hb_horse_107
    have h := (if_neg c10).symm.trans h
    by_cases c12 : v2 = 6
    · have h := (if_pos c12).symm.trans h
      refine k_tabin C (87) 108 d_Hb_horse_21 (by rw [c12]; decide) (by rw [c12]; decide) (by rw [c12]; decide) (by decide) ?_
      refine k_aload_n C d_Hb_horse_108 0 rfl ?_
      obtain ⟨p13, ep13, h⟩ := bd_some h
      refine k_callVi C q_Hb_137 (fun l => m_St_pace (cx_g C) l (sid 10 v1) (sid_ok (by decide) i3) p1.2 z p13 ep13) rfl rfl (rtI_c q) (lt105 (sid_ok (by decide) i3) rfl) (sh_St (sid_ok (by decide) i3)) rfl rfl rfl rfl d_Hb_horse_109 ?_
      obtain rfl := Option.some.inj h
      exact k_iret C q d_Hb_horse_112
    have h := (if_neg c12).symm.trans h
    by_cases c14 : v2 = 7
    · have h := (if_pos c14).symm.trans h
      refine k_tabin C (92) 113 d_Hb_horse_21 (by rw [c14]; decide) (by rw [c14]; decide) (by rw [c14]; decide) (by decide) ?_
      refine k_aload_n C d_Hb_horse_113 0 rfl ?_
      refine kg_Hb_111 C (sid_ok (by decide) i3) d_Hb_horse_114 ?_
      obtain ⟨p15, ep15, h⟩ := bd_some h
      refine kv_Hb_140 C ep15 rfl (rtI_c q) rfl d_Hb_horse_117 ?_
      obtain rfl := Option.some.inj h
      exact k_iret C q d_Hb_horse_120
    have h := (if_neg c14).symm.trans h
    have ac4 : ¬ v2.toInt = 0 := nti c4
    have ac6 : ¬ v2.toInt = 1 := nti c6
    have ac7 : ¬ v2.toInt = 2 := nti c7
    have ac8 : ¬ v2.toInt = 3 := nti c8
    have ac9 : ¬ v2.toInt = 4 := nti c9
    have ac10 : ¬ v2.toInt = 5 := nti c10
    have ac12 : ¬ v2.toInt = 6 := nti c12
    have ac14 : ¬ v2.toInt = 7 := nti c14
    refine k_tabout C 121 d_Hb_horse_21 (by omega) (by decide) ?_
    refine k_iconst C (-1) d_Hb_horse_121 ic_m1 ?_
    obtain rfl := Option.some.inj h
    exact k_iret C q d_Hb_horse_122
  · have h := (if_pos c2).symm.trans h
    refine k_iconst C (-1) d_Hb_horse_8 ic_m1 ?_
    obtain rfl := Option.some.inj h
    exact k_iret C q d_Hb_horse_9

def b_Hb_isTold_58 (K3 : Int32 → XD → Option (Int32 × XD)) (o1 : Nat) (o2 : Nat) (v3 : Int32) (v4 : Int32) (x : XD) : Option (Int32 × XD) := K3 (v4 + 1) x
theorem t_Hb_isTold_58 {g : GC} {X : MX} (C : Cx g X c_Hb_isTold 5 n_Hb 3) {r : Int32 × XD} {z : ZD} (q : RtI g X (some .boolean) r.1 (r.2, z)) (o1 : Nat) (h_o1 : 22 ≤ o1 ∧ o1 < 65) (o2 : Nat) (h_o2 : 67 ≤ o2 ∧ o2 < 75) (v3 : Int32) (v4 : Int32) (K3 : Int32 → XD → Option (Int32 × XD)) (hK3 : ∀ (v4 : Int32) (x : XD), K3 v4 x = some r → Wk g X 5 3 [(0, .ref (g_a g 0)), (1, .ref (g_a g o1)), (2, .ref (g_a g o2)), (3, .int v3), (4, .int v4)] [] (x, z)) (x : XD) (h : b_Hb_isTold_58 K3 o1 o2 v3 v4 x = some r) : Wk g X 5 58 [(0, .ref (g_a g 0)), (1, .ref (g_a g o1)), (2, .ref (g_a g o2)), (3, .int v3), (4, .int v4)] [] (x, z) := by
  unfold b_Hb_isTold_58 at h
  refine k_inc C (lv' := [(4, .int (v4 + 1)), (0, .ref (g_a g 0)), (1, .ref (g_a g o1)), (2, .ref (g_a g o2)), (3, .int v3)]) d_Hb_isTold_58 4 rfl ic_1 rfl rfl ?_
  refine k_goto C 3 d_Hb_isTold_61 (by decide) ?_
  exact k_sub [1, 2, 3, 4, 0] rfl (hK3 (v4 + 1) x h)

def b_Hb_isTold_3 (o1 : Nat) (o2 : Nat) (v3 : Int32) : Nat → Int32 → XD → Option (Int32 × XD)
  | 0, _, _ => none
  | n + 1, v4, x => (if x o2 4 ≤ v4 then some (1, x) else (f_Sh_tells o2 v4 (x o1 3) x).bind fun p2 => ((if p2.1 = 0 then some (0, p2.2) else (if p2.2 o1 3 = v3 then b_Hb_isTold_58 (b_Hb_isTold_3 o1 o2 v3 n) o1 o2 v3 v4 p2.2 else (f_St_move o1 v3 (p2.2 10 3) p2.2).bind fun p5 => ((f_St_pine o1 (p5.2 10 3) p5.2).bind fun p6 => (b_Hb_isTold_58 (b_Hb_isTold_3 o1 o2 v3 n) o1 o2 v3 v4 p6.2))))))
theorem t_Hb_isTold_3 {g : GC} {X : MX} (C : Cx g X c_Hb_isTold 5 n_Hb 3) {r : Int32 × XD} {z : ZD} (q : RtI g X (some .boolean) r.1 (r.2, z)) (o1 : Nat) (h_o1 : 22 ≤ o1 ∧ o1 < 65) (o2 : Nat) (h_o2 : 67 ≤ o2 ∧ o2 < 75) (v3 : Int32) : ∀ (n : Nat) (v4 : Int32) (x : XD) (h : b_Hb_isTold_3 o1 o2 v3 n v4 x = some r), Wk g X 5 3 [(0, .ref (g_a g 0)), (1, .ref (g_a g o1)), (2, .ref (g_a g o2)), (3, .int v3), (4, .int v4)] [] (x, z) := by
  intro n
  induction n with
  | zero =>
    intro v4 x h
    rw [b_Hb_isTold_3] at h
    cases h
  | succ n ih =>
    intro v4 x h
    rw [b_Hb_isTold_3] at h
    refine k_iload C d_Hb_isTold_3 4 rfl ?_
    refine k_aload_n C d_Hb_isTold_5 2 rfl ?_
    refine kg_Hb_89 C h_o2 d_Hb_isTold_6 ?_
    refine k_icmp_ge C 64 d_Hb_isTold_9 (by decide) (fun c1 => ?_) (fun c1 => ?_)
    · have h := (if_pos c1).symm.trans h
      refine k_iconst C 1 d_Hb_isTold_64 ic_1 ?_
      obtain rfl := Option.some.inj h
      exact k_zret C q (Or.inr rfl) d_Hb_isTold_65
    · have h := (if_neg c1).symm.trans h
      refine k_aload_n C d_Hb_isTold_12 2 rfl ?_
      refine k_iload C d_Hb_isTold_13 4 rfl ?_
      refine k_aload_n C d_Hb_isTold_15 1 rfl ?_
      refine kg_Hb_125 C h_o1 d_Hb_isTold_16 ?_
      obtain ⟨p2, ep2, h⟩ := bd_some h
      refine k_callVi C q_Hb_239 (fun l => m_Sh_tells (cx_g C) l o2 h_o2 v4 (x o1 3) x z p2 ep2) rfl rfl (rtI_c q) (lt105 h_o2 rfl) (sh_Sh h_o2) rfl rfl rfl rfl d_Hb_isTold_19 ?_
      refine k_if_ne C 27 d_Hb_isTold_22 (by decide) (fun c3 => ?_) (fun c3 => ?_)
      · have h := (if_neg c3).symm.trans h
        refine k_aload_n C d_Hb_isTold_27 1 rfl ?_
        refine kg_Hb_125 C h_o1 d_Hb_isTold_28 ?_
        refine k_iload_n C d_Hb_isTold_31 3 rfl ?_
        refine k_icmp_eq C 58 d_Hb_isTold_32 (by decide) (fun c4 => ?_) (fun c4 => ?_)
        · have h := (if_pos c4).symm.trans h
          exact k_sub [0, 1, 2, 3, 4] rfl (t_Hb_isTold_58 C q o1 h_o1 o2 h_o2 v3 v4 (b_Hb_isTold_3 o1 o2 v3 n) ih p2.2 h)
        · have h := (if_neg c4).symm.trans h
          refine k_aload_n C d_Hb_isTold_35 1 rfl ?_
          refine k_iload_n C d_Hb_isTold_36 3 rfl ?_
          refine k_aload_n C d_Hb_isTold_37 0 rfl ?_
          refine kg_Hb_42 C d_Hb_isTold_38 ?_
          refine kg_Hb_131 C (by decide) d_Hb_isTold_41 ?_
          obtain ⟨p5, ep5, h⟩ := bd_some h
          refine k_callVv C q_Hb_308 (fun l => m_St_move (cx_g C) l o1 h_o1 v3 (p2.2 10 3) p2.2 z p5 ep5) rfl rfl (rtI_c q) (lt105 h_o1 rfl) (sh_St h_o1) rfl rfl rfl rfl d_Hb_isTold_44 ?_
          refine k_aload_n C d_Hb_isTold_47 1 rfl ?_
          refine k_aload_n C d_Hb_isTold_48 0 rfl ?_
          refine kg_Hb_42 C d_Hb_isTold_49 ?_
          refine kg_Hb_131 C (by decide) d_Hb_isTold_52 ?_
          obtain ⟨p6, ep6, h⟩ := bd_some h
          refine k_callVv C q_Hb_311 (fun l => m_St_pine (cx_g C) l o1 h_o1 (p5.2 10 3) p5.2 z p6 ep6) rfl rfl (rtI_c q) (lt105 h_o1 rfl) (sh_St h_o1) rfl rfl rfl rfl d_Hb_isTold_55 ?_
          exact k_sub [0, 1, 2, 3, 4] rfl (t_Hb_isTold_58 C q o1 h_o1 o2 h_o2 v3 v4 (b_Hb_isTold_3 o1 o2 v3 n) ih p6.2 h)
      · have h := (if_pos c3).symm.trans h
        refine k_iconst C 0 d_Hb_isTold_25 ic_0 ?_
        obtain rfl := Option.some.inj h
        exact k_zret C q (Or.inl rfl) d_Hb_isTold_26

def f_Hb_isTold (o1 : Nat) (o2 : Nat) (v3 : Int32) (x : XD) : Option (Int32 × XD) := b_Hb_isTold_3 o1 o2 v3 fu 0 x
theorem m_Hb_isTold {g : GC} (hg : gOk g) (l : Launch)  (o1 : Nat) (h_o1 : 22 ≤ o1 ∧ o1 < 65) (o2 : Nat) (h_o2 : 67 ≤ o2 ∧ o2 < 75) (v3 : Int32) (x : XD) (z : ZD) (r : Int32 × XD) (h : f_Hb_isTold o1 o2 v3 x = some r) : Mi g l y_Hb_isTold c_Hb_isTold 5 (some .boolean) 3 [.ref (g_a g 0), .ref (g_a g o1), .ref (g_a g o2), .int v3] (x, z) r.1 (r.2, z) := by
  refine m_i hg pn_Hb rfl fun X q C => ?_
  refine k_sub (lv' := [(0, .ref (g_a g 0)), (1, .ref (g_a g o1)), (2, .ref (g_a g o2)), (3, .int v3)]) [0, 1, 2, 3] rfl ?_
  unfold f_Hb_isTold at h
  refine k_iconst C 0 d_Hb_isTold_0 ic_0 ?_
  refine k_istore C (lv' := [(4, .int 0), (0, .ref (g_a g 0)), (1, .ref (g_a g o1)), (2, .ref (g_a g o2)), (3, .int v3)]) d_Hb_isTold_1 rfl rfl ?_
  exact k_sub [1, 2, 3, 4, 0] rfl (t_Hb_isTold_3 C q o1 h_o1 o2 h_o2 v3 fu 0 x h)

def f_Hb_refusalOfKind (v1 : Int32) (x : XD) : Option (Int32 × XD) := (f_Hb_refusalOf v1 1 x).bind fun p1 => (some (p1.1, p1.2))
theorem m_Hb_refusalOfKind {g : GC} (hg : gOk g) (l : Launch)  (v1 : Int32) (x : XD) (z : ZD) (r : Int32 × XD) (h : f_Hb_refusalOfKind v1 x = some r) : Mi g l y_Hb_refusalOfKind c_Hb_refusalOfKind 2 (some .int) 3 [.ref (g_a g 0), .int v1] (x, z) r.1 (r.2, z) := by
  refine m_i hg pn_Hb rfl fun X q C => ?_
  refine k_sub (lv' := [(0, .ref (g_a g 0)), (1, .int v1)]) [0, 1] rfl ?_
  unfold f_Hb_refusalOfKind at h
  refine k_aload_n C d_Hb_refusalOfKind_0 0 rfl ?_
  refine k_iload_n C d_Hb_refusalOfKind_1 1 rfl ?_
  refine k_iconst C 1 d_Hb_refusalOfKind_2 ic_1 ?_
  obtain ⟨p1, ep1, h⟩ := bd_some h
  refine k_callVi C q_Hb_299 (fun l => m_Hb_refusalOf (cx_g C) l v1 1 x z p1 ep1) rfl rfl (rtI_c q) (by decide) sh_Hb rfl rfl rfl rfl d_Hb_refusalOfKind_3 ?_
  obtain rfl := Option.some.inj h
  exact k_iret C q d_Hb_refusalOfKind_6

def f_Hb_refusalOfRow (v1 : Int32) (x : XD) : Option (Int32 × XD) := (f_Hb_refusalOf v1 2 x).bind fun p1 => (some (p1.1, p1.2))
theorem m_Hb_refusalOfRow {g : GC} (hg : gOk g) (l : Launch)  (v1 : Int32) (x : XD) (z : ZD) (r : Int32 × XD) (h : f_Hb_refusalOfRow v1 x = some r) : Mi g l y_Hb_refusalOfRow c_Hb_refusalOfRow 2 (some .int) 3 [.ref (g_a g 0), .int v1] (x, z) r.1 (r.2, z) := by
  refine m_i hg pn_Hb rfl fun X q C => ?_
  refine k_sub (lv' := [(0, .ref (g_a g 0)), (1, .int v1)]) [0, 1] rfl ?_
  unfold f_Hb_refusalOfRow at h
  refine k_aload_n C d_Hb_refusalOfRow_0 0 rfl ?_
  refine k_iload_n C d_Hb_refusalOfRow_1 1 rfl ?_
  refine k_iconst C 2 d_Hb_refusalOfRow_2 ic_2 ?_
  obtain ⟨p1, ep1, h⟩ := bd_some h
  refine k_callVi C q_Hb_299 (fun l => m_Hb_refusalOf (cx_g C) l v1 2 x z p1 ep1) rfl rfl (rtI_c q) (by decide) sh_Hb rfl rfl rfl rfl d_Hb_refusalOfRow_3 ?_
  obtain rfl := Option.some.inj h
  exact k_iret C q d_Hb_refusalOfRow_6

def b_Hb_away_43 (K4 : Int32 → Int32 → XD → Option (Int32 × XD)) (v1 : Int32) (v2 : Int32) (x : XD) : Option (Int32 × XD) := K4 v1 (v2 + 1) x
theorem t_Hb_away_43 {g : GC} {X : MX} (C : Cx g X c_Hb_away 3 n_Hb 4) {r : Int32 × XD} {z : ZD} (q : RtI g X (some .int) r.1 (r.2, z)) (v1 : Int32) (v2 : Int32) (K4 : Int32 → Int32 → XD → Option (Int32 × XD)) (hK4 : ∀ (v1 : Int32) (v2 : Int32) (x : XD), K4 v1 v2 x = some r → Wk g X 3 4 [(0, .ref (g_a g 0)), (1, .int v1), (2, .int v2)] [] (x, z)) (x : XD) (h : b_Hb_away_43 K4 v1 v2 x = some r) : Wk g X 3 43 [(0, .ref (g_a g 0)), (1, .int v1), (2, .int v2)] [] (x, z) := by
  unfold b_Hb_away_43 at h
  refine k_inc C (lv' := [(2, .int (v2 + 1)), (0, .ref (g_a g 0)), (1, .int v1)]) d_Hb_away_43 2 rfl ic_1 rfl rfl ?_
  refine k_goto C 4 d_Hb_away_46 (by decide) ?_
  exact k_sub [1, 2, 0] rfl (hK4 v1 (v2 + 1) x h)

def b_Hb_away_4 : Nat → Int32 → Int32 → XD → Option (Int32 × XD)
  | 0, _, _, _ => none
  | n + 1, v1, v2, x => (if x 10 2 ≤ v2 then some (v1, x) else gI v2 7 ((f_St_rests (sid 10 v2) (x 10 3) x).bind fun p3 => ((if p3.1 = 0 then b_Hb_away_43 (b_Hb_away_4 n) (v1 ||| (1 <<< (v2 &&& 31))) v2 p3.2 else b_Hb_away_43 (b_Hb_away_4 n) v1 v2 p3.2))))
theorem t_Hb_away_4 {g : GC} {X : MX} (C : Cx g X c_Hb_away 3 n_Hb 4) {r : Int32 × XD} {z : ZD} (q : RtI g X (some .int) r.1 (r.2, z)) : ∀ (n : Nat) (v1 : Int32) (v2 : Int32) (x : XD) (h : b_Hb_away_4 n v1 v2 x = some r), Wk g X 3 4 [(0, .ref (g_a g 0)), (1, .int v1), (2, .int v2)] [] (x, z) := by
  intro n
  induction n with
  | zero =>
    intro v1 v2 x h
    rw [b_Hb_away_4] at h
    cases h
  | succ n ih =>
    intro v1 v2 x h
    rw [b_Hb_away_4] at h
    refine k_iload_n C d_Hb_away_4 2 rfl ?_
    refine k_aload_n C d_Hb_away_5 0 rfl ?_
    refine kg_Hb_42 C d_Hb_away_6 ?_
    refine kg_Hb_149 C (by decide) d_Hb_away_9 ?_
    refine k_icmp_ge C 49 d_Hb_away_12 (by decide) (fun c1 => ?_) (fun c1 => ?_)
    · have h := (if_pos c1).symm.trans h
      refine k_iload_n C d_Hb_away_49 1 rfl ?_
      obtain rfl := Option.some.inj h
      exact k_iret C q d_Hb_away_50
    · have h := (if_neg c1).symm.trans h
      refine k_aload_n C d_Hb_away_15 0 rfl ?_
      refine kg_Hb_42 C d_Hb_away_16 ?_
      refine kg_Hb_107 C (by decide) d_Hb_away_19 ?_
      refine k_iload_n C d_Hb_away_22 2 rfl ?_
      obtain ⟨i2, h⟩ := gI_some h
      refine k_aald_St C (by decide) i2 d_Hb_away_23 ?_
      refine k_aload_n C d_Hb_away_24 0 rfl ?_
      refine kg_Hb_42 C d_Hb_away_25 ?_
      refine kg_Hb_131 C (by decide) d_Hb_away_28 ?_
      obtain ⟨p3, ep3, h⟩ := bd_some h
      refine k_callVi C q_Hb_194 (fun l => m_St_rests (cx_g C) l (sid 10 v2) (sid_ok (by decide) i2) (x 10 3) x z p3 ep3) rfl rfl (rtI_c q) (lt105 (sid_ok (by decide) i2) rfl) (sh_St (sid_ok (by decide) i2)) rfl rfl rfl rfl d_Hb_away_31 ?_
      refine k_if_ne C 43 d_Hb_away_34 (by decide) (fun c4 => ?_) (fun c4 => ?_)
      · have h := (if_neg c4).symm.trans h
        exact k_sub [0, 1, 2] rfl (t_Hb_away_43 C q v1 v2 (b_Hb_away_4 n) ih p3.2 h)
      · have h := (if_pos c4).symm.trans h
        refine k_iload_n C d_Hb_away_37 1 rfl ?_
        refine k_iconst C 1 d_Hb_away_38 ic_1 ?_
        refine k_iload_n C d_Hb_away_39 2 rfl ?_
        refine k_ishl C d_Hb_away_40 ?_
        refine k_ior C d_Hb_away_41 ?_
        refine k_istore_n C (lv' := [(1, .int (v1 ||| (1 <<< (v2 &&& 31)))), (0, .ref (g_a g 0)), (2, .int v2)]) d_Hb_away_42 rfl rfl ?_
        exact k_sub [1, 0, 2] rfl (t_Hb_away_43 C q (v1 ||| (1 <<< (v2 &&& 31))) v2 (b_Hb_away_4 n) ih p3.2 h)

def f_Hb_away (x : XD) : Option (Int32 × XD) := b_Hb_away_4 fu 0 0 x
theorem m_Hb_away {g : GC} (hg : gOk g) (l : Launch)  (x : XD) (z : ZD) (r : Int32 × XD) (h : f_Hb_away x = some r) : Mi g l y_Hb_away c_Hb_away 3 (some .int) 4 [.ref (g_a g 0)] (x, z) r.1 (r.2, z) := by
  refine m_i hg pn_Hb rfl fun X q C => ?_
  refine k_sub (lv' := [(0, .ref (g_a g 0))]) [0] rfl ?_
  unfold f_Hb_away at h
  refine k_iconst C 0 d_Hb_away_0 ic_0 ?_
  refine k_istore_n C (lv' := [(1, .int 0), (0, .ref (g_a g 0))]) d_Hb_away_1 rfl rfl ?_
  refine k_iconst C 0 d_Hb_away_2 ic_0 ?_
  refine k_istore_n C (lv' := [(2, .int 0), (1, .int 0), (0, .ref (g_a g 0))]) d_Hb_away_3 rfl rfl ?_
  exact k_sub [2, 1, 0] rfl (t_Hb_away_4 C q fu 0 0 x h)

def f_Hb_behind (v1 : Int32) (v2 : Int32) (v3 : Int32) (x : XD) : Option (Int32 × XD) := (f_Hb_isHorse v1 x).bind fun p1 => ((if p1.1 = 0 then some ((-1), p1.2) else (f_Hb_isWithin v2 0 60 p1.2).bind fun p3 => ((if p3.1 = 0 then some ((-1), p3.2) else (f_Hb_isEither v3 p3.2).bind fun p5 => ((if p5.1 = 0 then some ((-1), p5.2) else gI v1 7 ((f_St_become 64 (sid 10 v1) p5.2).bind fun p8 => ((f_St_stay 64 v2 (p8.2 10 3) p8.2).bind fun p9 => ((if v3 = 0 then some (p9.2 64 4, p9.2) else (f_St_pace 64 p9.2).bind fun p11 => (some (p11.1, p11.2))))))))))))
theorem m_Hb_behind {g : GC} (hg : gOk g) (l : Launch)  (v1 : Int32) (v2 : Int32) (v3 : Int32) (x : XD) (z : ZD) (r : Int32 × XD) (h : f_Hb_behind v1 v2 v3 x = some r) : Mi g l y_Hb_behind c_Hb_behind 4 (some .int) 4 [.ref (g_a g 0), .int v1, .int v2, .int v3] (x, z) r.1 (r.2, z) := by
  refine m_i hg pn_Hb rfl fun X q C => ?_
  refine k_sub (lv' := [(0, .ref (g_a g 0)), (1, .int v1), (2, .int v2), (3, .int v3)]) [0, 1, 2, 3] rfl ?_
  unfold f_Hb_behind at h
  refine k_aload_n C d_Hb_behind_0 0 rfl ?_
  refine k_iload_n C d_Hb_behind_1 1 rfl ?_
  obtain ⟨p1, ep1, h⟩ := bd_some h
  refine k_callVi C q_Hb_103 (fun l => m_Hb_isHorse (cx_g C) l v1 x z p1 ep1) rfl rfl (rtI_c q) (by decide) sh_Hb rfl rfl rfl rfl d_Hb_behind_2 ?_
  refine k_if_eq C 25 d_Hb_behind_5 (by decide) (fun c2 => ?_) (fun c2 => ?_)
  · have h := (if_pos c2).symm.trans h
    refine k_iconst C (-1) d_Hb_behind_25 ic_m1 ?_
    obtain rfl := Option.some.inj h
    exact k_iret C q d_Hb_behind_26
  · have h := (if_neg c2).symm.trans h
    refine k_iload_n C d_Hb_behind_8 2 rfl ?_
    refine k_iconst C 0 d_Hb_behind_9 ic_0 ?_
    refine k_bipush C 60 d_Hb_behind_10 bp_60 ?_
    obtain ⟨p3, ep3, h⟩ := bd_some h
    refine k_callSi C q_Hb_169 (fun l => m_Hb_isWithin (cx_g C) l v2 0 60 p1.2 z p3 ep3) rfl rfl (rtI_c q) rfl rfl rfl d_Hb_behind_12 ?_
    refine k_if_eq C 25 d_Hb_behind_15 (by decide) (fun c4 => ?_) (fun c4 => ?_)
    · have h := (if_pos c4).symm.trans h
      refine k_iconst C (-1) d_Hb_behind_25 ic_m1 ?_
      obtain rfl := Option.some.inj h
      exact k_iret C q d_Hb_behind_26
    · have h := (if_neg c4).symm.trans h
      refine k_iload_n C d_Hb_behind_18 3 rfl ?_
      obtain ⟨p5, ep5, h⟩ := bd_some h
      refine k_callSi C q_Hb_180 (fun l => m_Hb_isEither (cx_g C) l v3 p3.2 z p5 ep5) rfl rfl (rtI_c q) rfl rfl rfl d_Hb_behind_19 ?_
      refine k_if_ne C 27 d_Hb_behind_22 (by decide) (fun c6 => ?_) (fun c6 => ?_)
      · have h := (if_neg c6).symm.trans h
        refine k_aload_n C d_Hb_behind_27 0 rfl ?_
        refine kg_Hb_58 C d_Hb_behind_28 ?_
        refine k_aload_n C d_Hb_behind_31 0 rfl ?_
        refine kg_Hb_42 C d_Hb_behind_32 ?_
        refine kg_Hb_107 C (by decide) d_Hb_behind_35 ?_
        refine k_iload_n C d_Hb_behind_38 1 rfl ?_
        obtain ⟨i7, h⟩ := gI_some h
        refine k_aald_St C (by decide) i7 d_Hb_behind_39 ?_
        obtain ⟨p8, ep8, h⟩ := bd_some h
        refine k_callVv C q_Hb_183 (fun l => m_St_become (cx_g C) l 64 (by decide) (sid 10 v1) (sid_ok (by decide) i7) p5.2 z p8 ep8) rfl rfl (rtI_c q) (by decide) (sh_St (by decide)) rfl rfl rfl rfl d_Hb_behind_40 ?_
        refine k_aload_n C d_Hb_behind_43 0 rfl ?_
        refine kg_Hb_58 C d_Hb_behind_44 ?_
        refine k_iload_n C d_Hb_behind_47 2 rfl ?_
        refine k_aload_n C d_Hb_behind_48 0 rfl ?_
        refine kg_Hb_42 C d_Hb_behind_49 ?_
        refine kg_Hb_131 C (by decide) d_Hb_behind_52 ?_
        obtain ⟨p9, ep9, h⟩ := bd_some h
        refine k_callVv C q_Hb_186 (fun l => m_St_stay (cx_g C) l 64 (by decide) v2 (p8.2 10 3) p8.2 z p9 ep9) rfl rfl (rtI_c q) (by decide) (sh_St (by decide)) rfl rfl rfl rfl d_Hb_behind_55 ?_
        refine k_iload_n C d_Hb_behind_58 3 rfl ?_
        refine k_if_ne C 72 d_Hb_behind_59 (by decide) (fun c10 => ?_) (fun c10 => ?_)
        · have h := (if_neg c10).symm.trans h
          refine k_aload_n C d_Hb_behind_72 0 rfl ?_
          refine kg_Hb_58 C d_Hb_behind_73 ?_
          obtain ⟨p11, ep11, h⟩ := bd_some h
          refine k_callVi C q_Hb_137 (fun l => m_St_pace (cx_g C) l 64 (by decide) p9.2 z p11 ep11) rfl rfl (rtI_c q) (by decide) (sh_St (by decide)) rfl rfl rfl rfl d_Hb_behind_76 ?_
          obtain rfl := Option.some.inj h
          exact k_iret C q d_Hb_behind_79
        · have h := (if_pos c10).symm.trans h
          refine k_aload_n C d_Hb_behind_62 0 rfl ?_
          refine kg_Hb_58 C d_Hb_behind_63 ?_
          refine kg_Hb_128 C (by decide) d_Hb_behind_66 ?_
          refine k_goto C 79 d_Hb_behind_69 (by decide) ?_
          obtain rfl := Option.some.inj h
          exact k_iret C q d_Hb_behind_79
      · have h := (if_pos c6).symm.trans h
        refine k_iconst C (-1) d_Hb_behind_25 ic_m1 ?_
        obtain rfl := Option.some.inj h
        exact k_iret C q d_Hb_behind_26

def f_Hb_comes (v1 : Int32) (v2 : Int32) (v3 : Int32) (x : XD) : Option (Int32 × XD) := (f_Hb_isYard v2 x).bind fun p1 => ((if p1.1 = 0 then some ((-1), p1.2) else (f_Hb_isYard v3 p1.2).bind fun p3 => ((if p3.1 = 0 then some ((-1), p3.2) else (f_Hb_refusalOfKind v1 p3.2).bind fun p5 => ((if p5.1 = 0 then gI v1 8 (gI v1 8 ((f_La_gets 10 (p5.2 (hid v1) 1) (p5.2 (hid v1) 2) v2 v3 p5.2).bind fun p9 => ((if p9.1 = 0 then some ((-2), p9.2) else some (p5.2 10 2, p9.2))))) else some (p5.1, p5.2)))))))
theorem m_Hb_comes {g : GC} (hg : gOk g) (l : Launch)  (v1 : Int32) (v2 : Int32) (v3 : Int32) (x : XD) (z : ZD) (r : Int32 × XD) (h : f_Hb_comes v1 v2 v3 x = some r) : Mi g l y_Hb_comes c_Hb_comes 6 (some .int) 4 [.ref (g_a g 0), .int v1, .int v2, .int v3] (x, z) r.1 (r.2, z) := by
  refine m_i hg pn_Hb rfl fun X q C => ?_
  refine k_sub (lv' := [(0, .ref (g_a g 0)), (1, .int v1), (2, .int v2), (3, .int v3)]) [0, 1, 2, 3] rfl ?_
  unfold f_Hb_comes at h
  refine k_iload_n C d_Hb_comes_0 2 rfl ?_
  obtain ⟨p1, ep1, h⟩ := bd_some h
  refine k_callSi C q_Hb_143 (fun l => m_Hb_isYard (cx_g C) l v2 x z p1 ep1) rfl rfl (rtI_c q) rfl rfl rfl d_Hb_comes_1 ?_
  refine k_if_eq C 14 d_Hb_comes_4 (by decide) (fun c2 => ?_) (fun c2 => ?_)
  · have h := (if_pos c2).symm.trans h
    refine k_iconst C (-1) d_Hb_comes_14 ic_m1 ?_
    obtain rfl := Option.some.inj h
    exact k_iret C q d_Hb_comes_15
  · have h := (if_neg c2).symm.trans h
    refine k_iload_n C d_Hb_comes_7 3 rfl ?_
    obtain ⟨p3, ep3, h⟩ := bd_some h
    refine k_callSi C q_Hb_143 (fun l => m_Hb_isYard (cx_g C) l v3 p1.2 z p3 ep3) rfl rfl (rtI_c q) rfl rfl rfl d_Hb_comes_8 ?_
    refine k_if_ne C 16 d_Hb_comes_11 (by decide) (fun c4 => ?_) (fun c4 => ?_)
    · have h := (if_neg c4).symm.trans h
      refine k_aload_n C d_Hb_comes_16 0 rfl ?_
      refine k_iload_n C d_Hb_comes_17 1 rfl ?_
      obtain ⟨p5, ep5, h⟩ := bd_some h
      refine k_callVi C q_Hb_146 (fun l => m_Hb_refusalOfKind (cx_g C) l v1 p3.2 z p5 ep5) rfl rfl (rtI_c q) (by decide) sh_Hb rfl rfl rfl rfl d_Hb_comes_18 ?_
      refine k_istore C (lv' := [(4, .int p5.1), (0, .ref (g_a g 0)), (1, .int v1), (2, .int v2), (3, .int v3)]) d_Hb_comes_21 rfl rfl ?_
      refine k_iload C d_Hb_comes_23 0 rfl ?_
      refine k_if_eq C 31 d_Hb_comes_25 (by decide) (fun c6 => ?_) (fun c6 => ?_)
      · have h := (if_pos c6).symm.trans h
        refine k_aload_n C d_Hb_comes_31 1 rfl ?_
        refine kg_Hb_42 C d_Hb_comes_32 ?_
        refine kg_Hb_149 C (by decide) d_Hb_comes_35 ?_
        refine k_istore C (lv' := [(5, .int (p5.2 10 2)), (4, .int p5.1), (0, .ref (g_a g 0)), (1, .int v1), (2, .int v2), (3, .int v3)]) d_Hb_comes_38 rfl rfl ?_
        refine k_aload_n C d_Hb_comes_40 2 rfl ?_
        refine kg_Hb_42 C d_Hb_comes_41 ?_
        refine k_aload_n C d_Hb_comes_44 2 rfl ?_
        refine kg_Hb_64 C d_Hb_comes_45 ?_
        refine k_iload_n C d_Hb_comes_48 3 rfl ?_
        obtain ⟨i7, h⟩ := gI_some h
        refine k_aald_Sh C i7 d_Hb_comes_49 ?_
        refine kg_Hb_152 C (hid_ok i7) d_Hb_comes_50 ?_
        refine k_aload_n C d_Hb_comes_53 2 rfl ?_
        refine kg_Hb_64 C d_Hb_comes_54 ?_
        refine k_iload_n C d_Hb_comes_57 3 rfl ?_
        obtain ⟨i8, h⟩ := gI_some h
        refine k_aald_Sh C i8 d_Hb_comes_58 ?_
        refine kg_Hb_153 C (hid_ok i8) d_Hb_comes_59 ?_
        refine k_iload_n C d_Hb_comes_62 4 rfl ?_
        refine k_iload_n C d_Hb_comes_63 5 rfl ?_
        obtain ⟨p9, ep9, h⟩ := bd_some h
        refine k_callVi C q_Hb_154 (fun l => m_La_gets (cx_g C) l 10 (by decide) (p5.2 (hid v1) 1) (p5.2 (hid v1) 2) v2 v3 p5.2 z p9 ep9) rfl rfl (rtI_c q) (by decide) (sh_La (by decide)) rfl rfl rfl rfl d_Hb_comes_64 ?_
        refine k_if_eq C 75 d_Hb_comes_67 (by decide) (fun c10 => ?_) (fun c10 => ?_)
        · have h := (if_pos c10).symm.trans h
          refine k_bipush C (-2) d_Hb_comes_75 bp_m2 ?_
          obtain rfl := Option.some.inj h
          exact k_iret C q d_Hb_comes_77
        · have h := (if_neg c10).symm.trans h
          refine k_iload C d_Hb_comes_70 0 rfl ?_
          refine k_goto C 77 d_Hb_comes_72 (by decide) ?_
          obtain rfl := Option.some.inj h
          exact k_iret C q d_Hb_comes_77
      · have h := (if_neg c6).symm.trans h
        refine k_iload C d_Hb_comes_28 0 rfl ?_
        obtain rfl := Option.some.inj h
        exact k_iret C q d_Hb_comes_30
    · have h := (if_pos c4).symm.trans h
      refine k_iconst C (-1) d_Hb_comes_14 ic_m1 ?_
      obtain rfl := Option.some.inj h
      exact k_iret C q d_Hb_comes_15

def f_Hb_cost (v1 : Int32) (x : XD) : Option (Int32 × XD) := (f_Hb_refusalOfKind v1 x).bind fun p1 => ((if p1.1 = 0 then gI v1 8 (gI v1 8 ((v_price (p1.2 (hid v1) 1) (p1.2 (hid v1) 2) p1.2).bind fun p5 => (some (p5.1, p5.2)))) else some (p1.1, p1.2)))
theorem m_Hb_cost {g : GC} (hg : gOk g) (l : Launch)  (v1 : Int32) (x : XD) (z : ZD) (r : Int32 × XD) (h : f_Hb_cost v1 x = some r) : Mi g l y_Hb_cost c_Hb_cost 3 (some .int) 4 [.ref (g_a g 0), .int v1] (x, z) r.1 (r.2, z) := by
  refine m_i hg pn_Hb rfl fun X q C => ?_
  refine k_sub (lv' := [(0, .ref (g_a g 0)), (1, .int v1)]) [0, 1] rfl ?_
  unfold f_Hb_cost at h
  refine k_aload_n C d_Hb_cost_0 0 rfl ?_
  refine k_iload_n C d_Hb_cost_1 1 rfl ?_
  obtain ⟨p1, ep1, h⟩ := bd_some h
  refine k_callVi C q_Hb_146 (fun l => m_Hb_refusalOfKind (cx_g C) l v1 x z p1 ep1) rfl rfl (rtI_c q) (by decide) sh_Hb rfl rfl rfl rfl d_Hb_cost_2 ?_
  refine k_istore_n C (lv' := [(2, .int p1.1), (0, .ref (g_a g 0)), (1, .int v1)]) d_Hb_cost_5 rfl rfl ?_
  refine k_iload_n C d_Hb_cost_6 0 rfl ?_
  refine k_if_eq C 12 d_Hb_cost_7 (by decide) (fun c2 => ?_) (fun c2 => ?_)
  · have h := (if_pos c2).symm.trans h
    refine k_aload_n C d_Hb_cost_12 1 rfl ?_
    refine kg_Hb_64 C d_Hb_cost_13 ?_
    refine k_iload_n C d_Hb_cost_16 2 rfl ?_
    obtain ⟨i3, h⟩ := gI_some h
    refine k_aald_Sh C i3 d_Hb_cost_17 ?_
    refine kg_Hb_152 C (hid_ok i3) d_Hb_cost_18 ?_
    refine k_aload_n C d_Hb_cost_21 1 rfl ?_
    refine kg_Hb_64 C d_Hb_cost_22 ?_
    refine k_iload_n C d_Hb_cost_25 2 rfl ?_
    obtain ⟨i4, h⟩ := gI_some h
    refine k_aald_Sh C i4 d_Hb_cost_26 ?_
    refine kg_Hb_153 C (hid_ok i4) d_Hb_cost_27 ?_
    obtain ⟨p5, ep5, h⟩ := bd_some h
    refine kv_Hb_291 C ep5 rfl (rtI_c q) rfl d_Hb_cost_30 ?_
    obtain rfl := Option.some.inj h
    exact k_iret C q d_Hb_cost_33
  · have h := (if_neg c2).symm.trans h
    refine k_iload_n C d_Hb_cost_10 0 rfl ?_
    obtain rfl := Option.some.inj h
    exact k_iret C q d_Hb_cost_11

def f_Hb_days (v1 : Int32) (x : XD) : Option (Int32 × XD) := (f_Hb_isWithin v1 1 60 x).bind fun p1 => ((if p1.1 = 0 then some ((-1), p1.2) else (f_La_hasDays 10 v1 p1.2).bind fun p3 => ((if p3.1 = 0 then some ((-3), p3.2) else (f_La_pass 10 v1 p3.2).bind fun p5 => ((f_La_allLonging 10 p5.2).bind fun p6 => (some (p6.1, p6.2)))))))
theorem m_Hb_days {g : GC} (hg : gOk g) (l : Launch)  (v1 : Int32) (x : XD) (z : ZD) (r : Int32 × XD) (h : f_Hb_days v1 x = some r) : Mi g l y_Hb_days c_Hb_days 2 (some .int) 4 [.ref (g_a g 0), .int v1] (x, z) r.1 (r.2, z) := by
  refine m_i hg pn_Hb rfl fun X q C => ?_
  refine k_sub (lv' := [(0, .ref (g_a g 0)), (1, .int v1)]) [0, 1] rfl ?_
  unfold f_Hb_days at h
  refine k_iload_n C d_Hb_days_0 1 rfl ?_
  refine k_iconst C 1 d_Hb_days_1 ic_1 ?_
  refine k_bipush C 60 d_Hb_days_2 bp_60 ?_
  obtain ⟨p1, ep1, h⟩ := bd_some h
  refine k_callSi C q_Hb_169 (fun l => m_Hb_isWithin (cx_g C) l v1 1 60 x z p1 ep1) rfl rfl (rtI_c q) rfl rfl rfl d_Hb_days_4 ?_
  refine k_if_ne C 12 d_Hb_days_7 (by decide) (fun c2 => ?_) (fun c2 => ?_)
  · have h := (if_neg c2).symm.trans h
    refine k_aload_n C d_Hb_days_12 0 rfl ?_
    refine kg_Hb_42 C d_Hb_days_13 ?_
    refine k_iload_n C d_Hb_days_16 1 rfl ?_
    obtain ⟨p3, ep3, h⟩ := bd_some h
    refine k_callVi C q_Hb_162 (fun l => m_La_hasDays (cx_g C) l 10 (by decide) v1 p1.2 z p3 ep3) rfl rfl (rtI_c q) (by decide) (sh_La (by decide)) rfl rfl rfl rfl d_Hb_days_17 ?_
    refine k_if_ne C 26 d_Hb_days_20 (by decide) (fun c4 => ?_) (fun c4 => ?_)
    · have h := (if_neg c4).symm.trans h
      refine k_aload_n C d_Hb_days_26 0 rfl ?_
      refine kg_Hb_42 C d_Hb_days_27 ?_
      refine k_iload_n C d_Hb_days_30 1 rfl ?_
      obtain ⟨p5, ep5, h⟩ := bd_some h
      refine k_callVv C q_Hb_173 (fun l => m_La_pass (cx_g C) l 10 (by decide) v1 p3.2 z p5 ep5) rfl rfl (rtI_c q) (by decide) (sh_La (by decide)) rfl rfl rfl rfl d_Hb_days_31 ?_
      refine k_aload_n C d_Hb_days_34 0 rfl ?_
      refine kg_Hb_42 C d_Hb_days_35 ?_
      obtain ⟨p6, ep6, h⟩ := bd_some h
      refine k_callVi C q_Hb_177 (fun l => m_La_allLonging (cx_g C) l 10 (by decide) p5.2 z p6 ep6) rfl rfl (rtI_c q) (by decide) (sh_La (by decide)) rfl rfl rfl rfl d_Hb_days_38 ?_
      obtain rfl := Option.some.inj h
      exact k_iret C q d_Hb_days_41
    · have h := (if_pos c4).symm.trans h
      refine k_bipush C (-3) d_Hb_days_23 bp_m3 ?_
      obtain rfl := Option.some.inj h
      exact k_iret C q d_Hb_days_25
  · have h := (if_pos c2).symm.trans h
    refine k_iconst C (-1) d_Hb_days_10 ic_m1 ?_
    obtain rfl := Option.some.inj h
    exact k_iret C q d_Hb_days_11

def f_Hb_daysOfLaterRide (o1 : Nat) (v2 : Int32) (v3 : Int32) (x : XD) : Option (Int32 × XD) := (f_St_become 64 o1 x).bind fun p1 => ((f_St_stay 64 v2 (p1.2 10 3) p1.2).bind fun p2 => ((f_St_ride 64 v3 (p2.2 10 3) p2.2).bind fun p3 => (some (v2 + p3.1, p3.2))))
theorem m_Hb_daysOfLaterRide {g : GC} (hg : gOk g) (l : Launch)  (o1 : Nat) (h_o1 : 22 ≤ o1 ∧ o1 < 65) (v2 : Int32) (v3 : Int32) (x : XD) (z : ZD) (r : Int32 × XD) (h : f_Hb_daysOfLaterRide o1 v2 v3 x = some r) : Mi g l y_Hb_daysOfLaterRide c_Hb_daysOfLaterRide 4 (some .int) 4 [.ref (g_a g 0), .ref (g_a g o1), .int v2, .int v3] (x, z) r.1 (r.2, z) := by
  refine m_i hg pn_Hb rfl fun X q C => ?_
  refine k_sub (lv' := [(0, .ref (g_a g 0)), (1, .ref (g_a g o1)), (2, .int v2), (3, .int v3)]) [0, 1, 2, 3] rfl ?_
  unfold f_Hb_daysOfLaterRide at h
  refine k_aload_n C d_Hb_daysOfLaterRide_0 0 rfl ?_
  refine kg_Hb_58 C d_Hb_daysOfLaterRide_1 ?_
  refine k_aload_n C d_Hb_daysOfLaterRide_4 1 rfl ?_
  obtain ⟨p1, ep1, h⟩ := bd_some h
  refine k_callVv C q_Hb_183 (fun l => m_St_become (cx_g C) l 64 (by decide) o1 h_o1 x z p1 ep1) rfl rfl (rtI_c q) (by decide) (sh_St (by decide)) rfl rfl rfl rfl d_Hb_daysOfLaterRide_5 ?_
  refine k_aload_n C d_Hb_daysOfLaterRide_8 0 rfl ?_
  refine kg_Hb_58 C d_Hb_daysOfLaterRide_9 ?_
  refine k_iload_n C d_Hb_daysOfLaterRide_12 2 rfl ?_
  refine k_aload_n C d_Hb_daysOfLaterRide_13 0 rfl ?_
  refine kg_Hb_42 C d_Hb_daysOfLaterRide_14 ?_
  refine kg_Hb_131 C (by decide) d_Hb_daysOfLaterRide_17 ?_
  obtain ⟨p2, ep2, h⟩ := bd_some h
  refine k_callVv C q_Hb_186 (fun l => m_St_stay (cx_g C) l 64 (by decide) v2 (p1.2 10 3) p1.2 z p2 ep2) rfl rfl (rtI_c q) (by decide) (sh_St (by decide)) rfl rfl rfl rfl d_Hb_daysOfLaterRide_20 ?_
  refine k_iload_n C d_Hb_daysOfLaterRide_23 2 rfl ?_
  refine k_aload_n C d_Hb_daysOfLaterRide_24 0 rfl ?_
  refine kg_Hb_58 C d_Hb_daysOfLaterRide_25 ?_
  refine k_iload_n C d_Hb_daysOfLaterRide_28 3 rfl ?_
  refine k_aload_n C d_Hb_daysOfLaterRide_29 0 rfl ?_
  refine kg_Hb_42 C d_Hb_daysOfLaterRide_30 ?_
  refine kg_Hb_131 C (by decide) d_Hb_daysOfLaterRide_33 ?_
  obtain ⟨p3, ep3, h⟩ := bd_some h
  refine k_callVi C q_Hb_197 (fun l => m_St_ride (cx_g C) l 64 (by decide) v3 (p2.2 10 3) p2.2 z p3 ep3) rfl rfl (rtI_c q) (by decide) (sh_St (by decide)) rfl rfl rfl rfl d_Hb_daysOfLaterRide_36 ?_
  refine k_iadd C d_Hb_daysOfLaterRide_39 ?_
  obtain rfl := Option.some.inj h
  exact k_iret C q d_Hb_daysOfLaterRide_40

def f_Hb_daysOfRide (o1 : Nat) (v2 : Int32) (x : XD) : Option (Int32 × XD) := (f_St_become 64 o1 x).bind fun p1 => ((f_St_ride 64 v2 (p1.2 10 3) p1.2).bind fun p2 => (some (p2.1, p2.2)))
theorem m_Hb_daysOfRide {g : GC} (hg : gOk g) (l : Launch)  (o1 : Nat) (h_o1 : 22 ≤ o1 ∧ o1 < 65) (v2 : Int32) (x : XD) (z : ZD) (r : Int32 × XD) (h : f_Hb_daysOfRide o1 v2 x = some r) : Mi g l y_Hb_daysOfRide c_Hb_daysOfRide 3 (some .int) 4 [.ref (g_a g 0), .ref (g_a g o1), .int v2] (x, z) r.1 (r.2, z) := by
  refine m_i hg pn_Hb rfl fun X q C => ?_
  refine k_sub (lv' := [(0, .ref (g_a g 0)), (1, .ref (g_a g o1)), (2, .int v2)]) [0, 1, 2] rfl ?_
  unfold f_Hb_daysOfRide at h
  refine k_aload_n C d_Hb_daysOfRide_0 0 rfl ?_
  refine kg_Hb_58 C d_Hb_daysOfRide_1 ?_
  refine k_aload_n C d_Hb_daysOfRide_4 1 rfl ?_
  obtain ⟨p1, ep1, h⟩ := bd_some h
  refine k_callVv C q_Hb_183 (fun l => m_St_become (cx_g C) l 64 (by decide) o1 h_o1 x z p1 ep1) rfl rfl (rtI_c q) (by decide) (sh_St (by decide)) rfl rfl rfl rfl d_Hb_daysOfRide_5 ?_
  refine k_aload_n C d_Hb_daysOfRide_8 0 rfl ?_
  refine kg_Hb_58 C d_Hb_daysOfRide_9 ?_
  refine k_iload_n C d_Hb_daysOfRide_12 2 rfl ?_
  refine k_aload_n C d_Hb_daysOfRide_13 0 rfl ?_
  refine kg_Hb_42 C d_Hb_daysOfRide_14 ?_
  refine kg_Hb_131 C (by decide) d_Hb_daysOfRide_17 ?_
  obtain ⟨p2, ep2, h⟩ := bd_some h
  refine k_callVi C q_Hb_197 (fun l => m_St_ride (cx_g C) l 64 (by decide) v2 (p1.2 10 3) p1.2 z p2 ep2) rfl rfl (rtI_c q) (by decide) (sh_St (by decide)) rfl rfl rfl rfl d_Hb_daysOfRide_20 ?_
  obtain rfl := Option.some.inj h
  exact k_iret C q d_Hb_daysOfRide_23

def b_Hb_fastest_86 (K20 : Int32 → Int32 → Int32 → XD → Option (Int32 × XD)) (v1 : Int32) (v2 : Int32) (v3 : Int32) (v4 : Int32) (x : XD) : Option (Int32 × XD) := K20 v2 v3 (v4 + 1) x
theorem t_Hb_fastest_86 {g : GC} {X : MX} (C : Cx g X c_Hb_fastest 5 n_Hb 4) {r : Int32 × XD} {z : ZD} (q : RtI g X (some .int) r.1 (r.2, z)) (v1 : Int32) (v2 : Int32) (v3 : Int32) (v4 : Int32) (K20 : Int32 → Int32 → Int32 → XD → Option (Int32 × XD)) (hK20 : ∀ (v2 : Int32) (v3 : Int32) (v4 : Int32) (x : XD), K20 v2 v3 v4 x = some r → Wk g X 5 20 [(0, .ref (g_a g 0)), (1, .int v1), (2, .int v2), (3, .int v3), (4, .int v4)] [] (x, z)) (x : XD) (h : b_Hb_fastest_86 K20 v1 v2 v3 v4 x = some r) : Wk g X 5 86 [(0, .ref (g_a g 0)), (1, .int v1), (2, .int v2), (3, .int v3), (4, .int v4)] [] (x, z) := by
  unfold b_Hb_fastest_86 at h
  refine k_inc C (lv' := [(4, .int (v4 + 1)), (0, .ref (g_a g 0)), (1, .int v1), (2, .int v2), (3, .int v3)]) d_Hb_fastest_86 4 rfl ic_1 rfl rfl ?_
  refine k_goto C 20 d_Hb_fastest_89 (by decide) ?_
  exact k_sub [1, 2, 3, 4, 0] rfl (hK20 v2 v3 (v4 + 1) x h)

def b_Hb_fastest_20 (v1 : Int32) : Nat → Int32 → Int32 → Int32 → XD → Option (Int32 × XD)
  | 0, _, _, _, _ => none
  | n + 1, v2, v3, v4, x => (if x 10 2 ≤ v4 then some (v2, x) else gI v4 7 ((f_St_become 64 (sid 10 v4) x).bind fun p3 => ((f_St_stay 64 v1 (p3.2 10 3) p3.2).bind fun p4 => ((f_St_pace 64 p4.2).bind fun p5 => ((if p5.1 ≤ v3 then b_Hb_fastest_86 (b_Hb_fastest_20 v1 n) v1 v2 v3 v4 p5.2 else (f_St_pace 64 p5.2).bind fun p7 => (b_Hb_fastest_86 (b_Hb_fastest_20 v1 n) v1 v4 p7.1 v4 p7.2)))))))
theorem t_Hb_fastest_20 {g : GC} {X : MX} (C : Cx g X c_Hb_fastest 5 n_Hb 4) {r : Int32 × XD} {z : ZD} (q : RtI g X (some .int) r.1 (r.2, z)) (v1 : Int32) : ∀ (n : Nat) (v2 : Int32) (v3 : Int32) (v4 : Int32) (x : XD) (h : b_Hb_fastest_20 v1 n v2 v3 v4 x = some r), Wk g X 5 20 [(0, .ref (g_a g 0)), (1, .int v1), (2, .int v2), (3, .int v3), (4, .int v4)] [] (x, z) := by
  intro n
  induction n with
  | zero =>
    intro v2 v3 v4 x h
    rw [b_Hb_fastest_20] at h
    cases h
  | succ n ih =>
    intro v2 v3 v4 x h
    rw [b_Hb_fastest_20] at h
    refine k_iload C d_Hb_fastest_20 4 rfl ?_
    refine k_aload_n C d_Hb_fastest_22 0 rfl ?_
    refine kg_Hb_42 C d_Hb_fastest_23 ?_
    refine kg_Hb_149 C (by decide) d_Hb_fastest_26 ?_
    refine k_icmp_ge C 92 d_Hb_fastest_29 (by decide) (fun c1 => ?_) (fun c1 => ?_)
    · have h := (if_pos c1).symm.trans h
      refine k_iload_n C d_Hb_fastest_92 2 rfl ?_
      obtain rfl := Option.some.inj h
      exact k_iret C q d_Hb_fastest_93
    · have h := (if_neg c1).symm.trans h
      refine k_aload_n C d_Hb_fastest_32 0 rfl ?_
      refine kg_Hb_58 C d_Hb_fastest_33 ?_
      refine k_aload_n C d_Hb_fastest_36 0 rfl ?_
      refine kg_Hb_42 C d_Hb_fastest_37 ?_
      refine kg_Hb_107 C (by decide) d_Hb_fastest_40 ?_
      refine k_iload C d_Hb_fastest_43 4 rfl ?_
      obtain ⟨i2, h⟩ := gI_some h
      refine k_aald_St C (by decide) i2 d_Hb_fastest_45 ?_
      obtain ⟨p3, ep3, h⟩ := bd_some h
      refine k_callVv C q_Hb_183 (fun l => m_St_become (cx_g C) l 64 (by decide) (sid 10 v4) (sid_ok (by decide) i2) x z p3 ep3) rfl rfl (rtI_c q) (by decide) (sh_St (by decide)) rfl rfl rfl rfl d_Hb_fastest_46 ?_
      refine k_aload_n C d_Hb_fastest_49 0 rfl ?_
      refine kg_Hb_58 C d_Hb_fastest_50 ?_
      refine k_iload_n C d_Hb_fastest_53 1 rfl ?_
      refine k_aload_n C d_Hb_fastest_54 0 rfl ?_
      refine kg_Hb_42 C d_Hb_fastest_55 ?_
      refine kg_Hb_131 C (by decide) d_Hb_fastest_58 ?_
      obtain ⟨p4, ep4, h⟩ := bd_some h
      refine k_callVv C q_Hb_186 (fun l => m_St_stay (cx_g C) l 64 (by decide) v1 (p3.2 10 3) p3.2 z p4 ep4) rfl rfl (rtI_c q) (by decide) (sh_St (by decide)) rfl rfl rfl rfl d_Hb_fastest_61 ?_
      refine k_aload_n C d_Hb_fastest_64 0 rfl ?_
      refine kg_Hb_58 C d_Hb_fastest_65 ?_
      obtain ⟨p5, ep5, h⟩ := bd_some h
      refine k_callVi C q_Hb_137 (fun l => m_St_pace (cx_g C) l 64 (by decide) p4.2 z p5 ep5) rfl rfl (rtI_c q) (by decide) (sh_St (by decide)) rfl rfl rfl rfl d_Hb_fastest_68 ?_
      refine k_iload_n C d_Hb_fastest_71 3 rfl ?_
      refine k_icmp_le C 86 d_Hb_fastest_72 (by decide) (fun c6 => ?_) (fun c6 => ?_)
      · have h := (if_pos c6).symm.trans h
        exact k_sub [0, 1, 2, 3, 4] rfl (t_Hb_fastest_86 C q v1 v2 v3 v4 (b_Hb_fastest_20 v1 n) ih p5.2 h)
      · have h := (if_neg c6).symm.trans h
        refine k_aload_n C d_Hb_fastest_75 0 rfl ?_
        refine kg_Hb_58 C d_Hb_fastest_76 ?_
        obtain ⟨p7, ep7, h⟩ := bd_some h
        refine k_callVi C q_Hb_137 (fun l => m_St_pace (cx_g C) l 64 (by decide) p5.2 z p7 ep7) rfl rfl (rtI_c q) (by decide) (sh_St (by decide)) rfl rfl rfl rfl d_Hb_fastest_79 ?_
        refine k_istore_n C (lv' := [(3, .int p7.1), (0, .ref (g_a g 0)), (1, .int v1), (2, .int v2), (4, .int v4)]) d_Hb_fastest_82 rfl rfl ?_
        refine k_iload C d_Hb_fastest_83 4 rfl ?_
        refine k_istore_n C (lv' := [(2, .int v4), (3, .int p7.1), (0, .ref (g_a g 0)), (1, .int v1), (4, .int v4)]) d_Hb_fastest_85 rfl rfl ?_
        exact k_sub [2, 3, 0, 1, 4] rfl (t_Hb_fastest_86 C q v1 v4 p7.1 v4 (b_Hb_fastest_20 v1 n) ih p7.2 h)

def f_Hb_fastest (v1 : Int32) (x : XD) : Option (Int32 × XD) := (f_Hb_isWithin v1 0 60 x).bind fun p1 => ((if p1.1 = 0 then some ((-1), p1.2) else b_Hb_fastest_20 v1 fu (-4) 0 0 p1.2))
theorem m_Hb_fastest {g : GC} (hg : gOk g) (l : Launch)  (v1 : Int32) (x : XD) (z : ZD) (r : Int32 × XD) (h : f_Hb_fastest v1 x = some r) : Mi g l y_Hb_fastest c_Hb_fastest 5 (some .int) 4 [.ref (g_a g 0), .int v1] (x, z) r.1 (r.2, z) := by
  refine m_i hg pn_Hb rfl fun X q C => ?_
  refine k_sub (lv' := [(0, .ref (g_a g 0)), (1, .int v1)]) [0, 1] rfl ?_
  unfold f_Hb_fastest at h
  refine k_iload_n C d_Hb_fastest_0 1 rfl ?_
  refine k_iconst C 0 d_Hb_fastest_1 ic_0 ?_
  refine k_bipush C 60 d_Hb_fastest_2 bp_60 ?_
  obtain ⟨p1, ep1, h⟩ := bd_some h
  refine k_callSi C q_Hb_169 (fun l => m_Hb_isWithin (cx_g C) l v1 0 60 x z p1 ep1) rfl rfl (rtI_c q) rfl rfl rfl d_Hb_fastest_4 ?_
  refine k_if_ne C 12 d_Hb_fastest_7 (by decide) (fun c2 => ?_) (fun c2 => ?_)
  · have h := (if_neg c2).symm.trans h
    refine k_bipush C (-4) d_Hb_fastest_12 bp_m4 ?_
    refine k_istore_n C (lv' := [(2, .int (-4)), (0, .ref (g_a g 0)), (1, .int v1)]) d_Hb_fastest_14 rfl rfl ?_
    refine k_iconst C 0 d_Hb_fastest_15 ic_0 ?_
    refine k_istore_n C (lv' := [(3, .int 0), (2, .int (-4)), (0, .ref (g_a g 0)), (1, .int v1)]) d_Hb_fastest_16 rfl rfl ?_
    refine k_iconst C 0 d_Hb_fastest_17 ic_0 ?_
    refine k_istore C (lv' := [(4, .int 0), (3, .int 0), (2, .int (-4)), (0, .ref (g_a g 0)), (1, .int v1)]) d_Hb_fastest_18 rfl rfl ?_
    exact k_sub [3, 4, 2, 1, 0] rfl (t_Hb_fastest_20 C q v1 fu (-4) 0 0 p1.2 h)
  · have h := (if_pos c2).symm.trans h
    refine k_iconst C (-1) d_Hb_fastest_10 ic_m1 ?_
    obtain rfl := Option.some.inj h
    exact k_iret C q d_Hb_fastest_11

def b_Hb_figuresTold_60 (K6 : Int32 → Int32 → XD → Option (Int32 × XD)) (o1 : Nat) (v2 : Int32) (v3 : Int32) (v4 : Int32) (v5 : Int32) (x : XD) : Option (Int32 × XD) := K6 v4 (v5 + 1) x
theorem t_Hb_figuresTold_60 {g : GC} {X : MX} (C : Cx g X c_Hb_figuresTold 6 n_Hb 4) {r : Int32 × XD} {z : ZD} (q : RtI g X (some .int) r.1 (r.2, z)) (o1 : Nat) (h_o1 : 67 ≤ o1 ∧ o1 < 75) (v2 : Int32) (v3 : Int32) (v4 : Int32) (v5 : Int32) (K6 : Int32 → Int32 → XD → Option (Int32 × XD)) (hK6 : ∀ (v4 : Int32) (v5 : Int32) (x : XD), K6 v4 v5 x = some r → Wk g X 6 6 [(0, .ref (g_a g 0)), (1, .ref (g_a g o1)), (2, .int v2), (3, .int v3), (4, .int v4), (5, .int v5)] [] (x, z)) (x : XD) (h : b_Hb_figuresTold_60 K6 o1 v2 v3 v4 v5 x = some r) : Wk g X 6 60 [(0, .ref (g_a g 0)), (1, .ref (g_a g o1)), (2, .int v2), (3, .int v3), (4, .int v4), (5, .int v5)] [] (x, z) := by
  unfold b_Hb_figuresTold_60 at h
  refine k_inc C (lv' := [(5, .int (v5 + 1)), (0, .ref (g_a g 0)), (1, .ref (g_a g o1)), (2, .int v2), (3, .int v3), (4, .int v4)]) d_Hb_figuresTold_60 5 rfl ic_1 rfl rfl ?_
  refine k_goto C 6 d_Hb_figuresTold_63 (by decide) ?_
  exact k_sub [1, 2, 3, 4, 5, 0] rfl (hK6 v4 (v5 + 1) x h)

def b_Hb_figuresTold_6 (o1 : Nat) (v2 : Int32) (v3 : Int32) : Nat → Int32 → Int32 → XD → Option (Int32 × XD)
  | 0, _, _, _ => none
  | n + 1, v4, v5, x => (if 10 ≤ v5 then some (v4, x) else gI v2 7 ((f_St_become 64 (sid 10 v2) x).bind fun p3 => (lt (x_up p3.2 64 1 v5) fun (x4 : XD) => (f_Hb_isTold 64 o1 v3 x4).bind fun p5 => ((if p5.1 = 0 then b_Hb_figuresTold_60 (b_Hb_figuresTold_6 o1 v2 v3 n) o1 v2 v3 v4 v5 p5.2 else b_Hb_figuresTold_60 (b_Hb_figuresTold_6 o1 v2 v3 n) o1 v2 v3 (v4 ||| (1 <<< (v5 &&& 31))) v5 p5.2)))))
theorem t_Hb_figuresTold_6 {g : GC} {X : MX} (C : Cx g X c_Hb_figuresTold 6 n_Hb 4) {r : Int32 × XD} {z : ZD} (q : RtI g X (some .int) r.1 (r.2, z)) (o1 : Nat) (h_o1 : 67 ≤ o1 ∧ o1 < 75) (v2 : Int32) (v3 : Int32) : ∀ (n : Nat) (v4 : Int32) (v5 : Int32) (x : XD) (h : b_Hb_figuresTold_6 o1 v2 v3 n v4 v5 x = some r), Wk g X 6 6 [(0, .ref (g_a g 0)), (1, .ref (g_a g o1)), (2, .int v2), (3, .int v3), (4, .int v4), (5, .int v5)] [] (x, z) := by
  intro n
  induction n with
  | zero =>
    intro v4 v5 x h
    rw [b_Hb_figuresTold_6] at h
    cases h
  | succ n ih =>
    intro v4 v5 x h
    rw [b_Hb_figuresTold_6] at h
    refine k_iload C d_Hb_figuresTold_6 5 rfl ?_
    refine k_bipush C 10 d_Hb_figuresTold_8 bp_10 ?_
    refine k_icmp_ge C 66 d_Hb_figuresTold_10 (by decide) (fun c1 => ?_) (fun c1 => ?_)
    · have h := (if_pos c1).symm.trans h
      refine k_iload C d_Hb_figuresTold_66 4 rfl ?_
      obtain rfl := Option.some.inj h
      exact k_iret C q d_Hb_figuresTold_68
    · have h := (if_neg c1).symm.trans h
      refine k_aload_n C d_Hb_figuresTold_13 0 rfl ?_
      refine kg_Hb_58 C d_Hb_figuresTold_14 ?_
      refine k_aload_n C d_Hb_figuresTold_17 0 rfl ?_
      refine kg_Hb_42 C d_Hb_figuresTold_18 ?_
      refine kg_Hb_107 C (by decide) d_Hb_figuresTold_21 ?_
      refine k_iload_n C d_Hb_figuresTold_24 2 rfl ?_
      obtain ⟨i2, h⟩ := gI_some h
      refine k_aald_St C (by decide) i2 d_Hb_figuresTold_25 ?_
      obtain ⟨p3, ep3, h⟩ := bd_some h
      refine k_callVv C q_Hb_183 (fun l => m_St_become (cx_g C) l 64 (by decide) (sid 10 v2) (sid_ok (by decide) i2) x z p3 ep3) rfl rfl (rtI_c q) (by decide) (sh_St (by decide)) rfl rfl rfl rfl d_Hb_figuresTold_26 ?_
      refine k_aload_n C d_Hb_figuresTold_29 0 rfl ?_
      refine kg_Hb_58 C d_Hb_figuresTold_30 ?_
      refine k_iload C d_Hb_figuresTold_33 5 rfl ?_
      obtain ⟨x4, ex4, h⟩ := lt_some h
      refine kp_Hb_119 C (by decide) ex4 d_Hb_figuresTold_35 ?_
      refine k_aload_n C d_Hb_figuresTold_38 0 rfl ?_
      refine k_aload_n C d_Hb_figuresTold_39 0 rfl ?_
      refine kg_Hb_58 C d_Hb_figuresTold_40 ?_
      refine k_aload_n C d_Hb_figuresTold_43 1 rfl ?_
      refine k_iload_n C d_Hb_figuresTold_44 3 rfl ?_
      obtain ⟨p5, ep5, h⟩ := bd_some h
      refine k_callVi C q_Hb_210 (fun l => m_Hb_isTold (cx_g C) l 64 (by decide) o1 h_o1 v3 x4 z p5 ep5) rfl rfl (rtI_c q) (by decide) sh_Hb rfl rfl rfl rfl d_Hb_figuresTold_45 ?_
      refine k_if_eq C 60 d_Hb_figuresTold_48 (by decide) (fun c6 => ?_) (fun c6 => ?_)
      · have h := (if_pos c6).symm.trans h
        exact k_sub [0, 1, 2, 3, 4, 5] rfl (t_Hb_figuresTold_60 C q o1 h_o1 v2 v3 v4 v5 (b_Hb_figuresTold_6 o1 v2 v3 n) ih p5.2 h)
      · have h := (if_neg c6).symm.trans h
        refine k_iload C d_Hb_figuresTold_51 4 rfl ?_
        refine k_iconst C 1 d_Hb_figuresTold_53 ic_1 ?_
        refine k_iload C d_Hb_figuresTold_54 5 rfl ?_
        refine k_ishl C d_Hb_figuresTold_56 ?_
        refine k_ior C d_Hb_figuresTold_57 ?_
        refine k_istore C (lv' := [(4, .int (v4 ||| (1 <<< (v5 &&& 31)))), (0, .ref (g_a g 0)), (1, .ref (g_a g o1)), (2, .int v2), (3, .int v3), (5, .int v5)]) d_Hb_figuresTold_58 rfl rfl ?_
        exact k_sub [1, 2, 3, 4, 0, 5] rfl (t_Hb_figuresTold_60 C q o1 h_o1 v2 v3 (v4 ||| (1 <<< (v5 &&& 31))) v5 (b_Hb_figuresTold_6 o1 v2 v3 n) ih p5.2 h)

def f_Hb_figuresTold (o1 : Nat) (v2 : Int32) (v3 : Int32) (x : XD) : Option (Int32 × XD) := b_Hb_figuresTold_6 o1 v2 v3 fu 0 0 x
theorem m_Hb_figuresTold {g : GC} (hg : gOk g) (l : Launch)  (o1 : Nat) (h_o1 : 67 ≤ o1 ∧ o1 < 75) (v2 : Int32) (v3 : Int32) (x : XD) (z : ZD) (r : Int32 × XD) (h : f_Hb_figuresTold o1 v2 v3 x = some r) : Mi g l y_Hb_figuresTold c_Hb_figuresTold 6 (some .int) 4 [.ref (g_a g 0), .ref (g_a g o1), .int v2, .int v3] (x, z) r.1 (r.2, z) := by
  refine m_i hg pn_Hb rfl fun X q C => ?_
  refine k_sub (lv' := [(0, .ref (g_a g 0)), (1, .ref (g_a g o1)), (2, .int v2), (3, .int v3)]) [0, 1, 2, 3] rfl ?_
  unfold f_Hb_figuresTold at h
  refine k_iconst C 0 d_Hb_figuresTold_0 ic_0 ?_
  refine k_istore C (lv' := [(4, .int 0), (0, .ref (g_a g 0)), (1, .ref (g_a g o1)), (2, .int v2), (3, .int v3)]) d_Hb_figuresTold_1 rfl rfl ?_
  refine k_iconst C 0 d_Hb_figuresTold_3 ic_0 ?_
  refine k_istore C (lv' := [(5, .int 0), (4, .int 0), (0, .ref (g_a g 0)), (1, .ref (g_a g o1)), (2, .int v2), (3, .int v3)]) d_Hb_figuresTold_4 rfl rfl ?_
  exact k_sub [2, 3, 4, 5, 1, 0] rfl (t_Hb_figuresTold_6 C q o1 h_o1 v2 v3 fu 0 0 x h)

def b_Hb_hang_80 (K35 : Int32 → Int32 → Int32 → XD → Option (Int32 × XD)) (v1 : Int32) (v2 : Int32) (v4 : Int32) (v5 : Int32) (v6 : Int32) (x : XD) : Option (Int32 × XD) := K35 v4 v5 (v6 + 1) x
theorem t_Hb_hang_80 {g : GC} {X : MX} (C : Cx g X c_Hb_hang 7 n_Hb 4) {r : Int32 × XD} {z : ZD} (q : RtI g X (some .int) r.1 (r.2, z)) (v1 : Int32) (v2 : Int32) (v4 : Int32) (v5 : Int32) (v6 : Int32) (K35 : Int32 → Int32 → Int32 → XD → Option (Int32 × XD)) (hK35 : ∀ (v4 : Int32) (v5 : Int32) (v6 : Int32) (x : XD), K35 v4 v5 v6 x = some r → Wk g X 7 35 [(0, .ref (g_a g 0)), (1, .int v1), (2, .int v2), (3, .ref (g_a g 12)), (4, .int v4), (5, .int v5), (6, .int v6)] [] (x, z)) (x : XD) (h : b_Hb_hang_80 K35 v1 v2 v4 v5 v6 x = some r) : Wk g X 7 80 [(0, .ref (g_a g 0)), (1, .int v1), (2, .int v2), (3, .ref (g_a g 12)), (4, .int v4), (5, .int v5), (6, .int v6)] [] (x, z) := by
  unfold b_Hb_hang_80 at h
  refine k_inc C (lv' := [(6, .int (v6 + 1)), (0, .ref (g_a g 0)), (1, .int v1), (2, .int v2), (3, .ref (g_a g 12)), (4, .int v4), (5, .int v5)]) d_Hb_hang_80 6 rfl ic_1 rfl rfl ?_
  refine k_goto C 35 d_Hb_hang_83 (by decide) ?_
  exact k_sub [1, 2, 3, 4, 5, 6, 0] rfl (hK35 v4 v5 (v6 + 1) x h)

def b_Hb_hang_35 (v1 : Int32) (v2 : Int32) : Nat → Int32 → Int32 → Int32 → XD → Option (Int32 × XD)
  | 0, _, _, _, _ => none
  | n + 1, v4, v5, v6, x => (if 21 ≤ v6 then (if v2 = 0 then some (v4, x) else some (v5, x)) else (f_La_become 12 10 x).bind fun p3 => (lt (x_up p3.2 12 3 v6) fun (x4 : XD) => (f_La_pass 12 v1 x4).bind fun p5 => ((f_La_allLonging 12 p5.2).bind fun p6 => ((if p6.1 ≤ v5 then b_Hb_hang_80 (b_Hb_hang_35 v1 v2 n) v1 v2 v4 v5 v6 p6.2 else (f_La_allLonging 12 p6.2).bind fun p8 => (b_Hb_hang_80 (b_Hb_hang_35 v1 v2 n) v1 v2 v6 p8.1 v6 p8.2))))))
theorem t_Hb_hang_35 {g : GC} {X : MX} (C : Cx g X c_Hb_hang 7 n_Hb 4) {r : Int32 × XD} {z : ZD} (q : RtI g X (some .int) r.1 (r.2, z)) (v1 : Int32) (v2 : Int32) : ∀ (n : Nat) (v4 : Int32) (v5 : Int32) (v6 : Int32) (x : XD) (h : b_Hb_hang_35 v1 v2 n v4 v5 v6 x = some r), Wk g X 7 35 [(0, .ref (g_a g 0)), (1, .int v1), (2, .int v2), (3, .ref (g_a g 12)), (4, .int v4), (5, .int v5), (6, .int v6)] [] (x, z) := by
  intro n
  induction n with
  | zero =>
    intro v4 v5 v6 x h
    rw [b_Hb_hang_35] at h
    cases h
  | succ n ih =>
    intro v4 v5 v6 x h
    rw [b_Hb_hang_35] at h
    refine k_iload C d_Hb_hang_35 6 rfl ?_
    refine k_bipush C 21 d_Hb_hang_37 bp_21 ?_
    refine k_icmp_ge C 86 d_Hb_hang_39 (by decide) (fun c1 => ?_) (fun c1 => ?_)
    · have h := (if_pos c1).symm.trans h
      refine k_iload_n C d_Hb_hang_86 2 rfl ?_
      refine k_if_ne C 95 d_Hb_hang_87 (by decide) (fun c2 => ?_) (fun c2 => ?_)
      · have h := (if_neg c2).symm.trans h
        refine k_iload C d_Hb_hang_95 5 rfl ?_
        obtain rfl := Option.some.inj h
        exact k_iret C q d_Hb_hang_97
      · have h := (if_pos c2).symm.trans h
        refine k_iload C d_Hb_hang_90 4 rfl ?_
        refine k_goto C 97 d_Hb_hang_92 (by decide) ?_
        obtain rfl := Option.some.inj h
        exact k_iret C q d_Hb_hang_97
    · have h := (if_neg c1).symm.trans h
      refine k_aload_n C d_Hb_hang_42 3 rfl ?_
      refine k_aload_n C d_Hb_hang_43 0 rfl ?_
      refine kg_Hb_42 C d_Hb_hang_44 ?_
      obtain ⟨p3, ep3, h⟩ := bd_some h
      refine k_callVv C q_Hb_85 (fun l => m_La_become (cx_g C) l 12 (by decide) 10 (by decide) x z p3 ep3) rfl rfl (rtI_c q) (by decide) (sh_La (by decide)) rfl rfl rfl rfl d_Hb_hang_47 ?_
      refine k_aload_n C d_Hb_hang_50 3 rfl ?_
      refine k_iload C d_Hb_hang_51 6 rfl ?_
      obtain ⟨x4, ex4, h⟩ := lt_some h
      refine kp_Hb_131 C (by decide) ex4 d_Hb_hang_53 ?_
      refine k_aload_n C d_Hb_hang_56 3 rfl ?_
      refine k_iload_n C d_Hb_hang_57 1 rfl ?_
      obtain ⟨p5, ep5, h⟩ := bd_some h
      refine k_callVv C q_Hb_173 (fun l => m_La_pass (cx_g C) l 12 (by decide) v1 x4 z p5 ep5) rfl rfl (rtI_c q) (by decide) (sh_La (by decide)) rfl rfl rfl rfl d_Hb_hang_58 ?_
      refine k_aload_n C d_Hb_hang_61 3 rfl ?_
      obtain ⟨p6, ep6, h⟩ := bd_some h
      refine k_callVi C q_Hb_177 (fun l => m_La_allLonging (cx_g C) l 12 (by decide) p5.2 z p6 ep6) rfl rfl (rtI_c q) (by decide) (sh_La (by decide)) rfl rfl rfl rfl d_Hb_hang_62 ?_
      refine k_iload C d_Hb_hang_65 5 rfl ?_
      refine k_icmp_le C 80 d_Hb_hang_67 (by decide) (fun c7 => ?_) (fun c7 => ?_)
      · have h := (if_pos c7).symm.trans h
        exact k_sub [0, 1, 2, 3, 4, 5, 6] rfl (t_Hb_hang_80 C q v1 v2 v4 v5 v6 (b_Hb_hang_35 v1 v2 n) ih p6.2 h)
      · have h := (if_neg c7).symm.trans h
        refine k_aload_n C d_Hb_hang_70 3 rfl ?_
        obtain ⟨p8, ep8, h⟩ := bd_some h
        refine k_callVi C q_Hb_177 (fun l => m_La_allLonging (cx_g C) l 12 (by decide) p6.2 z p8 ep8) rfl rfl (rtI_c q) (by decide) (sh_La (by decide)) rfl rfl rfl rfl d_Hb_hang_71 ?_
        refine k_istore C (lv' := [(5, .int p8.1), (0, .ref (g_a g 0)), (1, .int v1), (2, .int v2), (3, .ref (g_a g 12)), (4, .int v4), (6, .int v6)]) d_Hb_hang_74 rfl rfl ?_
        refine k_iload C d_Hb_hang_76 6 rfl ?_
        refine k_istore C (lv' := [(4, .int v6), (5, .int p8.1), (0, .ref (g_a g 0)), (1, .int v1), (2, .int v2), (3, .ref (g_a g 12)), (6, .int v6)]) d_Hb_hang_78 rfl rfl ?_
        exact k_sub [2, 3, 4, 5, 0, 1, 6] rfl (t_Hb_hang_80 C q v1 v2 v6 p8.1 v6 (b_Hb_hang_35 v1 v2 n) ih p8.2 h)

def f_Hb_hang (v1 : Int32) (v2 : Int32) (x : XD) : Option (Int32 × XD) := (f_Hb_isWithin v1 0 60 x).bind fun p1 => ((if p1.1 = 0 then some ((-1), p1.2) else (f_Hb_isEither v2 p1.2).bind fun p3 => ((if p3.1 = 0 then some ((-1), p3.2) else b_Hb_hang_35 v1 v2 fu 0 (-1) 0 p3.2))))
theorem m_Hb_hang {g : GC} (hg : gOk g) (l : Launch)  (v1 : Int32) (v2 : Int32) (x : XD) (z : ZD) (r : Int32 × XD) (h : f_Hb_hang v1 v2 x = some r) : Mi g l y_Hb_hang c_Hb_hang 7 (some .int) 4 [.ref (g_a g 0), .int v1, .int v2] (x, z) r.1 (r.2, z) := by
  refine m_i hg pn_Hb rfl fun X q C => ?_
  refine k_sub (lv' := [(0, .ref (g_a g 0)), (1, .int v1), (2, .int v2)]) [0, 1, 2] rfl ?_
  unfold f_Hb_hang at h
  refine k_iload_n C d_Hb_hang_0 1 rfl ?_
  refine k_iconst C 0 d_Hb_hang_1 ic_0 ?_
  refine k_bipush C 60 d_Hb_hang_2 bp_60 ?_
  obtain ⟨p1, ep1, h⟩ := bd_some h
  refine k_callSi C q_Hb_169 (fun l => m_Hb_isWithin (cx_g C) l v1 0 60 x z p1 ep1) rfl rfl (rtI_c q) rfl rfl rfl d_Hb_hang_4 ?_
  refine k_if_eq C 17 d_Hb_hang_7 (by decide) (fun c2 => ?_) (fun c2 => ?_)
  · have h := (if_pos c2).symm.trans h
    refine k_iconst C (-1) d_Hb_hang_17 ic_m1 ?_
    obtain rfl := Option.some.inj h
    exact k_iret C q d_Hb_hang_18
  · have h := (if_neg c2).symm.trans h
    refine k_iload_n C d_Hb_hang_10 2 rfl ?_
    obtain ⟨p3, ep3, h⟩ := bd_some h
    refine k_callSi C q_Hb_180 (fun l => m_Hb_isEither (cx_g C) l v2 p1.2 z p3 ep3) rfl rfl (rtI_c q) rfl rfl rfl d_Hb_hang_11 ?_
    refine k_if_ne C 19 d_Hb_hang_14 (by decide) (fun c4 => ?_) (fun c4 => ?_)
    · have h := (if_neg c4).symm.trans h
      refine k_aload_n C d_Hb_hang_19 0 rfl ?_
      refine kg_Hb_49 C d_Hb_hang_20 ?_
      refine k_iconst C 0 d_Hb_hang_23 ic_0 ?_
      refine k_aald_L0 C d_Hb_hang_24 ?_
      refine k_astore_n C (lv' := [(3, .ref (g_a g 12)), (0, .ref (g_a g 0)), (1, .int v1), (2, .int v2)]) d_Hb_hang_25 rfl rfl ?_
      refine k_iconst C 0 d_Hb_hang_26 ic_0 ?_
      refine k_istore C (lv' := [(4, .int 0), (3, .ref (g_a g 12)), (0, .ref (g_a g 0)), (1, .int v1), (2, .int v2)]) d_Hb_hang_27 rfl rfl ?_
      refine k_iconst C (-1) d_Hb_hang_29 ic_m1 ?_
      refine k_istore C (lv' := [(5, .int (-1)), (4, .int 0), (3, .ref (g_a g 12)), (0, .ref (g_a g 0)), (1, .int v1), (2, .int v2)]) d_Hb_hang_30 rfl rfl ?_
      refine k_iconst C 0 d_Hb_hang_32 ic_0 ?_
      refine k_istore C (lv' := [(6, .int 0), (5, .int (-1)), (4, .int 0), (3, .ref (g_a g 12)), (0, .ref (g_a g 0)), (1, .int v1), (2, .int v2)]) d_Hb_hang_33 rfl rfl ?_
      exact k_sub [4, 5, 6, 3, 2, 1, 0] rfl (t_Hb_hang_35 C q v1 v2 fu 0 (-1) 0 p3.2 h)
    · have h := (if_pos c4).symm.trans h
      refine k_iconst C (-1) d_Hb_hang_17 ic_m1 ?_
      obtain rfl := Option.some.inj h
      exact k_iret C q d_Hb_hang_18

def b_Hb_homes_105 (K46 : Int32 → Int32 → XD → Option (Int32 × XD)) (v1 : Int32) (v2 : Int32) (v3 : Int32) (v4 : Int32) (v6 : Int32) (v7 : Int32) (x : XD) : Option (Int32 × XD) := K46 v6 (v7 + 1) x
theorem t_Hb_homes_105 {g : GC} {X : MX} (C : Cx g X c_Hb_homes 8 n_Hb 4) {r : Int32 × XD} {z : ZD} (q : RtI g X (some .int) r.1 (r.2, z)) (v1 : Int32) (v2 : Int32) (v3 : Int32) (v4 : Int32) (v6 : Int32) (v7 : Int32) (K46 : Int32 → Int32 → XD → Option (Int32 × XD)) (hK46 : ∀ (v6 : Int32) (v7 : Int32) (x : XD), K46 v6 v7 x = some r → Wk g X 8 46 [(0, .ref (g_a g 0)), (1, .int v1), (2, .int v2), (3, .int v3), (4, .int v4), (6, .int v6), (7, .int v7)] [] (x, z)) (x : XD) (h : b_Hb_homes_105 K46 v1 v2 v3 v4 v6 v7 x = some r) : Wk g X 8 105 [(0, .ref (g_a g 0)), (1, .int v1), (2, .int v2), (3, .int v3), (4, .int v4), (6, .int v6), (7, .int v7)] [] (x, z) := by
  unfold b_Hb_homes_105 at h
  refine k_inc C (lv' := [(7, .int (v7 + 1)), (0, .ref (g_a g 0)), (1, .int v1), (2, .int v2), (3, .int v3), (4, .int v4), (6, .int v6)]) d_Hb_homes_105 6 rfl ic_1 rfl rfl ?_
  refine k_goto C 46 d_Hb_homes_108 (by decide) ?_
  exact k_sub [1, 2, 3, 4, 5, 6, 0] rfl (hK46 v6 (v7 + 1) x h)

def b_Hb_homes_46 (v1 : Int32) (v2 : Int32) (v3 : Int32) (v4 : Int32) : Nat → Int32 → Int32 → XD → Option (Int32 × XD)
  | 0, _, _, _ => none
  | n + 1, v6, v7, x => (if 21 ≤ v7 then (if v4 = 0 then some (v6, x) else (f_In_bitCount v6 x).bind fun p3 => (some (p3.1, p3.2))) else gI v2 7 ((f_St_become 64 (sid 10 v2) x).bind fun p5 => (lt (x_up p5.2 64 2 v7) fun (x6 : XD) => gI v1 8 ((f_Hb_isTold 64 (hid v1) v3 x6).bind fun p8 => ((if p8.1 = 0 then b_Hb_homes_105 (b_Hb_homes_46 v1 v2 v3 v4 n) v1 v2 v3 v4 v6 v7 p8.2 else b_Hb_homes_105 (b_Hb_homes_46 v1 v2 v3 v4 n) v1 v2 v3 v4 (v6 ||| (1 <<< (v7 &&& 31))) v7 p8.2))))))
theorem t_Hb_homes_46 {g : GC} {X : MX} (C : Cx g X c_Hb_homes 8 n_Hb 4) {r : Int32 × XD} {z : ZD} (q : RtI g X (some .int) r.1 (r.2, z)) (v1 : Int32) (v2 : Int32) (v3 : Int32) (v4 : Int32) : ∀ (n : Nat) (v6 : Int32) (v7 : Int32) (x : XD) (h : b_Hb_homes_46 v1 v2 v3 v4 n v6 v7 x = some r), Wk g X 8 46 [(0, .ref (g_a g 0)), (1, .int v1), (2, .int v2), (3, .int v3), (4, .int v4), (6, .int v6), (7, .int v7)] [] (x, z) := by
  intro n
  induction n with
  | zero =>
    intro v6 v7 x h
    rw [b_Hb_homes_46] at h
    cases h
  | succ n ih =>
    intro v6 v7 x h
    rw [b_Hb_homes_46] at h
    refine k_iload C d_Hb_homes_46 6 rfl ?_
    refine k_bipush C 21 d_Hb_homes_48 bp_21 ?_
    refine k_icmp_ge C 111 d_Hb_homes_50 (by decide) (fun c1 => ?_) (fun c1 => ?_)
    · have h := (if_pos c1).symm.trans h
      refine k_iload C d_Hb_homes_111 4 rfl ?_
      refine k_if_ne C 121 d_Hb_homes_113 (by decide) (fun c2 => ?_) (fun c2 => ?_)
      · have h := (if_neg c2).symm.trans h
        refine k_iload C d_Hb_homes_121 5 rfl ?_
        obtain ⟨p3, ep3, h⟩ := bd_some h
        refine k_callSi C q_Hb_214 (fun l => m_In_bitCount (cx_g C) l v6 x z p3 ep3) rfl rfl (rtI_c q) rfl rfl rfl d_Hb_homes_123 ?_
        obtain rfl := Option.some.inj h
        exact k_iret C q d_Hb_homes_126
      · have h := (if_pos c2).symm.trans h
        refine k_iload C d_Hb_homes_116 5 rfl ?_
        refine k_goto C 126 d_Hb_homes_118 (by decide) ?_
        obtain rfl := Option.some.inj h
        exact k_iret C q d_Hb_homes_126
    · have h := (if_neg c1).symm.trans h
      refine k_aload_n C d_Hb_homes_53 0 rfl ?_
      refine kg_Hb_58 C d_Hb_homes_54 ?_
      refine k_aload_n C d_Hb_homes_57 0 rfl ?_
      refine kg_Hb_42 C d_Hb_homes_58 ?_
      refine kg_Hb_107 C (by decide) d_Hb_homes_61 ?_
      refine k_iload_n C d_Hb_homes_64 2 rfl ?_
      obtain ⟨i4, h⟩ := gI_some h
      refine k_aald_St C (by decide) i4 d_Hb_homes_65 ?_
      obtain ⟨p5, ep5, h⟩ := bd_some h
      refine k_callVv C q_Hb_183 (fun l => m_St_become (cx_g C) l 64 (by decide) (sid 10 v2) (sid_ok (by decide) i4) x z p5 ep5) rfl rfl (rtI_c q) (by decide) (sh_St (by decide)) rfl rfl rfl rfl d_Hb_homes_66 ?_
      refine k_aload_n C d_Hb_homes_69 0 rfl ?_
      refine kg_Hb_58 C d_Hb_homes_70 ?_
      refine k_iload C d_Hb_homes_73 6 rfl ?_
      obtain ⟨x6, ex6, h⟩ := lt_some h
      refine kp_Hb_122 C (by decide) ex6 d_Hb_homes_75 ?_
      refine k_aload_n C d_Hb_homes_78 0 rfl ?_
      refine k_aload_n C d_Hb_homes_79 0 rfl ?_
      refine kg_Hb_58 C d_Hb_homes_80 ?_
      refine k_aload_n C d_Hb_homes_83 0 rfl ?_
      refine kg_Hb_64 C d_Hb_homes_84 ?_
      refine k_iload_n C d_Hb_homes_87 1 rfl ?_
      obtain ⟨i7, h⟩ := gI_some h
      refine k_aald_Sh C i7 d_Hb_homes_88 ?_
      refine k_iload_n C d_Hb_homes_89 3 rfl ?_
      obtain ⟨p8, ep8, h⟩ := bd_some h
      refine k_callVi C q_Hb_210 (fun l => m_Hb_isTold (cx_g C) l 64 (by decide) (hid v1) (hid_ok i7) v3 x6 z p8 ep8) rfl rfl (rtI_c q) (by decide) sh_Hb rfl rfl rfl rfl d_Hb_homes_90 ?_
      refine k_if_eq C 105 d_Hb_homes_93 (by decide) (fun c9 => ?_) (fun c9 => ?_)
      · have h := (if_pos c9).symm.trans h
        exact k_sub [0, 1, 2, 3, 4, 5, 6] rfl (t_Hb_homes_105 C q v1 v2 v3 v4 v6 v7 (b_Hb_homes_46 v1 v2 v3 v4 n) ih p8.2 h)
      · have h := (if_neg c9).symm.trans h
        refine k_iload C d_Hb_homes_96 5 rfl ?_
        refine k_iconst C 1 d_Hb_homes_98 ic_1 ?_
        refine k_iload C d_Hb_homes_99 6 rfl ?_
        refine k_ishl C d_Hb_homes_101 ?_
        refine k_ior C d_Hb_homes_102 ?_
        refine k_istore C (lv' := [(6, .int (v6 ||| (1 <<< (v7 &&& 31)))), (0, .ref (g_a g 0)), (1, .int v1), (2, .int v2), (3, .int v3), (4, .int v4), (7, .int v7)]) d_Hb_homes_103 rfl rfl ?_
        exact k_sub [1, 2, 3, 4, 5, 0, 6] rfl (t_Hb_homes_105 C q v1 v2 v3 v4 (v6 ||| (1 <<< (v7 &&& 31))) v7 (b_Hb_homes_46 v1 v2 v3 v4 n) ih p8.2 h)

def f_Hb_homes (v1 : Int32) (v2 : Int32) (v3 : Int32) (v4 : Int32) (x : XD) : Option (Int32 × XD) := (f_Hb_isHorse v2 x).bind fun p1 => ((if p1.1 = 0 then some ((-1), p1.2) else (f_Hb_isYard v3 p1.2).bind fun p3 => ((if p3.1 = 0 then some ((-1), p3.2) else (f_Hb_isEither v4 p3.2).bind fun p5 => ((if p5.1 = 0 then some ((-1), p5.2) else (f_Hb_refusalOfRow v1 p5.2).bind fun p7 => ((if p7.1 = 0 then b_Hb_homes_46 v1 v2 v3 v4 fu 0 0 p7.2 else some (p7.1, p7.2)))))))))
theorem m_Hb_homes {g : GC} (hg : gOk g) (l : Launch)  (v1 : Int32) (v2 : Int32) (v3 : Int32) (v4 : Int32) (x : XD) (z : ZD) (r : Int32 × XD) (h : f_Hb_homes v1 v2 v3 v4 x = some r) : Mi g l y_Hb_homes c_Hb_homes 8 (some .int) 4 [.ref (g_a g 0), .int v1, .int v2, .int v3, .int v4] (x, z) r.1 (r.2, z) := by
  refine m_i hg pn_Hb rfl fun X q C => ?_
  refine k_sub (lv' := [(0, .ref (g_a g 0)), (1, .int v1), (2, .int v2), (3, .int v3), (4, .int v4)]) [0, 1, 2, 3, 4] rfl ?_
  unfold f_Hb_homes at h
  refine k_aload_n C d_Hb_homes_0 0 rfl ?_
  refine k_iload_n C d_Hb_homes_1 2 rfl ?_
  obtain ⟨p1, ep1, h⟩ := bd_some h
  refine k_callVi C q_Hb_103 (fun l => m_Hb_isHorse (cx_g C) l v2 x z p1 ep1) rfl rfl (rtI_c q) (by decide) sh_Hb rfl rfl rfl rfl d_Hb_homes_2 ?_
  refine k_if_eq C 23 d_Hb_homes_5 (by decide) (fun c2 => ?_) (fun c2 => ?_)
  · have h := (if_pos c2).symm.trans h
    refine k_iconst C (-1) d_Hb_homes_23 ic_m1 ?_
    obtain rfl := Option.some.inj h
    exact k_iret C q d_Hb_homes_24
  · have h := (if_neg c2).symm.trans h
    refine k_iload_n C d_Hb_homes_8 3 rfl ?_
    obtain ⟨p3, ep3, h⟩ := bd_some h
    refine k_callSi C q_Hb_143 (fun l => m_Hb_isYard (cx_g C) l v3 p1.2 z p3 ep3) rfl rfl (rtI_c q) rfl rfl rfl d_Hb_homes_9 ?_
    refine k_if_eq C 23 d_Hb_homes_12 (by decide) (fun c4 => ?_) (fun c4 => ?_)
    · have h := (if_pos c4).symm.trans h
      refine k_iconst C (-1) d_Hb_homes_23 ic_m1 ?_
      obtain rfl := Option.some.inj h
      exact k_iret C q d_Hb_homes_24
    · have h := (if_neg c4).symm.trans h
      refine k_iload C d_Hb_homes_15 4 rfl ?_
      obtain ⟨p5, ep5, h⟩ := bd_some h
      refine k_callSi C q_Hb_180 (fun l => m_Hb_isEither (cx_g C) l v4 p3.2 z p5 ep5) rfl rfl (rtI_c q) rfl rfl rfl d_Hb_homes_17 ?_
      refine k_if_ne C 25 d_Hb_homes_20 (by decide) (fun c6 => ?_) (fun c6 => ?_)
      · have h := (if_neg c6).symm.trans h
        refine k_aload_n C d_Hb_homes_25 0 rfl ?_
        refine k_iload_n C d_Hb_homes_26 1 rfl ?_
        obtain ⟨p7, ep7, h⟩ := bd_some h
        refine k_callVi C q_Hb_73 (fun l => m_Hb_refusalOfRow (cx_g C) l v1 p5.2 z p7 ep7) rfl rfl (rtI_c q) (by decide) sh_Hb rfl rfl rfl rfl d_Hb_homes_27 ?_
        refine k_istore C (lv' := [(5, .int p7.1), (0, .ref (g_a g 0)), (1, .int v1), (2, .int v2), (3, .int v3), (4, .int v4)]) d_Hb_homes_30 rfl rfl ?_
        refine k_iload C d_Hb_homes_32 0 rfl ?_
        refine k_if_eq C 40 d_Hb_homes_34 (by decide) (fun c8 => ?_) (fun c8 => ?_)
        · have h := (if_pos c8).symm.trans h
          refine k_iconst C 0 d_Hb_homes_40 ic_0 ?_
          refine k_istore C (lv' := [(6, .int 0), (5, .int p7.1), (0, .ref (g_a g 0)), (1, .int v1), (2, .int v2), (3, .int v3), (4, .int v4)]) d_Hb_homes_41 rfl rfl ?_
          refine k_iconst C 0 d_Hb_homes_43 ic_0 ?_
          refine k_istore C (lv' := [(7, .int 0), (6, .int 0), (5, .int p7.1), (0, .ref (g_a g 0)), (1, .int v1), (2, .int v2), (3, .int v3), (4, .int v4)]) d_Hb_homes_44 rfl rfl ?_
          exact k_sub [3, 4, 5, 6, 7, 1, 0] rfl (t_Hb_homes_46 C q v1 v2 v3 v4 fu 0 0 p7.2 h)
        · have h := (if_neg c8).symm.trans h
          refine k_iload C d_Hb_homes_37 0 rfl ?_
          obtain rfl := Option.some.inj h
          exact k_iret C q d_Hb_homes_39
      · have h := (if_pos c6).symm.trans h
        refine k_iconst C (-1) d_Hb_homes_23 ic_m1 ?_
        obtain rfl := Option.some.inj h
        exact k_iret C q d_Hb_homes_24

def b_Hb_judge_30 (v1 : Int32) : Nat → Int32 → XD → Option (Int32 × XD)
  | 0, _, _ => none
  | n + 1, v4, x => gI v1 8 ((if x (hid v1) 4 ≤ v4 then some ((-4), x) else gI v1 8 ((f_La_allLonging 12 x).bind fun p4 => ((f_Sh_tells (hid v1) v4 p4.1 p4.2).bind fun p5 => ((if p5.1 = 0 then some (v4, p5.2) else (f_La_pass 12 1 p5.2).bind fun p7 => (b_Hb_judge_30 v1 n (v4 + 1) p7.2)))))))
theorem t_Hb_judge_30 {g : GC} {X : MX} (C : Cx g X c_Hb_judge 5 n_Hb 4) {r : Int32 × XD} {z : ZD} (q : RtI g X (some .int) r.1 (r.2, z)) (v1 : Int32) : ∀ (n : Nat) (v4 : Int32) (x : XD) (h : b_Hb_judge_30 v1 n v4 x = some r), Wk g X 5 30 [(0, .ref (g_a g 0)), (1, .int v1), (3, .ref (g_a g 12)), (4, .int v4)] [] (x, z) := by
  intro n
  induction n with
  | zero =>
    intro v4 x h
    rw [b_Hb_judge_30] at h
    cases h
  | succ n ih =>
    intro v4 x h
    rw [b_Hb_judge_30] at h
    refine k_iload C d_Hb_judge_30 3 rfl ?_
    refine k_aload_n C d_Hb_judge_32 0 rfl ?_
    refine kg_Hb_64 C d_Hb_judge_33 ?_
    refine k_iload_n C d_Hb_judge_36 1 rfl ?_
    obtain ⟨i1, h⟩ := gI_some h
    refine k_aald_Sh C i1 d_Hb_judge_37 ?_
    refine kg_Hb_89 C (hid_ok i1) d_Hb_judge_38 ?_
    refine k_icmp_ge C 76 d_Hb_judge_41 (by decide) (fun c2 => ?_) (fun c2 => ?_)
    · have h := (if_pos c2).symm.trans h
      refine k_bipush C (-4) d_Hb_judge_76 bp_m4 ?_
      obtain rfl := Option.some.inj h
      exact k_iret C q d_Hb_judge_78
    · have h := (if_neg c2).symm.trans h
      refine k_aload_n C d_Hb_judge_44 0 rfl ?_
      refine kg_Hb_64 C d_Hb_judge_45 ?_
      refine k_iload_n C d_Hb_judge_48 1 rfl ?_
      obtain ⟨i3, h⟩ := gI_some h
      refine k_aald_Sh C i3 d_Hb_judge_49 ?_
      refine k_iload C d_Hb_judge_50 3 rfl ?_
      refine k_aload_n C d_Hb_judge_52 2 rfl ?_
      obtain ⟨p4, ep4, h⟩ := bd_some h
      refine k_callVi C q_Hb_177 (fun l => m_La_allLonging (cx_g C) l 12 (by decide) x z p4 ep4) rfl rfl (rtI_c q) (by decide) (sh_La (by decide)) rfl rfl rfl rfl d_Hb_judge_53 ?_
      obtain ⟨p5, ep5, h⟩ := bd_some h
      refine k_callVi C q_Hb_239 (fun l => m_Sh_tells (cx_g C) l (hid v1) (hid_ok i3) v4 p4.1 p4.2 z p5 ep5) rfl rfl (rtI_c q) (lt105 (hid_ok i3) rfl) (sh_Sh (hid_ok i3)) rfl rfl rfl rfl d_Hb_judge_56 ?_
      refine k_if_ne C 65 d_Hb_judge_59 (by decide) (fun c6 => ?_) (fun c6 => ?_)
      · have h := (if_neg c6).symm.trans h
        refine k_aload_n C d_Hb_judge_65 2 rfl ?_
        refine k_iconst C 1 d_Hb_judge_66 ic_1 ?_
        obtain ⟨p7, ep7, h⟩ := bd_some h
        refine k_callVv C q_Hb_173 (fun l => m_La_pass (cx_g C) l 12 (by decide) 1 p5.2 z p7 ep7) rfl rfl (rtI_c q) (by decide) (sh_La (by decide)) rfl rfl rfl rfl d_Hb_judge_67 ?_
        refine k_inc C (lv' := [(4, .int (v4 + 1)), (0, .ref (g_a g 0)), (1, .int v1), (3, .ref (g_a g 12))]) d_Hb_judge_70 3 rfl ic_1 rfl rfl ?_
        refine k_goto C 30 d_Hb_judge_73 (by decide) ?_
        exact k_sub [1, 2, 3, 0] rfl (ih (v4 + 1) p7.2 h)
      · have h := (if_pos c6).symm.trans h
        refine k_iload C d_Hb_judge_62 3 rfl ?_
        obtain rfl := Option.some.inj h
        exact k_iret C q d_Hb_judge_64

def f_Hb_judge (v1 : Int32) (x : XD) : Option (Int32 × XD) := (f_Hb_refusalOfRow v1 x).bind fun p1 => ((if p1.1 = 0 then (f_La_become 12 10 p1.2).bind fun p3 => (b_Hb_judge_30 v1 fu 0 p3.2) else some (p1.1, p1.2)))
theorem m_Hb_judge {g : GC} (hg : gOk g) (l : Launch)  (v1 : Int32) (x : XD) (z : ZD) (r : Int32 × XD) (h : f_Hb_judge v1 x = some r) : Mi g l y_Hb_judge c_Hb_judge 5 (some .int) 4 [.ref (g_a g 0), .int v1] (x, z) r.1 (r.2, z) := by
  refine m_i hg pn_Hb rfl fun X q C => ?_
  refine k_sub (lv' := [(0, .ref (g_a g 0)), (1, .int v1)]) [0, 1] rfl ?_
  unfold f_Hb_judge at h
  refine k_aload_n C d_Hb_judge_0 0 rfl ?_
  refine k_iload_n C d_Hb_judge_1 1 rfl ?_
  obtain ⟨p1, ep1, h⟩ := bd_some h
  refine k_callVi C q_Hb_73 (fun l => m_Hb_refusalOfRow (cx_g C) l v1 x z p1 ep1) rfl rfl (rtI_c q) (by decide) sh_Hb rfl rfl rfl rfl d_Hb_judge_2 ?_
  refine k_istore_n C (lv' := [(2, .int p1.1), (0, .ref (g_a g 0)), (1, .int v1)]) d_Hb_judge_5 rfl rfl ?_
  refine k_iload_n C d_Hb_judge_6 0 rfl ?_
  refine k_if_eq C 12 d_Hb_judge_7 (by decide) (fun c2 => ?_) (fun c2 => ?_)
  · have h := (if_pos c2).symm.trans h
    refine k_aload_n C d_Hb_judge_12 1 rfl ?_
    refine kg_Hb_49 C d_Hb_judge_13 ?_
    refine k_iconst C 0 d_Hb_judge_16 ic_0 ?_
    refine k_aald_L0 C d_Hb_judge_17 ?_
    refine k_astore_n C (lv' := [(3, .ref (g_a g 12)), (2, .int p1.1), (0, .ref (g_a g 0)), (1, .int v1)]) d_Hb_judge_18 rfl rfl ?_
    refine k_aload_n C d_Hb_judge_19 0 rfl ?_
    refine k_aload_n C d_Hb_judge_20 2 rfl ?_
    refine kg_Hb_42 C d_Hb_judge_21 ?_
    obtain ⟨p3, ep3, h⟩ := bd_some h
    refine k_callVv C q_Hb_85 (fun l => m_La_become (cx_g C) l 12 (by decide) 10 (by decide) p1.2 z p3 ep3) rfl rfl (rtI_c q) (by decide) (sh_La (by decide)) rfl rfl rfl rfl d_Hb_judge_24 ?_
    refine k_iconst C 0 d_Hb_judge_27 ic_0 ?_
    refine k_istore C (lv' := [(4, .int 0), (3, .ref (g_a g 12)), (2, .int p1.1), (0, .ref (g_a g 0)), (1, .int v1)]) d_Hb_judge_28 rfl rfl ?_
    exact k_sub [3, 4, 1, 0] rfl (t_Hb_judge_30 C q v1 fu 0 p3.2 h)
  · have h := (if_neg c2).symm.trans h
    refine k_iload_n C d_Hb_judge_10 0 rfl ?_
    obtain rfl := Option.some.inj h
    exact k_iret C q d_Hb_judge_11

def b_Hb_kindsTold_65 (K6 : Int32 → Int32 → XD → Option (Int32 × XD)) (o1 : Nat) (v2 : Int32) (v3 : Int32) (v4 : Int32) (v5 : Int32) (x : XD) : Option (Int32 × XD) := K6 v4 (v5 + 1) x
theorem t_Hb_kindsTold_65 {g : GC} {X : MX} (C : Cx g X c_Hb_kindsTold 6 n_Hb 4) {r : Int32 × XD} {z : ZD} (q : RtI g X (some .int) r.1 (r.2, z)) (o1 : Nat) (h_o1 : 67 ≤ o1 ∧ o1 < 75) (v2 : Int32) (v3 : Int32) (v4 : Int32) (v5 : Int32) (K6 : Int32 → Int32 → XD → Option (Int32 × XD)) (hK6 : ∀ (v4 : Int32) (v5 : Int32) (x : XD), K6 v4 v5 x = some r → Wk g X 6 6 [(0, .ref (g_a g 0)), (1, .ref (g_a g o1)), (2, .int v2), (3, .int v3), (4, .int v4), (5, .int v5)] [] (x, z)) (x : XD) (h : b_Hb_kindsTold_65 K6 o1 v2 v3 v4 v5 x = some r) : Wk g X 6 65 [(0, .ref (g_a g 0)), (1, .ref (g_a g o1)), (2, .int v2), (3, .int v3), (4, .int v4), (5, .int v5)] [] (x, z) := by
  unfold b_Hb_kindsTold_65 at h
  refine k_inc C (lv' := [(5, .int (v5 + 1)), (0, .ref (g_a g 0)), (1, .ref (g_a g o1)), (2, .int v2), (3, .int v3), (4, .int v4)]) d_Hb_kindsTold_65 5 rfl ic_1 rfl rfl ?_
  refine k_goto C 6 d_Hb_kindsTold_68 (by decide) ?_
  exact k_sub [1, 2, 3, 4, 5, 0] rfl (hK6 v4 (v5 + 1) x h)

def b_Hb_kindsTold_6 (o1 : Nat) (v2 : Int32) (v3 : Int32) : Nat → Int32 → Int32 → XD → Option (Int32 × XD)
  | 0, _, _, _ => none
  | n + 1, v4, v5, x => (if 8 ≤ v5 then some (v4, x) else gI v2 7 ((f_St_become 64 (sid 10 v2) x).bind fun p3 => (gI v5 8 (lt (x_up p3.2 64 0 v5) fun (x5 : XD) => (f_Hb_isTold 64 o1 v3 x5).bind fun p6 => ((if p6.1 = 0 then b_Hb_kindsTold_65 (b_Hb_kindsTold_6 o1 v2 v3 n) o1 v2 v3 v4 v5 p6.2 else b_Hb_kindsTold_65 (b_Hb_kindsTold_6 o1 v2 v3 n) o1 v2 v3 (v4 ||| (1 <<< (v5 &&& 31))) v5 p6.2))))))
theorem t_Hb_kindsTold_6 {g : GC} {X : MX} (C : Cx g X c_Hb_kindsTold 6 n_Hb 4) {r : Int32 × XD} {z : ZD} (q : RtI g X (some .int) r.1 (r.2, z)) (o1 : Nat) (h_o1 : 67 ≤ o1 ∧ o1 < 75) (v2 : Int32) (v3 : Int32) : ∀ (n : Nat) (v4 : Int32) (v5 : Int32) (x : XD) (h : b_Hb_kindsTold_6 o1 v2 v3 n v4 v5 x = some r), Wk g X 6 6 [(0, .ref (g_a g 0)), (1, .ref (g_a g o1)), (2, .int v2), (3, .int v3), (4, .int v4), (5, .int v5)] [] (x, z) := by
  intro n
  induction n with
  | zero =>
    intro v4 v5 x h
    rw [b_Hb_kindsTold_6] at h
    cases h
  | succ n ih =>
    intro v4 v5 x h
    rw [b_Hb_kindsTold_6] at h
    refine k_iload C d_Hb_kindsTold_6 5 rfl ?_
    refine k_bipush C 8 d_Hb_kindsTold_8 bp_8 ?_
    refine k_icmp_ge C 71 d_Hb_kindsTold_10 (by decide) (fun c1 => ?_) (fun c1 => ?_)
    · have h := (if_pos c1).symm.trans h
      refine k_iload C d_Hb_kindsTold_71 4 rfl ?_
      obtain rfl := Option.some.inj h
      exact k_iret C q d_Hb_kindsTold_73
    · have h := (if_neg c1).symm.trans h
      refine k_aload_n C d_Hb_kindsTold_13 0 rfl ?_
      refine kg_Hb_58 C d_Hb_kindsTold_14 ?_
      refine k_aload_n C d_Hb_kindsTold_17 0 rfl ?_
      refine kg_Hb_42 C d_Hb_kindsTold_18 ?_
      refine kg_Hb_107 C (by decide) d_Hb_kindsTold_21 ?_
      refine k_iload_n C d_Hb_kindsTold_24 2 rfl ?_
      obtain ⟨i2, h⟩ := gI_some h
      refine k_aald_St C (by decide) i2 d_Hb_kindsTold_25 ?_
      obtain ⟨p3, ep3, h⟩ := bd_some h
      refine k_callVv C q_Hb_183 (fun l => m_St_become (cx_g C) l 64 (by decide) (sid 10 v2) (sid_ok (by decide) i2) x z p3 ep3) rfl rfl (rtI_c q) (by decide) (sh_St (by decide)) rfl rfl rfl rfl d_Hb_kindsTold_26 ?_
      refine k_aload_n C d_Hb_kindsTold_29 0 rfl ?_
      refine kg_Hb_58 C d_Hb_kindsTold_30 ?_
      refine k_aload_n C d_Hb_kindsTold_33 0 rfl ?_
      refine kg_Hb_31 C d_Hb_kindsTold_34 ?_
      refine k_iload C d_Hb_kindsTold_37 5 rfl ?_
      obtain ⟨i4, h⟩ := gI_some h
      refine k_aald_kd C i4 d_Hb_kindsTold_39 ?_
      obtain ⟨x5, ex5, h⟩ := lt_some h
      refine kp_Hb_111 C (by decide) ex5 d_Hb_kindsTold_40 ?_
      refine k_aload_n C d_Hb_kindsTold_43 0 rfl ?_
      refine k_aload_n C d_Hb_kindsTold_44 0 rfl ?_
      refine kg_Hb_58 C d_Hb_kindsTold_45 ?_
      refine k_aload_n C d_Hb_kindsTold_48 1 rfl ?_
      refine k_iload_n C d_Hb_kindsTold_49 3 rfl ?_
      obtain ⟨p6, ep6, h⟩ := bd_some h
      refine k_callVi C q_Hb_210 (fun l => m_Hb_isTold (cx_g C) l 64 (by decide) o1 h_o1 v3 x5 z p6 ep6) rfl rfl (rtI_c q) (by decide) sh_Hb rfl rfl rfl rfl d_Hb_kindsTold_50 ?_
      refine k_if_eq C 65 d_Hb_kindsTold_53 (by decide) (fun c7 => ?_) (fun c7 => ?_)
      · have h := (if_pos c7).symm.trans h
        exact k_sub [0, 1, 2, 3, 4, 5] rfl (t_Hb_kindsTold_65 C q o1 h_o1 v2 v3 v4 v5 (b_Hb_kindsTold_6 o1 v2 v3 n) ih p6.2 h)
      · have h := (if_neg c7).symm.trans h
        refine k_iload C d_Hb_kindsTold_56 4 rfl ?_
        refine k_iconst C 1 d_Hb_kindsTold_58 ic_1 ?_
        refine k_iload C d_Hb_kindsTold_59 5 rfl ?_
        refine k_ishl C d_Hb_kindsTold_61 ?_
        refine k_ior C d_Hb_kindsTold_62 ?_
        refine k_istore C (lv' := [(4, .int (v4 ||| (1 <<< (v5 &&& 31)))), (0, .ref (g_a g 0)), (1, .ref (g_a g o1)), (2, .int v2), (3, .int v3), (5, .int v5)]) d_Hb_kindsTold_63 rfl rfl ?_
        exact k_sub [1, 2, 3, 4, 0, 5] rfl (t_Hb_kindsTold_65 C q o1 h_o1 v2 v3 (v4 ||| (1 <<< (v5 &&& 31))) v5 (b_Hb_kindsTold_6 o1 v2 v3 n) ih p6.2 h)

def f_Hb_kindsTold (o1 : Nat) (v2 : Int32) (v3 : Int32) (x : XD) : Option (Int32 × XD) := b_Hb_kindsTold_6 o1 v2 v3 fu 0 0 x
theorem m_Hb_kindsTold {g : GC} (hg : gOk g) (l : Launch)  (o1 : Nat) (h_o1 : 67 ≤ o1 ∧ o1 < 75) (v2 : Int32) (v3 : Int32) (x : XD) (z : ZD) (r : Int32 × XD) (h : f_Hb_kindsTold o1 v2 v3 x = some r) : Mi g l y_Hb_kindsTold c_Hb_kindsTold 6 (some .int) 4 [.ref (g_a g 0), .ref (g_a g o1), .int v2, .int v3] (x, z) r.1 (r.2, z) := by
  refine m_i hg pn_Hb rfl fun X q C => ?_
  refine k_sub (lv' := [(0, .ref (g_a g 0)), (1, .ref (g_a g o1)), (2, .int v2), (3, .int v3)]) [0, 1, 2, 3] rfl ?_
  unfold f_Hb_kindsTold at h
  refine k_iconst C 0 d_Hb_kindsTold_0 ic_0 ?_
  refine k_istore C (lv' := [(4, .int 0), (0, .ref (g_a g 0)), (1, .ref (g_a g o1)), (2, .int v2), (3, .int v3)]) d_Hb_kindsTold_1 rfl rfl ?_
  refine k_iconst C 0 d_Hb_kindsTold_3 ic_0 ?_
  refine k_istore C (lv' := [(5, .int 0), (4, .int 0), (0, .ref (g_a g 0)), (1, .ref (g_a g o1)), (2, .int v2), (3, .int v3)]) d_Hb_kindsTold_4 rfl rfl ?_
  exact k_sub [2, 3, 4, 5, 1, 0] rfl (t_Hb_kindsTold_6 C q o1 h_o1 v2 v3 fu 0 0 x h)

def b_Hb_leastLonging_30 (v1 : Int32) (v2 : Int32) (v3 : Int32) : Nat → Int32 → XD → Option (Int32 × XD)
  | 0, _, _ => none
  | n + 1, v4, x => (if 99 < v4 then some ((-4), x) else gI v1 7 ((f_St_become 64 (sid 10 v1) x).bind fun p3 => (lt (x_up p3.2 64 4 v4) fun (x4 : XD) => (f_St_ride 64 v2 (x4 10 3) x4).bind fun p5 => ((if v3 < p5.1 then b_Hb_leastLonging_30 v1 v2 v3 n (v4 + 1) p5.2 else some (v4, p5.2))))))
theorem t_Hb_leastLonging_30 {g : GC} {X : MX} (C : Cx g X c_Hb_leastLonging 5 n_Hb 4) {r : Int32 × XD} {z : ZD} (q : RtI g X (some .int) r.1 (r.2, z)) (v1 : Int32) (v2 : Int32) (v3 : Int32) : ∀ (n : Nat) (v4 : Int32) (x : XD) (h : b_Hb_leastLonging_30 v1 v2 v3 n v4 x = some r), Wk g X 5 30 [(0, .ref (g_a g 0)), (1, .int v1), (2, .int v2), (3, .int v3), (4, .int v4)] [] (x, z) := by
  intro n
  induction n with
  | zero =>
    intro v4 x h
    rw [b_Hb_leastLonging_30] at h
    cases h
  | succ n ih =>
    intro v4 x h
    rw [b_Hb_leastLonging_30] at h
    refine k_iload C d_Hb_leastLonging_30 4 rfl ?_
    refine k_bipush C 99 d_Hb_leastLonging_32 bp_99 ?_
    refine k_icmp_gt C 90 d_Hb_leastLonging_34 (by decide) (fun c1 => ?_) (fun c1 => ?_)
    · have h := (if_pos c1).symm.trans h
      refine k_bipush C (-4) d_Hb_leastLonging_90 bp_m4 ?_
      obtain rfl := Option.some.inj h
      exact k_iret C q d_Hb_leastLonging_92
    · have h := (if_neg c1).symm.trans h
      refine k_aload_n C d_Hb_leastLonging_37 0 rfl ?_
      refine kg_Hb_58 C d_Hb_leastLonging_38 ?_
      refine k_aload_n C d_Hb_leastLonging_41 0 rfl ?_
      refine kg_Hb_42 C d_Hb_leastLonging_42 ?_
      refine kg_Hb_107 C (by decide) d_Hb_leastLonging_45 ?_
      refine k_iload_n C d_Hb_leastLonging_48 1 rfl ?_
      obtain ⟨i2, h⟩ := gI_some h
      refine k_aald_St C (by decide) i2 d_Hb_leastLonging_49 ?_
      obtain ⟨p3, ep3, h⟩ := bd_some h
      refine k_callVv C q_Hb_183 (fun l => m_St_become (cx_g C) l 64 (by decide) (sid 10 v1) (sid_ok (by decide) i2) x z p3 ep3) rfl rfl (rtI_c q) (by decide) (sh_St (by decide)) rfl rfl rfl rfl d_Hb_leastLonging_50 ?_
      refine k_aload_n C d_Hb_leastLonging_53 0 rfl ?_
      refine kg_Hb_58 C d_Hb_leastLonging_54 ?_
      refine k_iload C d_Hb_leastLonging_57 4 rfl ?_
      obtain ⟨x4, ex4, h⟩ := lt_some h
      refine kp_Hb_128 C (by decide) ex4 d_Hb_leastLonging_59 ?_
      refine k_aload_n C d_Hb_leastLonging_62 0 rfl ?_
      refine kg_Hb_58 C d_Hb_leastLonging_63 ?_
      refine k_iload_n C d_Hb_leastLonging_66 2 rfl ?_
      refine k_aload_n C d_Hb_leastLonging_67 0 rfl ?_
      refine kg_Hb_42 C d_Hb_leastLonging_68 ?_
      refine kg_Hb_131 C (by decide) d_Hb_leastLonging_71 ?_
      obtain ⟨p5, ep5, h⟩ := bd_some h
      refine k_callVi C q_Hb_197 (fun l => m_St_ride (cx_g C) l 64 (by decide) v2 (x4 10 3) x4 z p5 ep5) rfl rfl (rtI_c q) (by decide) (sh_St (by decide)) rfl rfl rfl rfl d_Hb_leastLonging_74 ?_
      refine k_iload_n C d_Hb_leastLonging_77 3 rfl ?_
      refine k_icmp_gt C 84 d_Hb_leastLonging_78 (by decide) (fun c6 => ?_) (fun c6 => ?_)
      · have h := (if_pos c6).symm.trans h
        refine k_inc C (lv' := [(4, .int (v4 + 1)), (0, .ref (g_a g 0)), (1, .int v1), (2, .int v2), (3, .int v3)]) d_Hb_leastLonging_84 4 rfl ic_1 rfl rfl ?_
        refine k_goto C 30 d_Hb_leastLonging_87 (by decide) ?_
        exact k_sub [1, 2, 3, 4, 0] rfl (ih (v4 + 1) p5.2 h)
      · have h := (if_neg c6).symm.trans h
        refine k_iload C d_Hb_leastLonging_81 4 rfl ?_
        obtain rfl := Option.some.inj h
        exact k_iret C q d_Hb_leastLonging_83

def f_Hb_leastLonging (v1 : Int32) (v2 : Int32) (v3 : Int32) (x : XD) : Option (Int32 × XD) := (f_Hb_isHorse v1 x).bind fun p1 => ((if p1.1 = 0 then some ((-1), p1.2) else (f_Hb_isYard v2 p1.2).bind fun p3 => ((if p3.1 = 0 then some ((-1), p3.2) else (f_Hb_isWithin v3 0 20 p3.2).bind fun p5 => ((if p5.1 = 0 then some ((-1), p5.2) else b_Hb_leastLonging_30 v1 v2 v3 fu 0 p5.2))))))
theorem m_Hb_leastLonging {g : GC} (hg : gOk g) (l : Launch)  (v1 : Int32) (v2 : Int32) (v3 : Int32) (x : XD) (z : ZD) (r : Int32 × XD) (h : f_Hb_leastLonging v1 v2 v3 x = some r) : Mi g l y_Hb_leastLonging c_Hb_leastLonging 5 (some .int) 4 [.ref (g_a g 0), .int v1, .int v2, .int v3] (x, z) r.1 (r.2, z) := by
  refine m_i hg pn_Hb rfl fun X q C => ?_
  refine k_sub (lv' := [(0, .ref (g_a g 0)), (1, .int v1), (2, .int v2), (3, .int v3)]) [0, 1, 2, 3] rfl ?_
  unfold f_Hb_leastLonging at h
  refine k_aload_n C d_Hb_leastLonging_0 0 rfl ?_
  refine k_iload_n C d_Hb_leastLonging_1 1 rfl ?_
  obtain ⟨p1, ep1, h⟩ := bd_some h
  refine k_callVi C q_Hb_103 (fun l => m_Hb_isHorse (cx_g C) l v1 x z p1 ep1) rfl rfl (rtI_c q) (by decide) sh_Hb rfl rfl rfl rfl d_Hb_leastLonging_2 ?_
  refine k_if_eq C 25 d_Hb_leastLonging_5 (by decide) (fun c2 => ?_) (fun c2 => ?_)
  · have h := (if_pos c2).symm.trans h
    refine k_iconst C (-1) d_Hb_leastLonging_25 ic_m1 ?_
    obtain rfl := Option.some.inj h
    exact k_iret C q d_Hb_leastLonging_26
  · have h := (if_neg c2).symm.trans h
    refine k_iload_n C d_Hb_leastLonging_8 2 rfl ?_
    obtain ⟨p3, ep3, h⟩ := bd_some h
    refine k_callSi C q_Hb_143 (fun l => m_Hb_isYard (cx_g C) l v2 p1.2 z p3 ep3) rfl rfl (rtI_c q) rfl rfl rfl d_Hb_leastLonging_9 ?_
    refine k_if_eq C 25 d_Hb_leastLonging_12 (by decide) (fun c4 => ?_) (fun c4 => ?_)
    · have h := (if_pos c4).symm.trans h
      refine k_iconst C (-1) d_Hb_leastLonging_25 ic_m1 ?_
      obtain rfl := Option.some.inj h
      exact k_iret C q d_Hb_leastLonging_26
    · have h := (if_neg c4).symm.trans h
      refine k_iload_n C d_Hb_leastLonging_15 3 rfl ?_
      refine k_iconst C 0 d_Hb_leastLonging_16 ic_0 ?_
      refine k_bipush C 20 d_Hb_leastLonging_17 bp_20 ?_
      obtain ⟨p5, ep5, h⟩ := bd_some h
      refine k_callSi C q_Hb_169 (fun l => m_Hb_isWithin (cx_g C) l v3 0 20 p3.2 z p5 ep5) rfl rfl (rtI_c q) rfl rfl rfl d_Hb_leastLonging_19 ?_
      refine k_if_ne C 27 d_Hb_leastLonging_22 (by decide) (fun c6 => ?_) (fun c6 => ?_)
      · have h := (if_neg c6).symm.trans h
        refine k_iconst C 0 d_Hb_leastLonging_27 ic_0 ?_
        refine k_istore C (lv' := [(4, .int 0), (0, .ref (g_a g 0)), (1, .int v1), (2, .int v2), (3, .int v3)]) d_Hb_leastLonging_28 rfl rfl ?_
        exact k_sub [1, 2, 3, 4, 0] rfl (t_Hb_leastLonging_30 C q v1 v2 v3 fu 0 p5.2 h)
      · have h := (if_pos c6).symm.trans h
        refine k_iconst C (-1) d_Hb_leastLonging_25 ic_m1 ?_
        obtain rfl := Option.some.inj h
        exact k_iret C q d_Hb_leastLonging_26

def f_Hb_put (v1 : Int32) (v2 : Int32) (v3 : Int32) (x : XD) : Option (Int32 × XD) := (f_Hb_refusalOfRow v1 x).bind fun p1 => ((if p1.1 = 0 then gI v1 8 ((f_Hb_isWithin v2 0 ((p1.2 (hid v1) 4) - 1) p1.2).bind fun p4 => ((if p4.1 = 0 then some ((-13), p4.2) else gI v1 8 ((f_Sh_set (hid v1) v2 v3 p4.2).bind fun p7 => (some (0, p7.2)))))) else some (p1.1, p1.2)))
theorem m_Hb_put {g : GC} (hg : gOk g) (l : Launch)  (v1 : Int32) (v2 : Int32) (v3 : Int32) (x : XD) (z : ZD) (r : Int32 × XD) (h : f_Hb_put v1 v2 v3 x = some r) : Mi g l y_Hb_put c_Hb_put 5 (some .int) 4 [.ref (g_a g 0), .int v1, .int v2, .int v3] (x, z) r.1 (r.2, z) := by
  refine m_i hg pn_Hb rfl fun X q C => ?_
  refine k_sub (lv' := [(0, .ref (g_a g 0)), (1, .int v1), (2, .int v2), (3, .int v3)]) [0, 1, 2, 3] rfl ?_
  unfold f_Hb_put at h
  refine k_aload_n C d_Hb_put_0 0 rfl ?_
  refine k_iload_n C d_Hb_put_1 1 rfl ?_
  obtain ⟨p1, ep1, h⟩ := bd_some h
  refine k_callVi C q_Hb_73 (fun l => m_Hb_refusalOfRow (cx_g C) l v1 x z p1 ep1) rfl rfl (rtI_c q) (by decide) sh_Hb rfl rfl rfl rfl d_Hb_put_2 ?_
  refine k_istore C (lv' := [(4, .int p1.1), (0, .ref (g_a g 0)), (1, .int v1), (2, .int v2), (3, .int v3)]) d_Hb_put_5 rfl rfl ?_
  refine k_iload C d_Hb_put_7 0 rfl ?_
  refine k_if_eq C 15 d_Hb_put_9 (by decide) (fun c2 => ?_) (fun c2 => ?_)
  · have h := (if_pos c2).symm.trans h
    refine k_iload_n C d_Hb_put_15 3 rfl ?_
    refine k_iconst C 0 d_Hb_put_16 ic_0 ?_
    refine k_aload_n C d_Hb_put_17 1 rfl ?_
    refine kg_Hb_64 C d_Hb_put_18 ?_
    refine k_iload_n C d_Hb_put_21 2 rfl ?_
    obtain ⟨i3, h⟩ := gI_some h
    refine k_aald_Sh C i3 d_Hb_put_22 ?_
    refine kg_Hb_89 C (hid_ok i3) d_Hb_put_23 ?_
    refine k_iconst C 1 d_Hb_put_26 ic_1 ?_
    refine k_isub C d_Hb_put_27 ?_
    obtain ⟨p4, ep4, h⟩ := bd_some h
    refine k_callSi C q_Hb_169 (fun l => m_Hb_isWithin (cx_g C) l v2 0 ((p1.2 (hid v1) 4) - 1) p1.2 z p4 ep4) rfl rfl (rtI_c q) rfl rfl rfl d_Hb_put_28 ?_
    refine k_if_ne C 37 d_Hb_put_31 (by decide) (fun c5 => ?_) (fun c5 => ?_)
    · have h := (if_neg c5).symm.trans h
      refine k_aload_n C d_Hb_put_37 1 rfl ?_
      refine kg_Hb_64 C d_Hb_put_38 ?_
      refine k_iload_n C d_Hb_put_41 2 rfl ?_
      obtain ⟨i6, h⟩ := gI_some h
      refine k_aald_Sh C i6 d_Hb_put_42 ?_
      refine k_iload_n C d_Hb_put_43 3 rfl ?_
      refine k_iload_n C d_Hb_put_44 4 rfl ?_
      obtain ⟨p7, ep7, h⟩ := bd_some h
      refine k_callVv C q_Hb_267 (fun l => m_Sh_set (cx_g C) l (hid v1) (hid_ok i6) v2 v3 p4.2 z p7 ep7) rfl rfl (rtI_c q) (lt105 (hid_ok i6) rfl) (sh_Sh (hid_ok i6)) rfl rfl rfl rfl d_Hb_put_45 ?_
      refine k_iconst C 0 d_Hb_put_48 ic_0 ?_
      obtain rfl := Option.some.inj h
      exact k_iret C q d_Hb_put_49
    · have h := (if_pos c5).symm.trans h
      refine k_bipush C (-13) d_Hb_put_34 bp_m13 ?_
      obtain rfl := Option.some.inj h
      exact k_iret C q d_Hb_put_36
  · have h := (if_neg c2).symm.trans h
    refine k_iload C d_Hb_put_12 0 rfl ?_
    obtain rfl := Option.some.inj h
    exact k_iret C q d_Hb_put_14

def b_Hb_ripe_38 (v2 : Int32) : Nat → Int32 → XD → Option (Int32 × XD)
  | 0, _, _ => none
  | n + 1, v3, x => (if 60 < v3 then some ((-4), x) else (f_St_pace 64 x).bind fun p2 => ((if p2.1 < v2 then (f_St_stay 64 1 (p2.2 10 3) p2.2).bind fun p4 => (b_Hb_ripe_38 v2 n (v3 + 1) p4.2) else some (v3, p2.2))))
theorem t_Hb_ripe_38 {g : GC} {X : MX} (C : Cx g X c_Hb_ripe 4 n_Hb 4) {r : Int32 × XD} {z : ZD} (q : RtI g X (some .int) r.1 (r.2, z)) (v2 : Int32) : ∀ (n : Nat) (v3 : Int32) (x : XD) (h : b_Hb_ripe_38 v2 n v3 x = some r), Wk g X 4 38 [(0, .ref (g_a g 0)), (2, .int v2), (3, .int v3)] [] (x, z) := by
  intro n
  induction n with
  | zero =>
    intro v3 x h
    rw [b_Hb_ripe_38] at h
    cases h
  | succ n ih =>
    intro v3 x h
    rw [b_Hb_ripe_38] at h
    refine k_iload_n C d_Hb_ripe_38 2 rfl ?_
    refine k_bipush C 60 d_Hb_ripe_39 bp_60 ?_
    refine k_icmp_gt C 78 d_Hb_ripe_41 (by decide) (fun c1 => ?_) (fun c1 => ?_)
    · have h := (if_pos c1).symm.trans h
      refine k_bipush C (-4) d_Hb_ripe_78 bp_m4 ?_
      obtain rfl := Option.some.inj h
      exact k_iret C q d_Hb_ripe_80
    · have h := (if_neg c1).symm.trans h
      refine k_aload_n C d_Hb_ripe_44 0 rfl ?_
      refine kg_Hb_58 C d_Hb_ripe_45 ?_
      obtain ⟨p2, ep2, h⟩ := bd_some h
      refine k_callVi C q_Hb_137 (fun l => m_St_pace (cx_g C) l 64 (by decide) x z p2 ep2) rfl rfl (rtI_c q) (by decide) (sh_St (by decide)) rfl rfl rfl rfl d_Hb_ripe_48 ?_
      refine k_iload_n C d_Hb_ripe_51 1 rfl ?_
      refine k_icmp_lt C 57 d_Hb_ripe_52 (by decide) (fun c3 => ?_) (fun c3 => ?_)
      · have h := (if_pos c3).symm.trans h
        refine k_aload_n C d_Hb_ripe_57 0 rfl ?_
        refine kg_Hb_58 C d_Hb_ripe_58 ?_
        refine k_iconst C 1 d_Hb_ripe_61 ic_1 ?_
        refine k_aload_n C d_Hb_ripe_62 0 rfl ?_
        refine kg_Hb_42 C d_Hb_ripe_63 ?_
        refine kg_Hb_131 C (by decide) d_Hb_ripe_66 ?_
        obtain ⟨p4, ep4, h⟩ := bd_some h
        refine k_callVv C q_Hb_186 (fun l => m_St_stay (cx_g C) l 64 (by decide) 1 (p2.2 10 3) p2.2 z p4 ep4) rfl rfl (rtI_c q) (by decide) (sh_St (by decide)) rfl rfl rfl rfl d_Hb_ripe_69 ?_
        refine k_inc C (lv' := [(3, .int (v3 + 1)), (0, .ref (g_a g 0)), (2, .int v2)]) d_Hb_ripe_72 2 rfl ic_1 rfl rfl ?_
        refine k_goto C 38 d_Hb_ripe_75 (by decide) ?_
        exact k_sub [1, 2, 0] rfl (ih (v3 + 1) p4.2 h)
      · have h := (if_neg c3).symm.trans h
        refine k_iload_n C d_Hb_ripe_55 2 rfl ?_
        obtain rfl := Option.some.inj h
        exact k_iret C q d_Hb_ripe_56

def f_Hb_ripe (v1 : Int32) (v2 : Int32) (x : XD) : Option (Int32 × XD) := (f_Hb_isHorse v1 x).bind fun p1 => ((if p1.1 = 0 then some ((-1), p1.2) else (f_Hb_isWithin v2 1 60 p1.2).bind fun p3 => ((if p3.1 = 0 then some ((-1), p3.2) else gI v1 7 ((f_St_become 64 (sid 10 v1) p3.2).bind fun p6 => (b_Hb_ripe_38 v2 fu 0 p6.2))))))
theorem m_Hb_ripe {g : GC} (hg : gOk g) (l : Launch)  (v1 : Int32) (v2 : Int32) (x : XD) (z : ZD) (r : Int32 × XD) (h : f_Hb_ripe v1 v2 x = some r) : Mi g l y_Hb_ripe c_Hb_ripe 4 (some .int) 4 [.ref (g_a g 0), .int v1, .int v2] (x, z) r.1 (r.2, z) := by
  refine m_i hg pn_Hb rfl fun X q C => ?_
  refine k_sub (lv' := [(0, .ref (g_a g 0)), (1, .int v1), (2, .int v2)]) [0, 1, 2] rfl ?_
  unfold f_Hb_ripe at h
  refine k_aload_n C d_Hb_ripe_0 0 rfl ?_
  refine k_iload_n C d_Hb_ripe_1 1 rfl ?_
  obtain ⟨p1, ep1, h⟩ := bd_some h
  refine k_callVi C q_Hb_103 (fun l => m_Hb_isHorse (cx_g C) l v1 x z p1 ep1) rfl rfl (rtI_c q) (by decide) sh_Hb rfl rfl rfl rfl d_Hb_ripe_2 ?_
  refine k_if_eq C 18 d_Hb_ripe_5 (by decide) (fun c2 => ?_) (fun c2 => ?_)
  · have h := (if_pos c2).symm.trans h
    refine k_iconst C (-1) d_Hb_ripe_18 ic_m1 ?_
    obtain rfl := Option.some.inj h
    exact k_iret C q d_Hb_ripe_19
  · have h := (if_neg c2).symm.trans h
    refine k_iload_n C d_Hb_ripe_8 2 rfl ?_
    refine k_iconst C 1 d_Hb_ripe_9 ic_1 ?_
    refine k_bipush C 60 d_Hb_ripe_10 bp_60 ?_
    obtain ⟨p3, ep3, h⟩ := bd_some h
    refine k_callSi C q_Hb_169 (fun l => m_Hb_isWithin (cx_g C) l v2 1 60 p1.2 z p3 ep3) rfl rfl (rtI_c q) rfl rfl rfl d_Hb_ripe_12 ?_
    refine k_if_ne C 20 d_Hb_ripe_15 (by decide) (fun c4 => ?_) (fun c4 => ?_)
    · have h := (if_neg c4).symm.trans h
      refine k_aload_n C d_Hb_ripe_20 0 rfl ?_
      refine kg_Hb_58 C d_Hb_ripe_21 ?_
      refine k_aload_n C d_Hb_ripe_24 0 rfl ?_
      refine kg_Hb_42 C d_Hb_ripe_25 ?_
      refine kg_Hb_107 C (by decide) d_Hb_ripe_28 ?_
      refine k_iload_n C d_Hb_ripe_31 1 rfl ?_
      obtain ⟨i5, h⟩ := gI_some h
      refine k_aald_St C (by decide) i5 d_Hb_ripe_32 ?_
      obtain ⟨p6, ep6, h⟩ := bd_some h
      refine k_callVv C q_Hb_183 (fun l => m_St_become (cx_g C) l 64 (by decide) (sid 10 v1) (sid_ok (by decide) i5) p3.2 z p6 ep6) rfl rfl (rtI_c q) (by decide) (sh_St (by decide)) rfl rfl rfl rfl d_Hb_ripe_33 ?_
      refine k_iconst C 0 d_Hb_ripe_36 ic_0 ?_
      refine k_istore_n C (lv' := [(3, .int 0), (0, .ref (g_a g 0)), (1, .int v1), (2, .int v2)]) d_Hb_ripe_37 rfl rfl ?_
      exact k_sub [1, 3, 0] rfl (t_Hb_ripe_38 C q v2 fu 0 p6.2 h)
    · have h := (if_pos c4).symm.trans h
      refine k_iconst C (-1) d_Hb_ripe_18 ic_m1 ?_
      obtain rfl := Option.some.inj h
      exact k_iret C q d_Hb_ripe_19

def b_Hb_storm_149 (v3 : Int32) (v4 : Int32) (v5 : Int32) (v6 : Int64) : Nat → Int64 → Int32 → XD → Option (Int64 × XD)
  | 0, _, _, _ => none
  | n + 1, v8, v12, x => (if v3 ≤ v12 then (f_Hb_partOf v6 v8 v5 x).bind fun p2 => (some (p2.1, p2.2)) else b_Hb_storm_149 v3 v4 v5 v6 n (v8 * v4.toInt64) (v12 + 1) x)
theorem t_Hb_storm_149 {g : GC} {X : MX} (C : Cx g X c_Hb_storm 13 n_Hb 4) {r : Int64 × XD} {z : ZD} (q : RtL g X (some .long) r.1 (r.2, z)) (v3 : Int32) (v4 : Int32) (v5 : Int32) (v6 : Int64) : ∀ (n : Nat) (v8 : Int64) (v12 : Int32) (x : XD) (h : b_Hb_storm_149 v3 v4 v5 v6 n v8 v12 x = some r), Wk g X 13 149 [(3, .int v3), (4, .int v4), (5, .int v5), (6, .long v6), (8, .long v8), (12, .int v12)] [] (x, z) := by
  intro n
  induction n with
  | zero =>
    intro v8 v12 x h
    rw [b_Hb_storm_149] at h
    cases h
  | succ n ih =>
    intro v8 v12 x h
    rw [b_Hb_storm_149] at h
    refine k_iload C d_Hb_storm_149 5 rfl ?_
    refine k_iload_n C d_Hb_storm_151 0 rfl ?_
    refine k_icmp_ge C 169 d_Hb_storm_152 (by decide) (fun c1 => ?_) (fun c1 => ?_)
    · have h := (if_pos c1).symm.trans h
      refine k_lload C d_Hb_storm_169 3 rfl ?_
      refine k_lload C d_Hb_storm_171 4 rfl ?_
      refine k_iload C d_Hb_storm_173 2 rfl ?_
      obtain ⟨p2, ep2, h⟩ := bd_some h
      refine k_callSl C q_Hb_232 (fun l => m_Hb_partOf (cx_g C) l v6 v8 v5 x z p2 ep2) rfl rfl (rtL_c q) rfl rfl rfl d_Hb_storm_175 ?_
      obtain rfl := Option.some.inj h
      exact k_lret C q d_Hb_storm_178
    · have h := (if_neg c1).symm.trans h
      refine k_lload C d_Hb_storm_155 4 rfl ?_
      refine k_iload C d_Hb_storm_157 1 rfl ?_
      refine k_i2l C d_Hb_storm_159 ?_
      refine k_lmul C d_Hb_storm_160 ?_
      refine k_lstore C (lv' := [(8, .long (v8 * v4.toInt64)), (3, .int v3), (4, .int v4), (5, .int v5), (6, .long v6), (12, .int v12)]) d_Hb_storm_161 rfl rfl ?_
      refine k_inc C (lv' := [(12, .int (v12 + 1)), (8, .long (v8 * v4.toInt64)), (3, .int v3), (4, .int v4), (5, .int v5), (6, .long v6)]) d_Hb_storm_163 5 rfl ic_1 rfl rfl ?_
      refine k_goto C 149 d_Hb_storm_166 (by decide) ?_
      exact k_sub [2, 3, 4, 5, 1, 0] rfl (ih (v8 * v4.toInt64) (v12 + 1) x h)

def b_Hb_storm_103 (K79 : Int64 → Int64 → Int32 → XD → Option (Int64 × XD)) (v2 : Int32) (v3 : Int32) (v4 : Int32) (v5 : Int32) (v6 : Int64) (v8 : Int64) (v10 : Int64) (v12 : Int32) (x : XD) : Option (Int64 × XD) := if (v12 + 1).toInt64 = 0 then none else lt (((v10 * ((v3 - v12).toInt64)) * ((v4 - 1).toInt64)) / ((v12 + 1).toInt64)) fun (y2 : Int64) => (f_St_stay 64 1 (x 10 3) x).bind fun p3 => (K79 v6 y2 (v12 + 1) p3.2)
theorem t_Hb_storm_103 {g : GC} {X : MX} (C : Cx g X c_Hb_storm 13 n_Hb 4) {r : Int64 × XD} {z : ZD} (q : RtL g X (some .long) r.1 (r.2, z)) (v2 : Int32) (v3 : Int32) (v4 : Int32) (v5 : Int32) (v6 : Int64) (v8 : Int64) (v10 : Int64) (v12 : Int32) (K79 : Int64 → Int64 → Int32 → XD → Option (Int64 × XD)) (hK79 : ∀ (v6 : Int64) (v10 : Int64) (v12 : Int32) (x : XD), K79 v6 v10 v12 x = some r → Wk g X 13 79 [(0, .ref (g_a g 0)), (2, .int v2), (3, .int v3), (4, .int v4), (5, .int v5), (6, .long v6), (8, .long v8), (10, .long v10), (12, .int v12)] [] (x, z)) (x : XD) (h : b_Hb_storm_103 K79 v2 v3 v4 v5 v6 v8 v10 v12 x = some r) : Wk g X 13 103 [(0, .ref (g_a g 0)), (2, .int v2), (3, .int v3), (4, .int v4), (5, .int v5), (6, .long v6), (8, .long v8), (10, .long v10), (12, .int v12)] [] (x, z) := by
  unfold b_Hb_storm_103 at h
  refine k_lload C d_Hb_storm_103 7 rfl ?_
  refine k_iload_n C d_Hb_storm_105 2 rfl ?_
  refine k_iload C d_Hb_storm_106 8 rfl ?_
  refine k_isub C d_Hb_storm_108 ?_
  refine k_i2l C d_Hb_storm_109 ?_
  refine k_lmul C d_Hb_storm_110 ?_
  refine k_iload C d_Hb_storm_111 3 rfl ?_
  refine k_iconst C 1 d_Hb_storm_113 ic_1 ?_
  refine k_isub C d_Hb_storm_114 ?_
  refine k_i2l C d_Hb_storm_115 ?_
  refine k_lmul C d_Hb_storm_116 ?_
  refine k_iload C d_Hb_storm_117 8 rfl ?_
  refine k_iconst C 1 d_Hb_storm_119 ic_1 ?_
  refine k_iadd C d_Hb_storm_120 ?_
  refine k_i2l C d_Hb_storm_121 ?_
  by_cases c1 : (v12 + 1).toInt64 = 0
  · rw [if_pos c1] at h; cases h
  have h := (if_neg c1).symm.trans h
  refine k_ldiv C c1 d_Hb_storm_122 ?_
  obtain ⟨y2, ey2, h⟩ := lt_some h
  refine k_nmJ ey2 ?_
  refine k_lstore C (lv' := [(10, .long y2), (0, .ref (g_a g 0)), (2, .int v2), (3, .int v3), (4, .int v4), (5, .int v5), (6, .long v6), (8, .long v8), (12, .int v12)]) d_Hb_storm_123 rfl rfl ?_
  refine k_aload_n C d_Hb_storm_125 1 rfl ?_
  refine kg_Hb_58 C d_Hb_storm_126 ?_
  refine k_iconst C 1 d_Hb_storm_129 ic_1 ?_
  refine k_aload_n C d_Hb_storm_130 1 rfl ?_
  refine kg_Hb_42 C d_Hb_storm_131 ?_
  refine kg_Hb_131 C (by decide) d_Hb_storm_134 ?_
  obtain ⟨p3, ep3, h⟩ := bd_some h
  refine k_callVv C q_Hb_186 (fun l => m_St_stay (cx_g C) l 64 (by decide) 1 (x 10 3) x z p3 ep3) rfl rfl (rtL_c q) (by decide) (sh_St (by decide)) rfl rfl rfl rfl d_Hb_storm_137 ?_
  refine k_inc C (lv' := [(12, .int (v12 + 1)), (10, .long y2), (0, .ref (g_a g 0)), (2, .int v2), (3, .int v3), (4, .int v4), (5, .int v5), (6, .long v6), (8, .long v8)]) d_Hb_storm_140 8 rfl ic_1 rfl rfl ?_
  refine k_goto C 79 d_Hb_storm_143 (by decide) ?_
  exact k_sub [2, 3, 4, 5, 6, 7, 8, 1, 0] rfl (hK79 v6 y2 (v12 + 1) p3.2 h)

def b_Hb_storm_79 (v2 : Int32) (v3 : Int32) (v4 : Int32) (v5 : Int32) (v8 : Int64) : Nat → Int64 → Int64 → Int32 → XD → Option (Int64 × XD)
  | 0, _, _, _, _ => none
  | n + 1, v6, v10, v12, x => (if v3 < v12 then b_Hb_storm_149 v3 v4 v5 v6 fu v8 0 x else (f_St_pace 64 x).bind fun p2 => ((if p2.1 < v2 then b_Hb_storm_103 (b_Hb_storm_79 v2 v3 v4 v5 v8 n) v2 v3 v4 v5 v6 v8 v10 v12 p2.2 else b_Hb_storm_103 (b_Hb_storm_79 v2 v3 v4 v5 v8 n) v2 v3 v4 v5 (v6 + v10) v8 v10 v12 p2.2)))
theorem t_Hb_storm_79 {g : GC} {X : MX} (C : Cx g X c_Hb_storm 13 n_Hb 4) {r : Int64 × XD} {z : ZD} (q : RtL g X (some .long) r.1 (r.2, z)) (v2 : Int32) (v3 : Int32) (v4 : Int32) (v5 : Int32) (v8 : Int64) : ∀ (n : Nat) (v6 : Int64) (v10 : Int64) (v12 : Int32) (x : XD) (h : b_Hb_storm_79 v2 v3 v4 v5 v8 n v6 v10 v12 x = some r), Wk g X 13 79 [(0, .ref (g_a g 0)), (2, .int v2), (3, .int v3), (4, .int v4), (5, .int v5), (6, .long v6), (8, .long v8), (10, .long v10), (12, .int v12)] [] (x, z) := by
  intro n
  induction n with
  | zero =>
    intro v6 v10 v12 x h
    rw [b_Hb_storm_79] at h
    cases h
  | succ n ih =>
    intro v6 v10 v12 x h
    rw [b_Hb_storm_79] at h
    refine k_iload C d_Hb_storm_79 8 rfl ?_
    refine k_iload_n C d_Hb_storm_81 2 rfl ?_
    refine k_icmp_gt C 146 d_Hb_storm_82 (by decide) (fun c1 => ?_) (fun c1 => ?_)
    · have h := (if_pos c1).symm.trans h
      refine k_iconst C 0 d_Hb_storm_146 ic_0 ?_
      refine k_istore C (lv' := [(12, .int 0), (0, .ref (g_a g 0)), (2, .int v2), (3, .int v3), (4, .int v4), (5, .int v5), (6, .long v6), (8, .long v8), (10, .long v10)]) d_Hb_storm_147 rfl rfl ?_
      exact k_sub [3, 4, 5, 6, 7, 0] rfl (t_Hb_storm_149 C q v3 v4 v5 v6 fu v8 0 x h)
    · have h := (if_neg c1).symm.trans h
      refine k_aload_n C d_Hb_storm_85 0 rfl ?_
      refine kg_Hb_58 C d_Hb_storm_86 ?_
      obtain ⟨p2, ep2, h⟩ := bd_some h
      refine k_callVi C q_Hb_137 (fun l => m_St_pace (cx_g C) l 64 (by decide) x z p2 ep2) rfl rfl (rtL_c q) (by decide) (sh_St (by decide)) rfl rfl rfl rfl d_Hb_storm_89 ?_
      refine k_iload_n C d_Hb_storm_92 1 rfl ?_
      refine k_icmp_lt C 103 d_Hb_storm_93 (by decide) (fun c3 => ?_) (fun c3 => ?_)
      · have h := (if_pos c3).symm.trans h
        exact k_sub [0, 1, 2, 3, 4, 5, 6, 7, 8] rfl (t_Hb_storm_103 C q v2 v3 v4 v5 v6 v8 v10 v12 (b_Hb_storm_79 v2 v3 v4 v5 v8 n) ih p2.2 h)
      · have h := (if_neg c3).symm.trans h
        refine k_lload C d_Hb_storm_96 5 rfl ?_
        refine k_lload C d_Hb_storm_98 7 rfl ?_
        refine k_ladd C d_Hb_storm_100 ?_
        refine k_lstore C (lv' := [(6, .long (v6 + v10)), (0, .ref (g_a g 0)), (2, .int v2), (3, .int v3), (4, .int v4), (5, .int v5), (8, .long v8), (10, .long v10), (12, .int v12)]) d_Hb_storm_101 rfl rfl ?_
        exact k_sub [1, 2, 3, 4, 5, 0, 6, 7, 8] rfl (t_Hb_storm_103 C q v2 v3 v4 v5 (v6 + v10) v8 v10 v12 (b_Hb_storm_79 v2 v3 v4 v5 v8 n) ih p2.2 h)

def f_Hb_storm (v1 : Int32) (v2 : Int32) (v3 : Int32) (v4 : Int32) (v5 : Int32) (x : XD) : Option (Int64 × XD) := (f_Hb_isHorse v1 x).bind fun p1 => ((if p1.1 = 0 then some (1000000001, p1.2) else (f_Hb_isWithin v2 1 60 p1.2).bind fun p3 => ((if p3.1 = 0 then some (1000000001, p3.2) else (f_Hb_isWithin v3 0 7 p3.2).bind fun p5 => ((if p5.1 = 0 then some (1000000001, p5.2) else (f_Hb_isWithin v4 2 20 p5.2).bind fun p7 => ((if p7.1 = 0 then some (1000000001, p7.2) else (f_Hb_isEither v5 p7.2).bind fun p9 => ((if p9.1 = 0 then some (1000000001, p9.2) else gI v1 7 ((f_St_become 64 (sid 10 v1) p9.2).bind fun p12 => (b_Hb_storm_79 v2 v3 v4 v5 1 fu 0 1 0 p12.2))))))))))))
theorem m_Hb_storm {g : GC} (hg : gOk g) (l : Launch)  (v1 : Int32) (v2 : Int32) (v3 : Int32) (v4 : Int32) (v5 : Int32) (x : XD) (z : ZD) (r : Int64 × XD) (h : f_Hb_storm v1 v2 v3 v4 v5 x = some r) : Ml g l y_Hb_storm c_Hb_storm 13 (some .long) 4 [.ref (g_a g 0), .int v1, .int v2, .int v3, .int v4, .int v5] (x, z) r.1 (r.2, z) := by
  refine m_l hg pn_Hb rfl fun X q C => ?_
  refine k_sub (lv' := [(0, .ref (g_a g 0)), (1, .int v1), (2, .int v2), (3, .int v3), (4, .int v4), (5, .int v5)]) [0, 1, 2, 3, 4, 5] rfl ?_
  unfold f_Hb_storm at h
  refine k_aload_n C d_Hb_storm_0 0 rfl ?_
  refine k_iload_n C d_Hb_storm_1 1 rfl ?_
  obtain ⟨p1, ep1, h⟩ := bd_some h
  refine k_callVi C q_Hb_103 (fun l => m_Hb_isHorse (cx_g C) l v1 x z p1 ep1) rfl rfl (rtL_c q) (by decide) sh_Hb rfl rfl rfl rfl d_Hb_storm_2 ?_
  refine k_if_eq C 47 d_Hb_storm_5 (by decide) (fun c2 => ?_) (fun c2 => ?_)
  · have h := (if_pos c2).symm.trans h
    refine k_ldc2 C 1000000001 l_720 d_Hb_storm_47 ?_
    obtain rfl := Option.some.inj h
    exact k_lret C q d_Hb_storm_50
  · have h := (if_neg c2).symm.trans h
    refine k_iload_n C d_Hb_storm_8 2 rfl ?_
    refine k_iconst C 1 d_Hb_storm_9 ic_1 ?_
    refine k_bipush C 60 d_Hb_storm_10 bp_60 ?_
    obtain ⟨p3, ep3, h⟩ := bd_some h
    refine k_callSi C q_Hb_169 (fun l => m_Hb_isWithin (cx_g C) l v2 1 60 p1.2 z p3 ep3) rfl rfl (rtL_c q) rfl rfl rfl d_Hb_storm_12 ?_
    refine k_if_eq C 47 d_Hb_storm_15 (by decide) (fun c4 => ?_) (fun c4 => ?_)
    · have h := (if_pos c4).symm.trans h
      refine k_ldc2 C 1000000001 l_720 d_Hb_storm_47 ?_
      obtain rfl := Option.some.inj h
      exact k_lret C q d_Hb_storm_50
    · have h := (if_neg c4).symm.trans h
      refine k_iload_n C d_Hb_storm_18 3 rfl ?_
      refine k_iconst C 0 d_Hb_storm_19 ic_0 ?_
      refine k_bipush C 7 d_Hb_storm_20 bp_7 ?_
      obtain ⟨p5, ep5, h⟩ := bd_some h
      refine k_callSi C q_Hb_169 (fun l => m_Hb_isWithin (cx_g C) l v3 0 7 p3.2 z p5 ep5) rfl rfl (rtL_c q) rfl rfl rfl d_Hb_storm_22 ?_
      refine k_if_eq C 47 d_Hb_storm_25 (by decide) (fun c6 => ?_) (fun c6 => ?_)
      · have h := (if_pos c6).symm.trans h
        refine k_ldc2 C 1000000001 l_720 d_Hb_storm_47 ?_
        obtain rfl := Option.some.inj h
        exact k_lret C q d_Hb_storm_50
      · have h := (if_neg c6).symm.trans h
        refine k_iload C d_Hb_storm_28 4 rfl ?_
        refine k_iconst C 2 d_Hb_storm_30 ic_2 ?_
        refine k_bipush C 20 d_Hb_storm_31 bp_20 ?_
        obtain ⟨p7, ep7, h⟩ := bd_some h
        refine k_callSi C q_Hb_169 (fun l => m_Hb_isWithin (cx_g C) l v4 2 20 p5.2 z p7 ep7) rfl rfl (rtL_c q) rfl rfl rfl d_Hb_storm_33 ?_
        refine k_if_eq C 47 d_Hb_storm_36 (by decide) (fun c8 => ?_) (fun c8 => ?_)
        · have h := (if_pos c8).symm.trans h
          refine k_ldc2 C 1000000001 l_720 d_Hb_storm_47 ?_
          obtain rfl := Option.some.inj h
          exact k_lret C q d_Hb_storm_50
        · have h := (if_neg c8).symm.trans h
          refine k_iload C d_Hb_storm_39 5 rfl ?_
          obtain ⟨p9, ep9, h⟩ := bd_some h
          refine k_callSi C q_Hb_180 (fun l => m_Hb_isEither (cx_g C) l v5 p7.2 z p9 ep9) rfl rfl (rtL_c q) rfl rfl rfl d_Hb_storm_41 ?_
          refine k_if_ne C 51 d_Hb_storm_44 (by decide) (fun c10 => ?_) (fun c10 => ?_)
          · have h := (if_neg c10).symm.trans h
            refine k_lconst C 0 d_Hb_storm_51 rfl ?_
            refine k_lstore C (lv' := [(6, .long 0), (0, .ref (g_a g 0)), (1, .int v1), (2, .int v2), (3, .int v3), (4, .int v4), (5, .int v5)]) d_Hb_storm_52 rfl rfl ?_
            refine k_lconst C 1 d_Hb_storm_54 rfl ?_
            refine k_lstore C (lv' := [(8, .long 1), (6, .long 0), (0, .ref (g_a g 0)), (1, .int v1), (2, .int v2), (3, .int v3), (4, .int v4), (5, .int v5)]) d_Hb_storm_55 rfl rfl ?_
            refine k_lconst C 1 d_Hb_storm_57 rfl ?_
            refine k_lstore C (lv' := [(10, .long 1), (8, .long 1), (6, .long 0), (0, .ref (g_a g 0)), (1, .int v1), (2, .int v2), (3, .int v3), (4, .int v4), (5, .int v5)]) d_Hb_storm_58 rfl rfl ?_
            refine k_aload_n C d_Hb_storm_60 3 rfl ?_
            refine kg_Hb_58 C d_Hb_storm_61 ?_
            refine k_aload_n C d_Hb_storm_64 3 rfl ?_
            refine kg_Hb_42 C d_Hb_storm_65 ?_
            refine kg_Hb_107 C (by decide) d_Hb_storm_68 ?_
            refine k_iload_n C d_Hb_storm_71 4 rfl ?_
            obtain ⟨i11, h⟩ := gI_some h
            refine k_aald_St C (by decide) i11 d_Hb_storm_72 ?_
            obtain ⟨p12, ep12, h⟩ := bd_some h
            refine k_callVv C q_Hb_183 (fun l => m_St_become (cx_g C) l 64 (by decide) (sid 10 v1) (sid_ok (by decide) i11) p9.2 z p12 ep12) rfl rfl (rtL_c q) (by decide) (sh_St (by decide)) rfl rfl rfl rfl d_Hb_storm_73 ?_
            refine k_iconst C 0 d_Hb_storm_76 ic_0 ?_
            refine k_istore C (lv' := [(12, .int 0), (10, .long 1), (8, .long 1), (6, .long 0), (0, .ref (g_a g 0)), (1, .int v1), (2, .int v2), (3, .int v3), (4, .int v4), (5, .int v5)]) d_Hb_storm_77 rfl rfl ?_
            exact k_sub [4, 6, 7, 8, 9, 3, 2, 1, 0] rfl (t_Hb_storm_79 C q v2 v3 v4 v5 1 fu 0 1 0 p12.2 h)
          · have h := (if_pos c10).symm.trans h
            refine k_ldc2 C 1000000001 l_720 d_Hb_storm_47 ?_
            obtain rfl := Option.some.inj h
            exact k_lret C q d_Hb_storm_50

def b_Hb_walkAhead_125 (K46 : Int32 → Int32 → Int32 → XD → Option (Int32 × XD)) (v1 : Int32) (v2 : Int32) (v3 : Int32) (v4 : Int32) (v5 : Int32) (v6 : Int32) (v7 : Int32) (x : XD) : Option (Int32 × XD) := K46 v5 v6 (v7 + 1) x
theorem t_Hb_walkAhead_125 {g : GC} {X : MX} (C : Cx g X c_Hb_walkAhead 9 n_Hb 4) {r : Int32 × XD} {z : ZD} (q : RtI g X (some .int) r.1 (r.2, z)) (v1 : Int32) (v2 : Int32) (v3 : Int32) (v4 : Int32) (v5 : Int32) (v6 : Int32) (v7 : Int32) (K46 : Int32 → Int32 → Int32 → XD → Option (Int32 × XD)) (hK46 : ∀ (v5 : Int32) (v6 : Int32) (v7 : Int32) (x : XD), K46 v5 v6 v7 x = some r → Wk g X 9 46 [(0, .ref (g_a g 0)), (1, .int v1), (2, .int v2), (3, .int v3), (4, .int v4), (5, .int v5), (6, .int v6), (7, .int v7)] [] (x, z)) (x : XD) (h : b_Hb_walkAhead_125 K46 v1 v2 v3 v4 v5 v6 v7 x = some r) : Wk g X 9 125 [(0, .ref (g_a g 0)), (1, .int v1), (2, .int v2), (3, .int v3), (4, .int v4), (5, .int v5), (6, .int v6), (7, .int v7)] [] (x, z) := by
  unfold b_Hb_walkAhead_125 at h
  refine k_inc C (lv' := [(7, .int (v7 + 1)), (0, .ref (g_a g 0)), (1, .int v1), (2, .int v2), (3, .int v3), (4, .int v4), (5, .int v5), (6, .int v6)]) d_Hb_walkAhead_125 7 rfl ic_1 rfl rfl ?_
  refine k_goto C 46 d_Hb_walkAhead_128 (by decide) ?_
  exact k_sub [1, 2, 3, 4, 5, 6, 7, 0] rfl (hK46 v5 v6 (v7 + 1) x h)

def b_Hb_walkAhead_46 (v1 : Int32) (v2 : Int32) (v3 : Int32) (v4 : Int32) : Nat → Int32 → Int32 → Int32 → XD → Option (Int32 × XD)
  | 0, _, _, _, _ => none
  | n + 1, v5, v6, v7, x => (if 21 ≤ v7 then (if v4 = 0 then some (v5, x) else some (v6, x)) else gI v1 7 ((f_St_become 64 (sid 10 v1) x).bind fun p4 => (lt (x_up p4.2 64 3 v7) fun (x5 : XD) => (f_St_stay 64 v3 (x5 10 3) x5).bind fun p6 => ((f_St_ride 64 v2 (p6.2 10 3) p6.2).bind fun p7 => ((if v6 ≤ p7.1 then b_Hb_walkAhead_125 (b_Hb_walkAhead_46 v1 v2 v3 v4 n) v1 v2 v3 v4 v5 v6 v7 p7.2 else b_Hb_walkAhead_125 (b_Hb_walkAhead_46 v1 v2 v3 v4 n) v1 v2 v3 v4 v7 p7.1 v7 p7.2))))))
theorem t_Hb_walkAhead_46 {g : GC} {X : MX} (C : Cx g X c_Hb_walkAhead 9 n_Hb 4) {r : Int32 × XD} {z : ZD} (q : RtI g X (some .int) r.1 (r.2, z)) (v1 : Int32) (v2 : Int32) (v3 : Int32) (v4 : Int32) : ∀ (n : Nat) (v5 : Int32) (v6 : Int32) (v7 : Int32) (x : XD) (h : b_Hb_walkAhead_46 v1 v2 v3 v4 n v5 v6 v7 x = some r), Wk g X 9 46 [(0, .ref (g_a g 0)), (1, .int v1), (2, .int v2), (3, .int v3), (4, .int v4), (5, .int v5), (6, .int v6), (7, .int v7)] [] (x, z) := by
  intro n
  induction n with
  | zero =>
    intro v5 v6 v7 x h
    rw [b_Hb_walkAhead_46] at h
    cases h
  | succ n ih =>
    intro v5 v6 v7 x h
    rw [b_Hb_walkAhead_46] at h
    refine k_iload C d_Hb_walkAhead_46 7 rfl ?_
    refine k_bipush C 21 d_Hb_walkAhead_48 bp_21 ?_
    refine k_icmp_ge C 131 d_Hb_walkAhead_50 (by decide) (fun c1 => ?_) (fun c1 => ?_)
    · have h := (if_pos c1).symm.trans h
      refine k_iload C d_Hb_walkAhead_131 4 rfl ?_
      refine k_if_ne C 141 d_Hb_walkAhead_133 (by decide) (fun c2 => ?_) (fun c2 => ?_)
      · have h := (if_neg c2).symm.trans h
        refine k_iload C d_Hb_walkAhead_141 6 rfl ?_
        obtain rfl := Option.some.inj h
        exact k_iret C q d_Hb_walkAhead_143
      · have h := (if_pos c2).symm.trans h
        refine k_iload C d_Hb_walkAhead_136 5 rfl ?_
        refine k_goto C 143 d_Hb_walkAhead_138 (by decide) ?_
        obtain rfl := Option.some.inj h
        exact k_iret C q d_Hb_walkAhead_143
    · have h := (if_neg c1).symm.trans h
      refine k_aload_n C d_Hb_walkAhead_53 0 rfl ?_
      refine kg_Hb_58 C d_Hb_walkAhead_54 ?_
      refine k_aload_n C d_Hb_walkAhead_57 0 rfl ?_
      refine kg_Hb_42 C d_Hb_walkAhead_58 ?_
      refine kg_Hb_107 C (by decide) d_Hb_walkAhead_61 ?_
      refine k_iload_n C d_Hb_walkAhead_64 1 rfl ?_
      obtain ⟨i3, h⟩ := gI_some h
      refine k_aald_St C (by decide) i3 d_Hb_walkAhead_65 ?_
      obtain ⟨p4, ep4, h⟩ := bd_some h
      refine k_callVv C q_Hb_183 (fun l => m_St_become (cx_g C) l 64 (by decide) (sid 10 v1) (sid_ok (by decide) i3) x z p4 ep4) rfl rfl (rtI_c q) (by decide) (sh_St (by decide)) rfl rfl rfl rfl d_Hb_walkAhead_66 ?_
      refine k_aload_n C d_Hb_walkAhead_69 0 rfl ?_
      refine kg_Hb_58 C d_Hb_walkAhead_70 ?_
      refine k_iload C d_Hb_walkAhead_73 7 rfl ?_
      obtain ⟨x5, ex5, h⟩ := lt_some h
      refine kp_Hb_125 C (by decide) ex5 d_Hb_walkAhead_75 ?_
      refine k_aload_n C d_Hb_walkAhead_78 0 rfl ?_
      refine kg_Hb_58 C d_Hb_walkAhead_79 ?_
      refine k_iload_n C d_Hb_walkAhead_82 3 rfl ?_
      refine k_aload_n C d_Hb_walkAhead_83 0 rfl ?_
      refine kg_Hb_42 C d_Hb_walkAhead_84 ?_
      refine kg_Hb_131 C (by decide) d_Hb_walkAhead_87 ?_
      obtain ⟨p6, ep6, h⟩ := bd_some h
      refine k_callVv C q_Hb_186 (fun l => m_St_stay (cx_g C) l 64 (by decide) v3 (x5 10 3) x5 z p6 ep6) rfl rfl (rtI_c q) (by decide) (sh_St (by decide)) rfl rfl rfl rfl d_Hb_walkAhead_90 ?_
      refine k_aload_n C d_Hb_walkAhead_93 0 rfl ?_
      refine kg_Hb_58 C d_Hb_walkAhead_94 ?_
      refine k_iload_n C d_Hb_walkAhead_97 2 rfl ?_
      refine k_aload_n C d_Hb_walkAhead_98 0 rfl ?_
      refine kg_Hb_42 C d_Hb_walkAhead_99 ?_
      refine kg_Hb_131 C (by decide) d_Hb_walkAhead_102 ?_
      obtain ⟨p7, ep7, h⟩ := bd_some h
      refine k_callVi C q_Hb_197 (fun l => m_St_ride (cx_g C) l 64 (by decide) v2 (p6.2 10 3) p6.2 z p7 ep7) rfl rfl (rtI_c q) (by decide) (sh_St (by decide)) rfl rfl rfl rfl d_Hb_walkAhead_105 ?_
      refine k_istore C (lv' := [(8, .int p7.1), (0, .ref (g_a g 0)), (1, .int v1), (2, .int v2), (3, .int v3), (4, .int v4), (5, .int v5), (6, .int v6), (7, .int v7)]) d_Hb_walkAhead_108 rfl rfl ?_
      refine k_iload C d_Hb_walkAhead_110 0 rfl ?_
      refine k_iload C d_Hb_walkAhead_112 7 rfl ?_
      refine k_icmp_ge C 125 d_Hb_walkAhead_114 (by decide) (fun c8 => ?_) (fun c8 => ?_)
      · have h := (if_pos c8).symm.trans h
        exact k_sub [1, 2, 3, 4, 5, 6, 7, 8] rfl (t_Hb_walkAhead_125 C q v1 v2 v3 v4 v5 v6 v7 (b_Hb_walkAhead_46 v1 v2 v3 v4 n) ih p7.2 h)
      · have h := (if_neg c8).symm.trans h
        refine k_iload C d_Hb_walkAhead_117 0 rfl ?_
        refine k_istore C (lv' := [(6, .int p7.1), (8, .int p7.1), (0, .ref (g_a g 0)), (1, .int v1), (2, .int v2), (3, .int v3), (4, .int v4), (5, .int v5), (7, .int v7)]) d_Hb_walkAhead_119 rfl rfl ?_
        refine k_iload C d_Hb_walkAhead_121 8 rfl ?_
        refine k_istore C (lv' := [(5, .int v7), (6, .int p7.1), (8, .int p7.1), (0, .ref (g_a g 0)), (1, .int v1), (2, .int v2), (3, .int v3), (4, .int v4), (7, .int v7)]) d_Hb_walkAhead_123 rfl rfl ?_
        exact k_sub [3, 4, 5, 6, 7, 0, 1, 8] rfl (t_Hb_walkAhead_125 C q v1 v2 v3 v4 v7 p7.1 v7 (b_Hb_walkAhead_46 v1 v2 v3 v4 n) ih p7.2 h)

def f_Hb_walkAhead (v1 : Int32) (v2 : Int32) (v3 : Int32) (v4 : Int32) (x : XD) : Option (Int32 × XD) := (f_Hb_isHorse v1 x).bind fun p1 => ((if p1.1 = 0 then some ((-1), p1.2) else (f_Hb_isYard v2 p1.2).bind fun p3 => ((if p3.1 = 0 then some ((-1), p3.2) else (f_Hb_isWithin v3 0 30 p3.2).bind fun p5 => ((if p5.1 = 0 then some ((-1), p5.2) else (f_Hb_isEither v4 p5.2).bind fun p7 => ((if p7.1 = 0 then some ((-1), p7.2) else b_Hb_walkAhead_46 v1 v2 v3 v4 fu 0 1000 0 p7.2))))))))
theorem m_Hb_walkAhead {g : GC} (hg : gOk g) (l : Launch)  (v1 : Int32) (v2 : Int32) (v3 : Int32) (v4 : Int32) (x : XD) (z : ZD) (r : Int32 × XD) (h : f_Hb_walkAhead v1 v2 v3 v4 x = some r) : Mi g l y_Hb_walkAhead c_Hb_walkAhead 9 (some .int) 4 [.ref (g_a g 0), .int v1, .int v2, .int v3, .int v4] (x, z) r.1 (r.2, z) := by
  refine m_i hg pn_Hb rfl fun X q C => ?_
  refine k_sub (lv' := [(0, .ref (g_a g 0)), (1, .int v1), (2, .int v2), (3, .int v3), (4, .int v4)]) [0, 1, 2, 3, 4] rfl ?_
  unfold f_Hb_walkAhead at h
  refine k_aload_n C d_Hb_walkAhead_0 0 rfl ?_
  refine k_iload_n C d_Hb_walkAhead_1 1 rfl ?_
  obtain ⟨p1, ep1, h⟩ := bd_some h
  refine k_callVi C q_Hb_103 (fun l => m_Hb_isHorse (cx_g C) l v1 x z p1 ep1) rfl rfl (rtI_c q) (by decide) sh_Hb rfl rfl rfl rfl d_Hb_walkAhead_2 ?_
  refine k_if_eq C 33 d_Hb_walkAhead_5 (by decide) (fun c2 => ?_) (fun c2 => ?_)
  · have h := (if_pos c2).symm.trans h
    refine k_iconst C (-1) d_Hb_walkAhead_33 ic_m1 ?_
    obtain rfl := Option.some.inj h
    exact k_iret C q d_Hb_walkAhead_34
  · have h := (if_neg c2).symm.trans h
    refine k_iload_n C d_Hb_walkAhead_8 2 rfl ?_
    obtain ⟨p3, ep3, h⟩ := bd_some h
    refine k_callSi C q_Hb_143 (fun l => m_Hb_isYard (cx_g C) l v2 p1.2 z p3 ep3) rfl rfl (rtI_c q) rfl rfl rfl d_Hb_walkAhead_9 ?_
    refine k_if_eq C 33 d_Hb_walkAhead_12 (by decide) (fun c4 => ?_) (fun c4 => ?_)
    · have h := (if_pos c4).symm.trans h
      refine k_iconst C (-1) d_Hb_walkAhead_33 ic_m1 ?_
      obtain rfl := Option.some.inj h
      exact k_iret C q d_Hb_walkAhead_34
    · have h := (if_neg c4).symm.trans h
      refine k_iload_n C d_Hb_walkAhead_15 3 rfl ?_
      refine k_iconst C 0 d_Hb_walkAhead_16 ic_0 ?_
      refine k_bipush C 30 d_Hb_walkAhead_17 bp_30 ?_
      obtain ⟨p5, ep5, h⟩ := bd_some h
      refine k_callSi C q_Hb_169 (fun l => m_Hb_isWithin (cx_g C) l v3 0 30 p3.2 z p5 ep5) rfl rfl (rtI_c q) rfl rfl rfl d_Hb_walkAhead_19 ?_
      refine k_if_eq C 33 d_Hb_walkAhead_22 (by decide) (fun c6 => ?_) (fun c6 => ?_)
      · have h := (if_pos c6).symm.trans h
        refine k_iconst C (-1) d_Hb_walkAhead_33 ic_m1 ?_
        obtain rfl := Option.some.inj h
        exact k_iret C q d_Hb_walkAhead_34
      · have h := (if_neg c6).symm.trans h
        refine k_iload C d_Hb_walkAhead_25 4 rfl ?_
        obtain ⟨p7, ep7, h⟩ := bd_some h
        refine k_callSi C q_Hb_180 (fun l => m_Hb_isEither (cx_g C) l v4 p5.2 z p7 ep7) rfl rfl (rtI_c q) rfl rfl rfl d_Hb_walkAhead_27 ?_
        refine k_if_ne C 35 d_Hb_walkAhead_30 (by decide) (fun c8 => ?_) (fun c8 => ?_)
        · have h := (if_neg c8).symm.trans h
          refine k_iconst C 0 d_Hb_walkAhead_35 ic_0 ?_
          refine k_istore C (lv' := [(5, .int 0), (0, .ref (g_a g 0)), (1, .int v1), (2, .int v2), (3, .int v3), (4, .int v4)]) d_Hb_walkAhead_36 rfl rfl ?_
          refine k_sipush C 1000 d_Hb_walkAhead_38 sp_1000 ?_
          refine k_istore C (lv' := [(6, .int 1000), (5, .int 0), (0, .ref (g_a g 0)), (1, .int v1), (2, .int v2), (3, .int v3), (4, .int v4)]) d_Hb_walkAhead_41 rfl rfl ?_
          refine k_iconst C 0 d_Hb_walkAhead_43 ic_0 ?_
          refine k_istore C (lv' := [(7, .int 0), (6, .int 1000), (5, .int 0), (0, .ref (g_a g 0)), (1, .int v1), (2, .int v2), (3, .int v3), (4, .int v4)]) d_Hb_walkAhead_44 rfl rfl ?_
          exact k_sub [3, 4, 5, 6, 7, 2, 1, 0] rfl (t_Hb_walkAhead_46 C q v1 v2 v3 v4 fu 0 1000 0 p7.2 h)
        · have h := (if_pos c8).symm.trans h
          refine k_iconst C (-1) d_Hb_walkAhead_33 ic_m1 ?_
          obtain rfl := Option.some.inj h
          exact k_iret C q d_Hb_walkAhead_34

def f_Hb_count (v1 : Int32) (x : XD) : Option (Int32 × XD) := (if v1 = 0 then some (x 10 2, x) else (if v1 = 1 then some (x 10 3, x) else (if v1 = 2 then some (x 10 4, x) else (if v1 = 3 then (f_La_allLonging 10 x).bind fun p5 => (some (p5.1, p5.2)) else (if v1 = 4 then (f_La_allResting 10 x).bind fun p7 => (some (p7.1, p7.2)) else (if v1 = 5 then (f_La_allPace 10 x).bind fun p9 => (some (p9.1, p9.2)) else (some ((-1), x))))))))
theorem m_Hb_count {g : GC} (hg : gOk g) (l : Launch)  (v1 : Int32) (x : XD) (z : ZD) (r : Int32 × XD) (h : f_Hb_count v1 x = some r) : Mi g l y_Hb_count c_Hb_count 2 (some .int) 5 [.ref (g_a g 0), .int v1] (x, z) r.1 (r.2, z) := by
  refine m_i hg pn_Hb rfl fun X q C => ?_
  refine k_sub (lv' := [(0, .ref (g_a g 0)), (1, .int v1)]) [0, 1] rfl ?_
  unfold f_Hb_count at h
  refine k_iload_n C d_Hb_count_0 1 rfl ?_
  by_cases c1 : v1 = 0
  · have h := (if_pos c1).symm.trans h
    refine k_tabin C (39) 40 d_Hb_count_1 (by rw [c1]; decide) (by rw [c1]; decide) (by rw [c1]; decide) (by decide) ?_
    refine k_aload_n C d_Hb_count_40 0 rfl ?_
    refine kg_Hb_42 C d_Hb_count_41 ?_
    refine kg_Hb_149 C (by decide) d_Hb_count_44 ?_
    obtain rfl := Option.some.inj h
    exact k_iret C q d_Hb_count_47
  have h := (if_neg c1).symm.trans h
  by_cases c2 : v1 = 1
  · have h := (if_pos c2).symm.trans h
    refine k_tabin C (47) 48 d_Hb_count_1 (by rw [c2]; decide) (by rw [c2]; decide) (by rw [c2]; decide) (by decide) ?_
    refine k_aload_n C d_Hb_count_48 0 rfl ?_
    refine kg_Hb_42 C d_Hb_count_49 ?_
    refine kg_Hb_131 C (by decide) d_Hb_count_52 ?_
    obtain rfl := Option.some.inj h
    exact k_iret C q d_Hb_count_55
  have h := (if_neg c2).symm.trans h
  by_cases c3 : v1 = 2
  · have h := (if_pos c3).symm.trans h
    refine k_tabin C (55) 56 d_Hb_count_1 (by rw [c3]; decide) (by rw [c3]; decide) (by rw [c3]; decide) (by decide) ?_
    refine k_aload_n C d_Hb_count_56 0 rfl ?_
    refine kg_Hb_42 C d_Hb_count_57 ?_
    refine kg_Hb_249 C (by decide) d_Hb_count_60 ?_
    obtain rfl := Option.some.inj h
    exact k_iret C q d_Hb_count_63
  have h := (if_neg c3).symm.trans h
  by_cases c4 : v1 = 3
  · have h := (if_pos c4).symm.trans h
    refine k_tabin C (63) 64 d_Hb_count_1 (by rw [c4]; decide) (by rw [c4]; decide) (by rw [c4]; decide) (by decide) ?_
    refine k_aload_n C d_Hb_count_64 0 rfl ?_
    refine kg_Hb_42 C d_Hb_count_65 ?_
    obtain ⟨p5, ep5, h⟩ := bd_some h
    refine k_callVi C q_Hb_177 (fun l => m_La_allLonging (cx_g C) l 10 (by decide) x z p5 ep5) rfl rfl (rtI_c q) (by decide) (sh_La (by decide)) rfl rfl rfl rfl d_Hb_count_68 ?_
    obtain rfl := Option.some.inj h
    exact k_iret C q d_Hb_count_71
  have h := (if_neg c4).symm.trans h
  by_cases c6 : v1 = 4
  · have h := (if_pos c6).symm.trans h
    refine k_tabin C (71) 72 d_Hb_count_1 (by rw [c6]; decide) (by rw [c6]; decide) (by rw [c6]; decide) (by decide) ?_
    refine k_aload_n C d_Hb_count_72 0 rfl ?_
    refine kg_Hb_42 C d_Hb_count_73 ?_
    obtain ⟨p7, ep7, h⟩ := bd_some h
    refine k_callVi C q_Hb_246 (fun l => m_La_allResting (cx_g C) l 10 (by decide) x z p7 ep7) rfl rfl (rtI_c q) (by decide) (sh_La (by decide)) rfl rfl rfl rfl d_Hb_count_76 ?_
    obtain rfl := Option.some.inj h
    exact k_iret C q d_Hb_count_79
  have h := (if_neg c6).symm.trans h
  by_cases c8 : v1 = 5
  · have h := (if_pos c8).symm.trans h
    refine k_tabin C (79) 80 d_Hb_count_1 (by rw [c8]; decide) (by rw [c8]; decide) (by rw [c8]; decide) (by decide) ?_
    refine k_aload_n C d_Hb_count_80 0 rfl ?_
    refine kg_Hb_42 C d_Hb_count_81 ?_
    obtain ⟨p9, ep9, h⟩ := bd_some h
    refine k_callVi C q_Hb_252 (fun l => m_La_allPace (cx_g C) l 10 (by decide) x z p9 ep9) rfl rfl (rtI_c q) (by decide) (sh_La (by decide)) rfl rfl rfl rfl d_Hb_count_84 ?_
    obtain rfl := Option.some.inj h
    exact k_iret C q d_Hb_count_87
  have h := (if_neg c8).symm.trans h
  have ac1 : ¬ v1.toInt = 0 := nti c1
  have ac2 : ¬ v1.toInt = 1 := nti c2
  have ac3 : ¬ v1.toInt = 2 := nti c3
  have ac4 : ¬ v1.toInt = 3 := nti c4
  have ac6 : ¬ v1.toInt = 4 := nti c6
  have ac8 : ¬ v1.toInt = 5 := nti c8
  refine k_tabout C 88 d_Hb_count_1 (by omega) (by decide) ?_
  refine k_iconst C (-1) d_Hb_count_88 ic_m1 ?_
  obtain rfl := Option.some.inj h
  exact k_iret C q d_Hb_count_89

def f_Hb_feesOf (o1 : Nat) (v2 : Int32) (x : XD) : Option (Int32 × XD) := (v_price (x o1 0) (x o1 1) x).bind fun p1 => ((f_Hb_daysOfRide o1 v2 p1.2).bind fun p2 => (some (p1.1 * p2.1, p2.2)))
theorem m_Hb_feesOf {g : GC} (hg : gOk g) (l : Launch)  (o1 : Nat) (h_o1 : 22 ≤ o1 ∧ o1 < 65) (v2 : Int32) (x : XD) (z : ZD) (r : Int32 × XD) (h : f_Hb_feesOf o1 v2 x = some r) : Mi g l y_Hb_feesOf c_Hb_feesOf 3 (some .int) 5 [.ref (g_a g 0), .ref (g_a g o1), .int v2] (x, z) r.1 (r.2, z) := by
  refine m_i hg pn_Hb rfl fun X q C => ?_
  refine k_sub (lv' := [(0, .ref (g_a g 0)), (1, .ref (g_a g o1)), (2, .int v2)]) [0, 1, 2] rfl ?_
  unfold f_Hb_feesOf at h
  refine k_aload_n C d_Hb_feesOf_0 1 rfl ?_
  refine kg_Hb_111 C h_o1 d_Hb_feesOf_1 ?_
  refine k_aload_n C d_Hb_feesOf_4 1 rfl ?_
  refine kg_Hb_119 C h_o1 d_Hb_feesOf_5 ?_
  obtain ⟨p1, ep1, h⟩ := bd_some h
  refine kv_Hb_291 C ep1 rfl (rtI_c q) rfl d_Hb_feesOf_8 ?_
  refine k_aload_n C d_Hb_feesOf_11 0 rfl ?_
  refine k_aload_n C d_Hb_feesOf_12 1 rfl ?_
  refine k_iload_n C d_Hb_feesOf_13 2 rfl ?_
  obtain ⟨p2, ep2, h⟩ := bd_some h
  refine k_callVi C q_Hb_158 (fun l => m_Hb_daysOfRide (cx_g C) l o1 h_o1 v2 p1.2 z p2 ep2) rfl rfl (rtI_c q) (by decide) sh_Hb rfl rfl rfl rfl d_Hb_feesOf_14 ?_
  refine k_imul C d_Hb_feesOf_17 ?_
  obtain rfl := Option.some.inj h
  exact k_iret C q d_Hb_feesOf_18

def b_Hb_forged_128 (K54 : Int32 → Int32 → XD → Option (Int32 × XD)) (o3 : Nat) (v6 : Int32) (v7 : Int32) (v8 : Int32) (x : XD) : Option (Int32 × XD) := (f_La_ride 12 v7 v8 x).bind fun p1 => (K54 v8 (v6 + 2) p1.2)
theorem t_Hb_forged_128 {g : GC} {X : MX} (C : Cx g X c_Hb_forged 9 n_Hb 5) {r : Int32 × XD} {z : ZD} (q : RtI g X (some .int) r.1 (r.2, z)) (o3 : Nat) (h_o3 : 67 ≤ o3 ∧ o3 < 75) (v6 : Int32) (v7 : Int32) (v8 : Int32) (K54 : Int32 → Int32 → XD → Option (Int32 × XD)) (hK54 : ∀ (v5 : Int32) (v6 : Int32) (x : XD), K54 v5 v6 x = some r → Wk g X 9 54 [(0, .ref (g_a g 0)), (3, .ref (g_a g o3)), (4, .ref (g_a g 12)), (5, .int v5), (6, .int v6)] [] (x, z)) (x : XD) (h : b_Hb_forged_128 K54 o3 v6 v7 v8 x = some r) : Wk g X 9 128 [(0, .ref (g_a g 0)), (3, .ref (g_a g o3)), (4, .ref (g_a g 12)), (6, .int v6), (7, .int v7), (8, .int v8)] [] (x, z) := by
  unfold b_Hb_forged_128 at h
  refine k_aload C d_Hb_forged_128 2 rfl ?_
  refine k_iload C d_Hb_forged_130 4 rfl ?_
  refine k_iload C d_Hb_forged_132 5 rfl ?_
  obtain ⟨p1, ep1, h⟩ := bd_some h
  refine k_callVi C q_Hb_165 (fun l => m_La_ride (cx_g C) l 12 (by decide) v7 v8 x z p1 ep1) rfl rfl (rtI_c q) (by decide) (sh_La (by decide)) rfl rfl rfl rfl d_Hb_forged_134 ?_
  refine k_pop C d_Hb_forged_137 rfl ?_
  refine k_iload C d_Hb_forged_138 5 rfl ?_
  refine k_istore C (lv' := [(5, .int v8), (0, .ref (g_a g 0)), (3, .ref (g_a g o3)), (4, .ref (g_a g 12)), (6, .int v6), (7, .int v7), (8, .int v8)]) d_Hb_forged_140 rfl rfl ?_
  refine k_inc C (lv' := [(6, .int (v6 + 2)), (5, .int v8), (0, .ref (g_a g 0)), (3, .ref (g_a g o3)), (4, .ref (g_a g 12)), (7, .int v7), (8, .int v8)]) d_Hb_forged_142 4 rfl ic_2 rfl rfl ?_
  refine k_goto C 54 d_Hb_forged_145 (by decide) ?_
  exact k_sub [2, 3, 4, 1, 0] rfl (hK54 v8 (v6 + 2) p1.2 h)

def b_Hb_forged_54 (o3 : Nat) : Nat → Int32 → Int32 → XD → Option (Int32 × XD)
  | 0, _, _, _ => none
  | n + 1, v5, v6, x => (if x o3 4 ≤ v6 + 1 then some ((-4), x) else gI v6 100 (gI (v6 + 1) 100 ((f_Hb_isHorse (x (o3 + 8) v6.toNatClampNeg) x).bind fun p4 => ((if p4.1 = 0 then some (v6 / 2, p4.2) else (f_Hb_isYard (x (o3 + 8) (v6 + 1).toNatClampNeg) p4.2).bind fun p6 => ((if p6.1 = 0 then some (v6 / 2, p6.2) else (if v6 ≤ 0 then b_Hb_forged_128 (b_Hb_forged_54 o3 n) o3 v6 (x (o3 + 8) v6.toNatClampNeg) (x (o3 + 8) (v6 + 1).toNatClampNeg) p6.2 else gI (x (o3 + 8) v6.toNatClampNeg) 7 ((if p6.2 (sid 12 (x (o3 + 8) v6.toNatClampNeg)) 3 = v5 then b_Hb_forged_128 (b_Hb_forged_54 o3 n) o3 v6 (x (o3 + 8) v6.toNatClampNeg) (x (o3 + 8) (v6 + 1).toNatClampNeg) p6.2 else some (v6 / 2, p6.2)))))))))))
theorem t_Hb_forged_54 {g : GC} {X : MX} (C : Cx g X c_Hb_forged 9 n_Hb 5) {r : Int32 × XD} {z : ZD} (q : RtI g X (some .int) r.1 (r.2, z)) (o3 : Nat) (h_o3 : 67 ≤ o3 ∧ o3 < 75) : ∀ (n : Nat) (v5 : Int32) (v6 : Int32) (x : XD) (h : b_Hb_forged_54 o3 n v5 v6 x = some r), Wk g X 9 54 [(0, .ref (g_a g 0)), (3, .ref (g_a g o3)), (4, .ref (g_a g 12)), (5, .int v5), (6, .int v6)] [] (x, z) := by
  intro n
  induction n with
  | zero =>
    intro v5 v6 x h
    rw [b_Hb_forged_54] at h
    cases h
  | succ n ih =>
    intro v5 v6 x h
    rw [b_Hb_forged_54] at h
    refine k_iload C d_Hb_forged_54 4 rfl ?_
    refine k_iconst C 1 d_Hb_forged_56 ic_1 ?_
    refine k_iadd C d_Hb_forged_57 ?_
    refine k_aload_n C d_Hb_forged_58 1 rfl ?_
    refine kg_Hb_89 C h_o3 d_Hb_forged_59 ?_
    refine k_icmp_ge C 148 d_Hb_forged_62 (by decide) (fun c1 => ?_) (fun c1 => ?_)
    · have h := (if_pos c1).symm.trans h
      refine k_bipush C (-4) d_Hb_forged_148 bp_m4 ?_
      obtain rfl := Option.some.inj h
      exact k_iret C q d_Hb_forged_150
    · have h := (if_neg c1).symm.trans h
      refine k_aload_n C d_Hb_forged_65 1 rfl ?_
      refine kg_Hb_96 C h_o3 d_Hb_forged_66 ?_
      refine k_iload C d_Hb_forged_69 4 rfl ?_
      obtain ⟨i2, h⟩ := gI_some h
      refine k_ialdE C h_o3 i2 d_Hb_forged_71 ?_
      refine k_istore C (lv' := [(7, .int (x (o3 + 8) v6.toNatClampNeg)), (0, .ref (g_a g 0)), (3, .ref (g_a g o3)), (4, .ref (g_a g 12)), (5, .int v5), (6, .int v6)]) d_Hb_forged_72 rfl rfl ?_
      refine k_aload_n C d_Hb_forged_74 2 rfl ?_
      refine kg_Hb_96 C h_o3 d_Hb_forged_75 ?_
      refine k_iload C d_Hb_forged_78 5 rfl ?_
      refine k_iconst C 1 d_Hb_forged_80 ic_1 ?_
      refine k_iadd C d_Hb_forged_81 ?_
      obtain ⟨i3, h⟩ := gI_some h
      refine k_ialdE C h_o3 i3 d_Hb_forged_82 ?_
      refine k_istore C (lv' := [(8, .int (x (o3 + 8) (v6 + 1).toNatClampNeg)), (7, .int (x (o3 + 8) v6.toNatClampNeg)), (0, .ref (g_a g 0)), (3, .ref (g_a g o3)), (4, .ref (g_a g 12)), (5, .int v5), (6, .int v6)]) d_Hb_forged_83 rfl rfl ?_
      refine k_aload_n C d_Hb_forged_85 2 rfl ?_
      refine k_iload C d_Hb_forged_86 1 rfl ?_
      obtain ⟨p4, ep4, h⟩ := bd_some h
      refine k_callVi C q_Hb_103 (fun l => m_Hb_isHorse (cx_g C) l (x (o3 + 8) v6.toNatClampNeg) x z p4 ep4) rfl rfl (rtI_c q) (by decide) sh_Hb rfl rfl rfl rfl d_Hb_forged_88 ?_
      refine k_if_eq C 123 d_Hb_forged_91 (by decide) (fun c5 => ?_) (fun c5 => ?_)
      · have h := (if_pos c5).symm.trans h
        refine k_iload C d_Hb_forged_123 6 rfl ?_
        refine k_iconst C 2 d_Hb_forged_125 ic_2 ?_
        refine k_idiv C nz_2 d_Hb_forged_126 ?_
        obtain rfl := Option.some.inj h
        exact k_iret C q d_Hb_forged_127
      · have h := (if_neg c5).symm.trans h
        refine k_iload C d_Hb_forged_94 0 rfl ?_
        obtain ⟨p6, ep6, h⟩ := bd_some h
        refine k_callSi C q_Hb_143 (fun l => m_Hb_isYard (cx_g C) l (x (o3 + 8) (v6 + 1).toNatClampNeg) p4.2 z p6 ep6) rfl rfl (rtI_c q) rfl rfl rfl d_Hb_forged_96 ?_
        refine k_if_eq C 123 d_Hb_forged_99 (by decide) (fun c7 => ?_) (fun c7 => ?_)
        · have h := (if_pos c7).symm.trans h
          refine k_iload C d_Hb_forged_123 6 rfl ?_
          refine k_iconst C 2 d_Hb_forged_125 ic_2 ?_
          refine k_idiv C nz_2 d_Hb_forged_126 ?_
          obtain rfl := Option.some.inj h
          exact k_iret C q d_Hb_forged_127
        · have h := (if_neg c7).symm.trans h
          refine k_iload C d_Hb_forged_102 6 rfl ?_
          refine k_if_le C 128 d_Hb_forged_104 (by decide) (fun c8 => ?_) (fun c8 => ?_)
          · have h := (if_pos c8).symm.trans h
            exact k_sub [2, 3, 4, 6, 1, 0] rfl (t_Hb_forged_128 C q o3 h_o3 v6 (x (o3 + 8) v6.toNatClampNeg) (x (o3 + 8) (v6 + 1).toNatClampNeg) (b_Hb_forged_54 o3 n) ih p6.2 h)
          · have h := (if_neg c8).symm.trans h
            refine k_aload C d_Hb_forged_107 4 rfl ?_
            refine kg_Hb_107 C (by decide) d_Hb_forged_109 ?_
            refine k_iload C d_Hb_forged_112 1 rfl ?_
            obtain ⟨i9, h⟩ := gI_some h
            refine k_aald_St C (by decide) i9 d_Hb_forged_114 ?_
            refine kg_Hb_125 C (sid_ok (by decide) i9) d_Hb_forged_115 ?_
            refine k_iload C d_Hb_forged_118 5 rfl ?_
            refine k_icmp_eq C 128 d_Hb_forged_120 (by decide) (fun c10 => ?_) (fun c10 => ?_)
            · have h := (if_pos c10).symm.trans h
              exact k_sub [2, 3, 4, 6, 1, 0] rfl (t_Hb_forged_128 C q o3 h_o3 v6 (x (o3 + 8) v6.toNatClampNeg) (x (o3 + 8) (v6 + 1).toNatClampNeg) (b_Hb_forged_54 o3 n) ih p6.2 h)
            · have h := (if_neg c10).symm.trans h
              refine k_iload C d_Hb_forged_123 6 rfl ?_
              refine k_iconst C 2 d_Hb_forged_125 ic_2 ?_
              refine k_idiv C nz_2 d_Hb_forged_126 ?_
              obtain rfl := Option.some.inj h
              exact k_iret C q d_Hb_forged_127

def f_Hb_forged (v1 : Int32) (x : XD) : Option (Int32 × XD) := (f_Hb_refusalOfRow v1 x).bind fun p1 => ((if p1.1 = 0 then gI v1 8 ((if x_rem (p1.2 (hid v1) 4) 2 = 0 then (f_La_become 12 10 p1.2).bind fun p5 => (b_Hb_forged_54 (hid v1) fu (-1) 0 p5.2) else some ((-13), p1.2))) else some (p1.1, p1.2)))
theorem m_Hb_forged {g : GC} (hg : gOk g) (l : Launch)  (v1 : Int32) (x : XD) (z : ZD) (r : Int32 × XD) (h : f_Hb_forged v1 x = some r) : Mi g l y_Hb_forged c_Hb_forged 9 (some .int) 5 [.ref (g_a g 0), .int v1] (x, z) r.1 (r.2, z) := by
  refine m_i hg pn_Hb rfl fun X q C => ?_
  refine k_sub (lv' := [(0, .ref (g_a g 0)), (1, .int v1)]) [0, 1] rfl ?_
  unfold f_Hb_forged at h
  refine k_aload_n C d_Hb_forged_0 0 rfl ?_
  refine k_iload_n C d_Hb_forged_1 1 rfl ?_
  obtain ⟨p1, ep1, h⟩ := bd_some h
  refine k_callVi C q_Hb_73 (fun l => m_Hb_refusalOfRow (cx_g C) l v1 x z p1 ep1) rfl rfl (rtI_c q) (by decide) sh_Hb rfl rfl rfl rfl d_Hb_forged_2 ?_
  refine k_istore_n C (lv' := [(2, .int p1.1), (0, .ref (g_a g 0)), (1, .int v1)]) d_Hb_forged_5 rfl rfl ?_
  refine k_iload_n C d_Hb_forged_6 0 rfl ?_
  refine k_if_eq C 12 d_Hb_forged_7 (by decide) (fun c2 => ?_) (fun c2 => ?_)
  · have h := (if_pos c2).symm.trans h
    refine k_aload_n C d_Hb_forged_12 1 rfl ?_
    refine kg_Hb_64 C d_Hb_forged_13 ?_
    refine k_iload_n C d_Hb_forged_16 2 rfl ?_
    obtain ⟨i3, h⟩ := gI_some h
    refine k_aald_Sh C i3 d_Hb_forged_17 ?_
    refine k_astore_n C (lv' := [(3, .ref (g_a g (hid v1))), (2, .int p1.1), (0, .ref (g_a g 0)), (1, .int v1)]) d_Hb_forged_18 rfl rfl ?_
    refine k_aload_n C d_Hb_forged_19 0 rfl ?_
    refine kg_Hb_89 C (hid_ok i3) d_Hb_forged_20 ?_
    refine k_iconst C 2 d_Hb_forged_23 ic_2 ?_
    refine k_irem C nz_2 d_Hb_forged_24 ?_
    refine k_if_eq C 31 d_Hb_forged_25 (by decide) (fun c4 => ?_) (fun c4 => ?_)
    · have h := (if_pos c4).symm.trans h
      refine k_aload_n C d_Hb_forged_31 2 rfl ?_
      refine kg_Hb_49 C d_Hb_forged_32 ?_
      refine k_iconst C 0 d_Hb_forged_35 ic_0 ?_
      refine k_aald_L0 C d_Hb_forged_36 ?_
      refine k_astore C (lv' := [(4, .ref (g_a g 12)), (3, .ref (g_a g (hid v1))), (2, .int p1.1), (0, .ref (g_a g 0)), (1, .int v1)]) d_Hb_forged_37 rfl rfl ?_
      refine k_aload C d_Hb_forged_39 0 rfl ?_
      refine k_aload_n C d_Hb_forged_41 3 rfl ?_
      refine kg_Hb_42 C d_Hb_forged_42 ?_
      obtain ⟨p5, ep5, h⟩ := bd_some h
      refine k_callVv C q_Hb_85 (fun l => m_La_become (cx_g C) l 12 (by decide) 10 (by decide) p1.2 z p5 ep5) rfl rfl (rtI_c q) (by decide) (sh_La (by decide)) rfl rfl rfl rfl d_Hb_forged_45 ?_
      refine k_iconst C (-1) d_Hb_forged_48 ic_m1 ?_
      refine k_istore C (lv' := [(5, .int (-1)), (4, .ref (g_a g 12)), (3, .ref (g_a g (hid v1))), (2, .int p1.1), (0, .ref (g_a g 0)), (1, .int v1)]) d_Hb_forged_49 rfl rfl ?_
      refine k_iconst C 0 d_Hb_forged_51 ic_0 ?_
      refine k_istore C (lv' := [(6, .int 0), (5, .int (-1)), (4, .ref (g_a g 12)), (3, .ref (g_a g (hid v1))), (2, .int p1.1), (0, .ref (g_a g 0)), (1, .int v1)]) d_Hb_forged_52 rfl rfl ?_
      exact k_sub [5, 3, 2, 1, 0] rfl (t_Hb_forged_54 C q (hid v1) (hid_ok i3) fu (-1) 0 p5.2 h)
    · have h := (if_neg c4).symm.trans h
      refine k_bipush C (-13) d_Hb_forged_28 bp_m13 ?_
      obtain rfl := Option.some.inj h
      exact k_iret C q d_Hb_forged_30
  · have h := (if_neg c2).symm.trans h
    refine k_iload_n C d_Hb_forged_10 0 rfl ?_
    obtain rfl := Option.some.inj h
    exact k_iret C q d_Hb_forged_11

def f_Hb_howLong (v1 : Int32) (v2 : Int32) (x : XD) : Option (Int32 × XD) := (f_Hb_isHorse v1 x).bind fun p1 => ((if p1.1 = 0 then some ((-1), p1.2) else (f_Hb_isYard v2 p1.2).bind fun p3 => ((if p3.1 = 0 then some ((-1), p3.2) else gI v1 7 ((f_Hb_daysOfRide (sid 10 v1) v2 p3.2).bind fun p6 => (some (p6.1, p6.2)))))))
theorem m_Hb_howLong {g : GC} (hg : gOk g) (l : Launch)  (v1 : Int32) (v2 : Int32) (x : XD) (z : ZD) (r : Int32 × XD) (h : f_Hb_howLong v1 v2 x = some r) : Mi g l y_Hb_howLong c_Hb_howLong 3 (some .int) 5 [.ref (g_a g 0), .int v1, .int v2] (x, z) r.1 (r.2, z) := by
  refine m_i hg pn_Hb rfl fun X q C => ?_
  refine k_sub (lv' := [(0, .ref (g_a g 0)), (1, .int v1), (2, .int v2)]) [0, 1, 2] rfl ?_
  unfold f_Hb_howLong at h
  refine k_aload_n C d_Hb_howLong_0 0 rfl ?_
  refine k_iload_n C d_Hb_howLong_1 1 rfl ?_
  obtain ⟨p1, ep1, h⟩ := bd_some h
  refine k_callVi C q_Hb_103 (fun l => m_Hb_isHorse (cx_g C) l v1 x z p1 ep1) rfl rfl (rtI_c q) (by decide) sh_Hb rfl rfl rfl rfl d_Hb_howLong_2 ?_
  refine k_if_eq C 15 d_Hb_howLong_5 (by decide) (fun c2 => ?_) (fun c2 => ?_)
  · have h := (if_pos c2).symm.trans h
    refine k_iconst C (-1) d_Hb_howLong_15 ic_m1 ?_
    obtain rfl := Option.some.inj h
    exact k_iret C q d_Hb_howLong_16
  · have h := (if_neg c2).symm.trans h
    refine k_iload_n C d_Hb_howLong_8 2 rfl ?_
    obtain ⟨p3, ep3, h⟩ := bd_some h
    refine k_callSi C q_Hb_143 (fun l => m_Hb_isYard (cx_g C) l v2 p1.2 z p3 ep3) rfl rfl (rtI_c q) rfl rfl rfl d_Hb_howLong_9 ?_
    refine k_if_ne C 17 d_Hb_howLong_12 (by decide) (fun c4 => ?_) (fun c4 => ?_)
    · have h := (if_neg c4).symm.trans h
      refine k_aload_n C d_Hb_howLong_17 0 rfl ?_
      refine k_aload_n C d_Hb_howLong_18 0 rfl ?_
      refine kg_Hb_42 C d_Hb_howLong_19 ?_
      refine kg_Hb_107 C (by decide) d_Hb_howLong_22 ?_
      refine k_iload_n C d_Hb_howLong_25 1 rfl ?_
      obtain ⟨i5, h⟩ := gI_some h
      refine k_aald_St C (by decide) i5 d_Hb_howLong_26 ?_
      refine k_iload_n C d_Hb_howLong_27 2 rfl ?_
      obtain ⟨p6, ep6, h⟩ := bd_some h
      refine k_callVi C q_Hb_158 (fun l => m_Hb_daysOfRide (cx_g C) l (sid 10 v1) (sid_ok (by decide) i5) v2 p3.2 z p6 ep6) rfl rfl (rtI_c q) (by decide) sh_Hb rfl rfl rfl rfl d_Hb_howLong_28 ?_
      obtain rfl := Option.some.inj h
      exact k_iret C q d_Hb_howLong_31
    · have h := (if_pos c4).symm.trans h
      refine k_iconst C (-1) d_Hb_howLong_15 ic_m1 ?_
      obtain rfl := Option.some.inj h
      exact k_iret C q d_Hb_howLong_16

def b_Hb_hurry_70 (K27 : Int32 → Int32 → Int32 → XD → Option (Int32 × XD)) (v1 : Int32) (v2 : Int32) (v3 : Int32) (v4 : Int32) (v5 : Int32) (x : XD) : Option (Int32 × XD) := K27 v3 v4 (v5 + 1) x
theorem t_Hb_hurry_70 {g : GC} {X : MX} (C : Cx g X c_Hb_hurry 7 n_Hb 5) {r : Int32 × XD} {z : ZD} (q : RtI g X (some .int) r.1 (r.2, z)) (v1 : Int32) (v2 : Int32) (v3 : Int32) (v4 : Int32) (v5 : Int32) (K27 : Int32 → Int32 → Int32 → XD → Option (Int32 × XD)) (hK27 : ∀ (v3 : Int32) (v4 : Int32) (v5 : Int32) (x : XD), K27 v3 v4 v5 x = some r → Wk g X 7 27 [(0, .ref (g_a g 0)), (1, .int v1), (2, .int v2), (3, .int v3), (4, .int v4), (5, .int v5)] [] (x, z)) (x : XD) (h : b_Hb_hurry_70 K27 v1 v2 v3 v4 v5 x = some r) : Wk g X 7 70 [(0, .ref (g_a g 0)), (1, .int v1), (2, .int v2), (3, .int v3), (4, .int v4), (5, .int v5)] [] (x, z) := by
  unfold b_Hb_hurry_70 at h
  refine k_inc C (lv' := [(5, .int (v5 + 1)), (0, .ref (g_a g 0)), (1, .int v1), (2, .int v2), (3, .int v3), (4, .int v4)]) d_Hb_hurry_70 5 rfl ic_1 rfl rfl ?_
  refine k_goto C 27 d_Hb_hurry_73 (by decide) ?_
  exact k_sub [1, 2, 3, 4, 5, 0] rfl (hK27 v3 v4 (v5 + 1) x h)

def b_Hb_hurry_27 (v1 : Int32) (v2 : Int32) : Nat → Int32 → Int32 → Int32 → XD → Option (Int32 × XD)
  | 0, _, _, _, _ => none
  | n + 1, v3, v4, v5, x => (if x 10 2 ≤ v5 then (if v3 = (-4) then some ((-4), x) else (if v2 = 0 then some (v3, x) else some (v4, x))) else gI v5 7 ((f_Hb_daysOfRide (sid 10 v5) v1 x).bind fun p5 => ((if v4 ≤ p5.1 then b_Hb_hurry_70 (b_Hb_hurry_27 v1 v2 n) v1 v2 v3 v4 v5 p5.2 else b_Hb_hurry_70 (b_Hb_hurry_27 v1 v2 n) v1 v2 v5 p5.1 v5 p5.2))))
theorem t_Hb_hurry_27 {g : GC} {X : MX} (C : Cx g X c_Hb_hurry 7 n_Hb 5) {r : Int32 × XD} {z : ZD} (q : RtI g X (some .int) r.1 (r.2, z)) (v1 : Int32) (v2 : Int32) : ∀ (n : Nat) (v3 : Int32) (v4 : Int32) (v5 : Int32) (x : XD) (h : b_Hb_hurry_27 v1 v2 n v3 v4 v5 x = some r), Wk g X 7 27 [(0, .ref (g_a g 0)), (1, .int v1), (2, .int v2), (3, .int v3), (4, .int v4), (5, .int v5)] [] (x, z) := by
  intro n
  induction n with
  | zero =>
    intro v3 v4 v5 x h
    rw [b_Hb_hurry_27] at h
    cases h
  | succ n ih =>
    intro v3 v4 v5 x h
    rw [b_Hb_hurry_27] at h
    refine k_iload C d_Hb_hurry_27 5 rfl ?_
    refine k_aload_n C d_Hb_hurry_29 0 rfl ?_
    refine kg_Hb_42 C d_Hb_hurry_30 ?_
    refine kg_Hb_149 C (by decide) d_Hb_hurry_33 ?_
    refine k_icmp_ge C 76 d_Hb_hurry_36 (by decide) (fun c1 => ?_) (fun c1 => ?_)
    · have h := (if_pos c1).symm.trans h
      refine k_iload_n C d_Hb_hurry_76 3 rfl ?_
      refine k_bipush C (-4) d_Hb_hurry_77 bp_m4 ?_
      refine k_icmp_ne C 85 d_Hb_hurry_79 (by decide) (fun c2 => ?_) (fun c2 => ?_)
      · have h := (if_neg c2).symm.trans h
        refine k_iload_n C d_Hb_hurry_85 2 rfl ?_
        refine k_if_ne C 93 d_Hb_hurry_86 (by decide) (fun c3 => ?_) (fun c3 => ?_)
        · have h := (if_neg c3).symm.trans h
          refine k_iload C d_Hb_hurry_93 4 rfl ?_
          obtain rfl := Option.some.inj h
          exact k_iret C q d_Hb_hurry_95
        · have h := (if_pos c3).symm.trans h
          refine k_iload_n C d_Hb_hurry_89 3 rfl ?_
          refine k_goto C 95 d_Hb_hurry_90 (by decide) ?_
          obtain rfl := Option.some.inj h
          exact k_iret C q d_Hb_hurry_95
      · have h := (if_pos c2).symm.trans h
        refine k_bipush C (-4) d_Hb_hurry_82 bp_m4 ?_
        obtain rfl := Option.some.inj h
        exact k_iret C q d_Hb_hurry_84
    · have h := (if_neg c1).symm.trans h
      refine k_aload_n C d_Hb_hurry_39 0 rfl ?_
      refine k_aload_n C d_Hb_hurry_40 0 rfl ?_
      refine kg_Hb_42 C d_Hb_hurry_41 ?_
      refine kg_Hb_107 C (by decide) d_Hb_hurry_44 ?_
      refine k_iload C d_Hb_hurry_47 5 rfl ?_
      obtain ⟨i4, h⟩ := gI_some h
      refine k_aald_St C (by decide) i4 d_Hb_hurry_49 ?_
      refine k_iload_n C d_Hb_hurry_50 1 rfl ?_
      obtain ⟨p5, ep5, h⟩ := bd_some h
      refine k_callVi C q_Hb_158 (fun l => m_Hb_daysOfRide (cx_g C) l (sid 10 v5) (sid_ok (by decide) i4) v1 x z p5 ep5) rfl rfl (rtI_c q) (by decide) sh_Hb rfl rfl rfl rfl d_Hb_hurry_51 ?_
      refine k_istore C (lv' := [(6, .int p5.1), (0, .ref (g_a g 0)), (1, .int v1), (2, .int v2), (3, .int v3), (4, .int v4), (5, .int v5)]) d_Hb_hurry_54 rfl rfl ?_
      refine k_iload C d_Hb_hurry_56 0 rfl ?_
      refine k_iload C d_Hb_hurry_58 5 rfl ?_
      refine k_icmp_ge C 70 d_Hb_hurry_60 (by decide) (fun c6 => ?_) (fun c6 => ?_)
      · have h := (if_pos c6).symm.trans h
        exact k_sub [1, 2, 3, 4, 5, 6] rfl (t_Hb_hurry_70 C q v1 v2 v3 v4 v5 (b_Hb_hurry_27 v1 v2 n) ih p5.2 h)
      · have h := (if_neg c6).symm.trans h
        refine k_iload C d_Hb_hurry_63 0 rfl ?_
        refine k_istore C (lv' := [(4, .int p5.1), (6, .int p5.1), (0, .ref (g_a g 0)), (1, .int v1), (2, .int v2), (3, .int v3), (5, .int v5)]) d_Hb_hurry_65 rfl rfl ?_
        refine k_iload C d_Hb_hurry_67 6 rfl ?_
        refine k_istore_n C (lv' := [(3, .int v5), (4, .int p5.1), (6, .int p5.1), (0, .ref (g_a g 0)), (1, .int v1), (2, .int v2), (5, .int v5)]) d_Hb_hurry_69 rfl rfl ?_
        exact k_sub [3, 4, 5, 0, 1, 6] rfl (t_Hb_hurry_70 C q v1 v2 v5 p5.1 v5 (b_Hb_hurry_27 v1 v2 n) ih p5.2 h)

def f_Hb_hurry (v1 : Int32) (v2 : Int32) (x : XD) : Option (Int32 × XD) := (f_Hb_isYard v1 x).bind fun p1 => ((if p1.1 = 0 then some ((-1), p1.2) else (f_Hb_isEither v2 p1.2).bind fun p3 => ((if p3.1 = 0 then some ((-1), p3.2) else b_Hb_hurry_27 v1 v2 fu (-4) 1000 0 p3.2))))
theorem m_Hb_hurry {g : GC} (hg : gOk g) (l : Launch)  (v1 : Int32) (v2 : Int32) (x : XD) (z : ZD) (r : Int32 × XD) (h : f_Hb_hurry v1 v2 x = some r) : Mi g l y_Hb_hurry c_Hb_hurry 7 (some .int) 5 [.ref (g_a g 0), .int v1, .int v2] (x, z) r.1 (r.2, z) := by
  refine m_i hg pn_Hb rfl fun X q C => ?_
  refine k_sub (lv' := [(0, .ref (g_a g 0)), (1, .int v1), (2, .int v2)]) [0, 1, 2] rfl ?_
  unfold f_Hb_hurry at h
  refine k_iload_n C d_Hb_hurry_0 1 rfl ?_
  obtain ⟨p1, ep1, h⟩ := bd_some h
  refine k_callSi C q_Hb_143 (fun l => m_Hb_isYard (cx_g C) l v1 x z p1 ep1) rfl rfl (rtI_c q) rfl rfl rfl d_Hb_hurry_1 ?_
  refine k_if_eq C 14 d_Hb_hurry_4 (by decide) (fun c2 => ?_) (fun c2 => ?_)
  · have h := (if_pos c2).symm.trans h
    refine k_iconst C (-1) d_Hb_hurry_14 ic_m1 ?_
    obtain rfl := Option.some.inj h
    exact k_iret C q d_Hb_hurry_15
  · have h := (if_neg c2).symm.trans h
    refine k_iload_n C d_Hb_hurry_7 2 rfl ?_
    obtain ⟨p3, ep3, h⟩ := bd_some h
    refine k_callSi C q_Hb_180 (fun l => m_Hb_isEither (cx_g C) l v2 p1.2 z p3 ep3) rfl rfl (rtI_c q) rfl rfl rfl d_Hb_hurry_8 ?_
    refine k_if_ne C 16 d_Hb_hurry_11 (by decide) (fun c4 => ?_) (fun c4 => ?_)
    · have h := (if_neg c4).symm.trans h
      refine k_bipush C (-4) d_Hb_hurry_16 bp_m4 ?_
      refine k_istore_n C (lv' := [(3, .int (-4)), (0, .ref (g_a g 0)), (1, .int v1), (2, .int v2)]) d_Hb_hurry_18 rfl rfl ?_
      refine k_sipush C 1000 d_Hb_hurry_19 sp_1000 ?_
      refine k_istore C (lv' := [(4, .int 1000), (3, .int (-4)), (0, .ref (g_a g 0)), (1, .int v1), (2, .int v2)]) d_Hb_hurry_22 rfl rfl ?_
      refine k_iconst C 0 d_Hb_hurry_24 ic_0 ?_
      refine k_istore C (lv' := [(5, .int 0), (4, .int 1000), (3, .int (-4)), (0, .ref (g_a g 0)), (1, .int v1), (2, .int v2)]) d_Hb_hurry_25 rfl rfl ?_
      exact k_sub [3, 4, 5, 2, 1, 0] rfl (t_Hb_hurry_27 C q v1 v2 fu (-4) 1000 0 p3.2 h)
    · have h := (if_pos c4).symm.trans h
      refine k_iconst C (-1) d_Hb_hurry_14 ic_m1 ?_
      obtain rfl := Option.some.inj h
      exact k_iret C q d_Hb_hurry_15

def f_Hb_isBest (v1 : Int32) (v2 : Int32) (v3 : Int32) (v4 : Int32) (v5 : Int32) (x : XD) : Option (Int32 × XD) := gI v3 7 ((f_Hb_daysOfLaterRide (sid 10 v3) (v4 * 5) v5 x).bind fun p2 => (gI v1 7 ((f_Hb_daysOfLaterRide (sid 10 v1) (v2 * 5) v5 p2.2).bind fun p4 => (gI v1 7 ((f_Hb_daysOfLaterRide (sid 10 v1) ((1 - v2) * 5) v5 p4.2).bind fun p6 => ((f_Hb_gain p4.1 p2.1 v2 p6.2).bind fun p7 => ((f_Hb_gain p6.1 p2.1 (1 - v2) p7.2).bind fun p8 => ((if p7.1 < p8.1 then some (0, p8.2) else some (1, p8.2))))))))))
theorem m_Hb_isBest {g : GC} (hg : gOk g) (l : Launch)  (v1 : Int32) (v2 : Int32) (v3 : Int32) (v4 : Int32) (v5 : Int32) (x : XD) (z : ZD) (r : Int32 × XD) (h : f_Hb_isBest v1 v2 v3 v4 v5 x = some r) : Mi g l y_Hb_isBest c_Hb_isBest 10 (some .boolean) 5 [.ref (g_a g 0), .int v1, .int v2, .int v3, .int v4, .int v5] (x, z) r.1 (r.2, z) := by
  refine m_i hg pn_Hb rfl fun X q C => ?_
  refine k_sub (lv' := [(0, .ref (g_a g 0)), (1, .int v1), (2, .int v2), (3, .int v3), (4, .int v4), (5, .int v5)]) [0, 1, 2, 3, 4, 5] rfl ?_
  unfold f_Hb_isBest at h
  refine k_iconst C 1 d_Hb_isBest_0 ic_1 ?_
  refine k_iload_n C d_Hb_isBest_1 2 rfl ?_
  refine k_isub C d_Hb_isBest_2 ?_
  refine k_istore C (lv' := [(6, .int (1 - v2)), (0, .ref (g_a g 0)), (1, .int v1), (2, .int v2), (3, .int v3), (4, .int v4), (5, .int v5)]) d_Hb_isBest_3 rfl rfl ?_
  refine k_aload_n C d_Hb_isBest_5 1 rfl ?_
  refine k_aload_n C d_Hb_isBest_6 1 rfl ?_
  refine kg_Hb_42 C d_Hb_isBest_7 ?_
  refine kg_Hb_107 C (by decide) d_Hb_isBest_10 ?_
  refine k_iload_n C d_Hb_isBest_13 4 rfl ?_
  obtain ⟨i1, h⟩ := gI_some h
  refine k_aald_St C (by decide) i1 d_Hb_isBest_14 ?_
  refine k_iload C d_Hb_isBest_15 5 rfl ?_
  refine k_iconst C 5 d_Hb_isBest_17 ic_5 ?_
  refine k_imul C d_Hb_isBest_18 ?_
  refine k_iload C d_Hb_isBest_19 6 rfl ?_
  obtain ⟨p2, ep2, h⟩ := bd_some h
  refine k_callVi C q_Hb_198 (fun l => m_Hb_daysOfLaterRide (cx_g C) l (sid 10 v3) (sid_ok (by decide) i1) (v4 * 5) v5 x z p2 ep2) rfl rfl (rtI_c q) (by decide) sh_Hb rfl rfl rfl rfl d_Hb_isBest_21 ?_
  refine k_istore C (lv' := [(7, .int p2.1), (6, .int (1 - v2)), (0, .ref (g_a g 0)), (1, .int v1), (2, .int v2), (3, .int v3), (4, .int v4), (5, .int v5)]) d_Hb_isBest_24 rfl rfl ?_
  refine k_aload_n C d_Hb_isBest_26 2 rfl ?_
  refine k_aload_n C d_Hb_isBest_27 2 rfl ?_
  refine kg_Hb_42 C d_Hb_isBest_28 ?_
  refine kg_Hb_107 C (by decide) d_Hb_isBest_31 ?_
  refine k_iload_n C d_Hb_isBest_34 3 rfl ?_
  obtain ⟨i3, h⟩ := gI_some h
  refine k_aald_St C (by decide) i3 d_Hb_isBest_35 ?_
  refine k_iload_n C d_Hb_isBest_36 4 rfl ?_
  refine k_iconst C 5 d_Hb_isBest_37 ic_5 ?_
  refine k_imul C d_Hb_isBest_38 ?_
  refine k_iload C d_Hb_isBest_39 7 rfl ?_
  obtain ⟨p4, ep4, h⟩ := bd_some h
  refine k_callVi C q_Hb_198 (fun l => m_Hb_daysOfLaterRide (cx_g C) l (sid 10 v1) (sid_ok (by decide) i3) (v2 * 5) v5 p2.2 z p4 ep4) rfl rfl (rtI_c q) (by decide) sh_Hb rfl rfl rfl rfl d_Hb_isBest_41 ?_
  refine k_istore C (lv' := [(8, .int p4.1), (7, .int p2.1), (6, .int (1 - v2)), (0, .ref (g_a g 0)), (1, .int v1), (2, .int v2), (3, .int v3), (4, .int v4), (5, .int v5)]) d_Hb_isBest_44 rfl rfl ?_
  refine k_aload_n C d_Hb_isBest_46 3 rfl ?_
  refine k_aload_n C d_Hb_isBest_47 3 rfl ?_
  refine kg_Hb_42 C d_Hb_isBest_48 ?_
  refine kg_Hb_107 C (by decide) d_Hb_isBest_51 ?_
  refine k_iload_n C d_Hb_isBest_54 4 rfl ?_
  obtain ⟨i5, h⟩ := gI_some h
  refine k_aald_St C (by decide) i5 d_Hb_isBest_55 ?_
  refine k_iload C d_Hb_isBest_56 2 rfl ?_
  refine k_iconst C 5 d_Hb_isBest_58 ic_5 ?_
  refine k_imul C d_Hb_isBest_59 ?_
  refine k_iload C d_Hb_isBest_60 8 rfl ?_
  obtain ⟨p6, ep6, h⟩ := bd_some h
  refine k_callVi C q_Hb_198 (fun l => m_Hb_daysOfLaterRide (cx_g C) l (sid 10 v1) (sid_ok (by decide) i5) ((1 - v2) * 5) v5 p4.2 z p6 ep6) rfl rfl (rtI_c q) (by decide) sh_Hb rfl rfl rfl rfl d_Hb_isBest_62 ?_
  refine k_istore C (lv' := [(9, .int p6.1), (8, .int p4.1), (7, .int p2.1), (6, .int (1 - v2)), (0, .ref (g_a g 0)), (1, .int v1), (2, .int v2), (3, .int v3), (4, .int v4), (5, .int v5)]) d_Hb_isBest_65 rfl rfl ?_
  refine k_iload C d_Hb_isBest_67 1 rfl ?_
  refine k_iload C d_Hb_isBest_69 2 rfl ?_
  refine k_iload_n C d_Hb_isBest_71 6 rfl ?_
  obtain ⟨p7, ep7, h⟩ := bd_some h
  refine k_callSi C q_Hb_314 (fun l => m_Hb_gain (cx_g C) l p4.1 p2.1 v2 p6.2 z p7 ep7) rfl rfl (rtI_c q) rfl rfl rfl d_Hb_isBest_72 ?_
  refine k_iload C d_Hb_isBest_75 0 rfl ?_
  refine k_iload C d_Hb_isBest_77 2 rfl ?_
  refine k_iload C d_Hb_isBest_79 3 rfl ?_
  obtain ⟨p8, ep8, h⟩ := bd_some h
  refine k_callSi C q_Hb_314 (fun l => m_Hb_gain (cx_g C) l p6.1 p2.1 (1 - v2) p7.2 z p8 ep8) rfl rfl (rtI_c q) rfl rfl rfl d_Hb_isBest_81 ?_
  refine k_icmp_lt C 91 d_Hb_isBest_84 (by decide) (fun c9 => ?_) (fun c9 => ?_)
  · have h := (if_pos c9).symm.trans h
    refine k_iconst C 0 d_Hb_isBest_91 ic_0 ?_
    obtain rfl := Option.some.inj h
    exact k_zret C q (Or.inl rfl) d_Hb_isBest_92
  · have h := (if_neg c9).symm.trans h
    refine k_iconst C 1 d_Hb_isBest_87 ic_1 ?_
    refine k_goto C 92 d_Hb_isBest_88 (by decide) ?_
    obtain rfl := Option.some.inj h
    exact k_zret C q (Or.inr rfl) d_Hb_isBest_92

def b_Hb_lands_57 (K39 : Int32 → Int32 → Int32 → Int32 → XD → Option (Int32 × XD)) (v1 : Int32) (v3 : Int32) (v6 : Int32) (v7 : Int32) (v8 : Int32) : Nat → Int32 → Int32 → XD → Option (Int32 × XD)
  | 0, _, _, _ => none
  | n + 1, v5, v9, x => (if x 12 2 ≤ v9 then (f_La_pass 12 10 x).bind fun p2 => ((f_La_allLonging 12 p2.2).bind fun p3 => ((f_La_allResting 12 p3.2).bind fun p4 => (K39 v5 (v6 + p3.1) (v7 + p4.1) (v8 + 1) p4.2))) else gI v9 7 (lt (x_up x (sid 12 v9) 3 (x_rem ((((v5 * 1103515245) + 12345) &&& 2147483647) / 65536) 21)) fun (x6 : XD) => b_Hb_lands_57 K39 v1 v3 v6 v7 v8 n ((v5 * 1103515245) + 12345) (v9 + 1) x6))
theorem t_Hb_lands_57 {g : GC} {X : MX} (C : Cx g X c_Hb_lands 10 n_Hb 5) {r : Int32 × XD} {z : ZD} (q : RtI g X (some .int) r.1 (r.2, z)) (v1 : Int32) (v3 : Int32) (v6 : Int32) (v7 : Int32) (v8 : Int32) (K39 : Int32 → Int32 → Int32 → Int32 → XD → Option (Int32 × XD)) (hK39 : ∀ (v5 : Int32) (v6 : Int32) (v7 : Int32) (v8 : Int32) (x : XD), K39 v5 v6 v7 v8 x = some r → Wk g X 10 39 [(0, .ref (g_a g 0)), (1, .int v1), (3, .int v3), (4, .ref (g_a g 12)), (5, .int v5), (6, .int v6), (7, .int v7), (8, .int v8)] [] (x, z)) : ∀ (n : Nat) (v5 : Int32) (v9 : Int32) (x : XD) (h : b_Hb_lands_57 K39 v1 v3 v6 v7 v8 n v5 v9 x = some r), Wk g X 10 57 [(0, .ref (g_a g 0)), (1, .int v1), (3, .int v3), (4, .ref (g_a g 12)), (5, .int v5), (6, .int v6), (7, .int v7), (8, .int v8), (9, .int v9)] [] (x, z) := by
  intro n
  induction n with
  | zero =>
    intro v5 v9 x h
    rw [b_Hb_lands_57] at h
    cases h
  | succ n ih =>
    intro v5 v9 x h
    rw [b_Hb_lands_57] at h
    refine k_iload C d_Hb_lands_57 8 rfl ?_
    refine k_aload C d_Hb_lands_59 3 rfl ?_
    refine kg_Hb_149 C (by decide) d_Hb_lands_61 ?_
    refine k_icmp_ge C 106 d_Hb_lands_64 (by decide) (fun c1 => ?_) (fun c1 => ?_)
    · have h := (if_pos c1).symm.trans h
      refine k_aload C d_Hb_lands_106 3 rfl ?_
      refine k_bipush C 10 d_Hb_lands_108 bp_10 ?_
      obtain ⟨p2, ep2, h⟩ := bd_some h
      refine k_callVv C q_Hb_173 (fun l => m_La_pass (cx_g C) l 12 (by decide) 10 x z p2 ep2) rfl rfl (rtI_c q) (by decide) (sh_La (by decide)) rfl rfl rfl rfl d_Hb_lands_110 ?_
      refine k_iload C d_Hb_lands_113 5 rfl ?_
      refine k_aload C d_Hb_lands_115 3 rfl ?_
      obtain ⟨p3, ep3, h⟩ := bd_some h
      refine k_callVi C q_Hb_177 (fun l => m_La_allLonging (cx_g C) l 12 (by decide) p2.2 z p3 ep3) rfl rfl (rtI_c q) (by decide) (sh_La (by decide)) rfl rfl rfl rfl d_Hb_lands_117 ?_
      refine k_iadd C d_Hb_lands_120 ?_
      refine k_istore C (lv' := [(6, .int (v6 + p3.1)), (0, .ref (g_a g 0)), (1, .int v1), (3, .int v3), (4, .ref (g_a g 12)), (5, .int v5), (7, .int v7), (8, .int v8), (9, .int v9)]) d_Hb_lands_121 rfl rfl ?_
      refine k_iload C d_Hb_lands_123 6 rfl ?_
      refine k_aload C d_Hb_lands_125 4 rfl ?_
      obtain ⟨p4, ep4, h⟩ := bd_some h
      refine k_callVi C q_Hb_246 (fun l => m_La_allResting (cx_g C) l 12 (by decide) p3.2 z p4 ep4) rfl rfl (rtI_c q) (by decide) (sh_La (by decide)) rfl rfl rfl rfl d_Hb_lands_127 ?_
      refine k_iadd C d_Hb_lands_130 ?_
      refine k_istore C (lv' := [(7, .int (v7 + p4.1)), (6, .int (v6 + p3.1)), (0, .ref (g_a g 0)), (1, .int v1), (3, .int v3), (4, .ref (g_a g 12)), (5, .int v5), (8, .int v8), (9, .int v9)]) d_Hb_lands_131 rfl rfl ?_
      refine k_inc C (lv' := [(8, .int (v8 + 1)), (7, .int (v7 + p4.1)), (6, .int (v6 + p3.1)), (0, .ref (g_a g 0)), (1, .int v1), (3, .int v3), (4, .ref (g_a g 12)), (5, .int v5), (9, .int v9)]) d_Hb_lands_133 7 rfl ic_1 rfl rfl ?_
      refine k_goto C 39 d_Hb_lands_136 (by decide) ?_
      exact k_sub [3, 4, 5, 6, 7, 2, 1, 0] rfl (hK39 v5 (v6 + p3.1) (v7 + p4.1) (v8 + 1) p4.2 h)
    · have h := (if_neg c1).symm.trans h
      refine k_iload C d_Hb_lands_67 4 rfl ?_
      refine k_ldc C 1103515245 l_743 d_Hb_lands_69 ?_
      refine k_imul C d_Hb_lands_71 ?_
      refine k_sipush C 12345 d_Hb_lands_72 sp_12345 ?_
      refine k_iadd C d_Hb_lands_75 ?_
      refine k_istore C (lv' := [(5, .int ((v5 * 1103515245) + 12345)), (0, .ref (g_a g 0)), (1, .int v1), (3, .int v3), (4, .ref (g_a g 12)), (6, .int v6), (7, .int v7), (8, .int v8), (9, .int v9)]) d_Hb_lands_76 rfl rfl ?_
      refine k_aload C d_Hb_lands_78 4 rfl ?_
      refine kg_Hb_107 C (by decide) d_Hb_lands_80 ?_
      refine k_iload C d_Hb_lands_83 8 rfl ?_
      obtain ⟨i5, h⟩ := gI_some h
      refine k_aald_St C (by decide) i5 d_Hb_lands_85 ?_
      refine k_iload C d_Hb_lands_86 0 rfl ?_
      refine k_ldc C 2147483647 l_744 d_Hb_lands_88 ?_
      refine k_iand C d_Hb_lands_90 ?_
      refine k_ldc C 65536 l_745 d_Hb_lands_91 ?_
      refine k_idiv C nz_65536 d_Hb_lands_93 ?_
      refine k_bipush C 21 d_Hb_lands_94 bp_21 ?_
      refine k_irem C nz_21 d_Hb_lands_96 ?_
      obtain ⟨x6, ex6, h⟩ := lt_some h
      refine kp_Hb_125 C (sid_ok (by decide) i5) ex6 d_Hb_lands_97 ?_
      refine k_inc C (lv' := [(9, .int (v9 + 1)), (5, .int ((v5 * 1103515245) + 12345)), (0, .ref (g_a g 0)), (1, .int v1), (3, .int v3), (4, .ref (g_a g 12)), (6, .int v6), (7, .int v7), (8, .int v8)]) d_Hb_lands_100 8 rfl ic_1 rfl rfl ?_
      refine k_goto C 57 d_Hb_lands_103 (by decide) ?_
      exact k_sub [2, 3, 4, 5, 1, 6, 7, 8, 0] rfl (ih ((v5 * 1103515245) + 12345) (v9 + 1) x6 h)

def b_Hb_lands_39 (v1 : Int32) (v3 : Int32) : Nat → Int32 → Int32 → Int32 → Int32 → XD → Option (Int32 × XD)
  | 0, _, _, _, _, _ => none
  | n + 1, v5, v6, v7, v8, x => (if v1 ≤ v8 then (if v3 = 0 then some (v6, x) else some (v7, x)) else (f_La_become 12 10 x).bind fun p3 => (b_Hb_lands_57 (b_Hb_lands_39 v1 v3 n) v1 v3 v6 v7 v8 fu v5 0 p3.2))
theorem t_Hb_lands_39 {g : GC} {X : MX} (C : Cx g X c_Hb_lands 10 n_Hb 5) {r : Int32 × XD} {z : ZD} (q : RtI g X (some .int) r.1 (r.2, z)) (v1 : Int32) (v3 : Int32) : ∀ (n : Nat) (v5 : Int32) (v6 : Int32) (v7 : Int32) (v8 : Int32) (x : XD) (h : b_Hb_lands_39 v1 v3 n v5 v6 v7 v8 x = some r), Wk g X 10 39 [(0, .ref (g_a g 0)), (1, .int v1), (3, .int v3), (4, .ref (g_a g 12)), (5, .int v5), (6, .int v6), (7, .int v7), (8, .int v8)] [] (x, z) := by
  intro n
  induction n with
  | zero =>
    intro v5 v6 v7 v8 x h
    rw [b_Hb_lands_39] at h
    cases h
  | succ n ih =>
    intro v5 v6 v7 v8 x h
    rw [b_Hb_lands_39] at h
    refine k_iload C d_Hb_lands_39 7 rfl ?_
    refine k_iload_n C d_Hb_lands_41 1 rfl ?_
    refine k_icmp_ge C 139 d_Hb_lands_42 (by decide) (fun c1 => ?_) (fun c1 => ?_)
    · have h := (if_pos c1).symm.trans h
      refine k_iload_n C d_Hb_lands_139 2 rfl ?_
      refine k_if_ne C 148 d_Hb_lands_140 (by decide) (fun c2 => ?_) (fun c2 => ?_)
      · have h := (if_neg c2).symm.trans h
        refine k_iload C d_Hb_lands_148 6 rfl ?_
        obtain rfl := Option.some.inj h
        exact k_iret C q d_Hb_lands_150
      · have h := (if_pos c2).symm.trans h
        refine k_iload C d_Hb_lands_143 5 rfl ?_
        refine k_goto C 150 d_Hb_lands_145 (by decide) ?_
        obtain rfl := Option.some.inj h
        exact k_iret C q d_Hb_lands_150
    · have h := (if_neg c1).symm.trans h
      refine k_aload C d_Hb_lands_45 3 rfl ?_
      refine k_aload_n C d_Hb_lands_47 0 rfl ?_
      refine kg_Hb_42 C d_Hb_lands_48 ?_
      obtain ⟨p3, ep3, h⟩ := bd_some h
      refine k_callVv C q_Hb_85 (fun l => m_La_become (cx_g C) l 12 (by decide) 10 (by decide) x z p3 ep3) rfl rfl (rtI_c q) (by decide) (sh_La (by decide)) rfl rfl rfl rfl d_Hb_lands_51 ?_
      refine k_iconst C 0 d_Hb_lands_54 ic_0 ?_
      refine k_istore C (lv' := [(9, .int 0), (0, .ref (g_a g 0)), (1, .int v1), (3, .int v3), (4, .ref (g_a g 12)), (5, .int v5), (6, .int v6), (7, .int v7), (8, .int v8)]) d_Hb_lands_55 rfl rfl ?_
      exact k_sub [1, 2, 3, 4, 5, 6, 7, 8, 0] rfl (t_Hb_lands_57 C q v1 v3 v6 v7 v8 (b_Hb_lands_39 v1 v3 n) ih fu v5 0 p3.2 h)

def f_Hb_lands (v1 : Int32) (v2 : Int32) (v3 : Int32) (x : XD) : Option (Int32 × XD) := (f_Hb_isWithin v1 1 20 x).bind fun p1 => ((if p1.1 = 0 then some ((-1), p1.2) else (f_Hb_isEither v3 p1.2).bind fun p3 => ((if p3.1 = 0 then some ((-1), p3.2) else b_Hb_lands_39 v1 v3 fu v2 0 0 0 p3.2))))
theorem m_Hb_lands {g : GC} (hg : gOk g) (l : Launch)  (v1 : Int32) (v2 : Int32) (v3 : Int32) (x : XD) (z : ZD) (r : Int32 × XD) (h : f_Hb_lands v1 v2 v3 x = some r) : Mi g l y_Hb_lands c_Hb_lands 10 (some .int) 5 [.ref (g_a g 0), .int v1, .int v2, .int v3] (x, z) r.1 (r.2, z) := by
  refine m_i hg pn_Hb rfl fun X q C => ?_
  refine k_sub (lv' := [(0, .ref (g_a g 0)), (1, .int v1), (2, .int v2), (3, .int v3)]) [0, 1, 2, 3] rfl ?_
  unfold f_Hb_lands at h
  refine k_iload_n C d_Hb_lands_0 1 rfl ?_
  refine k_iconst C 1 d_Hb_lands_1 ic_1 ?_
  refine k_bipush C 20 d_Hb_lands_2 bp_20 ?_
  obtain ⟨p1, ep1, h⟩ := bd_some h
  refine k_callSi C q_Hb_169 (fun l => m_Hb_isWithin (cx_g C) l v1 1 20 x z p1 ep1) rfl rfl (rtI_c q) rfl rfl rfl d_Hb_lands_4 ?_
  refine k_if_eq C 17 d_Hb_lands_7 (by decide) (fun c2 => ?_) (fun c2 => ?_)
  · have h := (if_pos c2).symm.trans h
    refine k_iconst C (-1) d_Hb_lands_17 ic_m1 ?_
    obtain rfl := Option.some.inj h
    exact k_iret C q d_Hb_lands_18
  · have h := (if_neg c2).symm.trans h
    refine k_iload_n C d_Hb_lands_10 3 rfl ?_
    obtain ⟨p3, ep3, h⟩ := bd_some h
    refine k_callSi C q_Hb_180 (fun l => m_Hb_isEither (cx_g C) l v3 p1.2 z p3 ep3) rfl rfl (rtI_c q) rfl rfl rfl d_Hb_lands_11 ?_
    refine k_if_ne C 19 d_Hb_lands_14 (by decide) (fun c4 => ?_) (fun c4 => ?_)
    · have h := (if_neg c4).symm.trans h
      refine k_aload_n C d_Hb_lands_19 0 rfl ?_
      refine kg_Hb_49 C d_Hb_lands_20 ?_
      refine k_iconst C 0 d_Hb_lands_23 ic_0 ?_
      refine k_aald_L0 C d_Hb_lands_24 ?_
      refine k_astore C (lv' := [(4, .ref (g_a g 12)), (0, .ref (g_a g 0)), (1, .int v1), (2, .int v2), (3, .int v3)]) d_Hb_lands_25 rfl rfl ?_
      refine k_iload_n C d_Hb_lands_27 3 rfl ?_
      refine k_istore C (lv' := [(5, .int v2), (4, .ref (g_a g 12)), (0, .ref (g_a g 0)), (1, .int v1), (2, .int v2), (3, .int v3)]) d_Hb_lands_28 rfl rfl ?_
      refine k_iconst C 0 d_Hb_lands_30 ic_0 ?_
      refine k_istore C (lv' := [(6, .int 0), (5, .int v2), (4, .ref (g_a g 12)), (0, .ref (g_a g 0)), (1, .int v1), (2, .int v2), (3, .int v3)]) d_Hb_lands_31 rfl rfl ?_
      refine k_iconst C 0 d_Hb_lands_33 ic_0 ?_
      refine k_istore C (lv' := [(7, .int 0), (6, .int 0), (5, .int v2), (4, .ref (g_a g 12)), (0, .ref (g_a g 0)), (1, .int v1), (2, .int v2), (3, .int v3)]) d_Hb_lands_34 rfl rfl ?_
      refine k_iconst C 0 d_Hb_lands_36 ic_0 ?_
      refine k_istore C (lv' := [(8, .int 0), (7, .int 0), (6, .int 0), (5, .int v2), (4, .ref (g_a g 12)), (0, .ref (g_a g 0)), (1, .int v1), (2, .int v2), (3, .int v3)]) d_Hb_lands_37 rfl rfl ?_
      exact k_sub [5, 6, 8, 4, 3, 2, 1, 0] rfl (t_Hb_lands_39 C q v1 v3 fu v2 0 0 0 p3.2 h)
    · have h := (if_pos c4).symm.trans h
      refine k_iconst C (-1) d_Hb_lands_17 ic_m1 ?_
      obtain rfl := Option.some.inj h
      exact k_iret C q d_Hb_lands_18

def b_Hb_meet_82 (K18 : Int32 → Int32 → Int32 → XD → Option (Int32 × XD)) (v1 : Int32) (v2 : Int32) (v3 : Int32) (v4 : Int32) (x : XD) : Option (Int32 × XD) := K18 v2 v3 (v4 + 1) x
theorem t_Hb_meet_82 {g : GC} {X : MX} (C : Cx g X c_Hb_meet 7 n_Hb 5) {r : Int32 × XD} {z : ZD} (q : RtI g X (some .int) r.1 (r.2, z)) (v1 : Int32) (v2 : Int32) (v3 : Int32) (v4 : Int32) (K18 : Int32 → Int32 → Int32 → XD → Option (Int32 × XD)) (hK18 : ∀ (v2 : Int32) (v3 : Int32) (v4 : Int32) (x : XD), K18 v2 v3 v4 x = some r → Wk g X 7 18 [(0, .ref (g_a g 0)), (1, .int v1), (2, .int v2), (3, .int v3), (4, .int v4)] [] (x, z)) (x : XD) (h : b_Hb_meet_82 K18 v1 v2 v3 v4 x = some r) : Wk g X 7 82 [(0, .ref (g_a g 0)), (1, .int v1), (2, .int v2), (3, .int v3), (4, .int v4)] [] (x, z) := by
  unfold b_Hb_meet_82 at h
  refine k_inc C (lv' := [(4, .int (v4 + 1)), (0, .ref (g_a g 0)), (1, .int v1), (2, .int v2), (3, .int v3)]) d_Hb_meet_82 4 rfl ic_1 rfl rfl ?_
  refine k_goto C 18 d_Hb_meet_85 (by decide) ?_
  exact k_sub [1, 2, 3, 4, 0] rfl (hK18 v2 v3 (v4 + 1) x h)

def b_Hb_meet_31 (K18 : Int32 → Int32 → Int32 → XD → Option (Int32 × XD)) (v1 : Int32) (v2 : Int32) (v3 : Int32) (v4 : Int32) : Nat → Int32 → Int32 → XD → Option (Int32 × XD)
  | 0, _, _, _ => none
  | n + 1, v5, v6, x => (if x 10 2 ≤ v6 then (if v3 ≤ v5 then b_Hb_meet_82 K18 v1 v2 v3 v4 x else b_Hb_meet_82 K18 v1 v4 v5 v4 x) else gI v6 7 ((f_Hb_daysOfRide (sid 10 v6) v4 x).bind fun p4 => (b_Hb_meet_31 K18 v1 v2 v3 v4 n (v5 + p4.1) (v6 + 1) p4.2)))
theorem t_Hb_meet_31 {g : GC} {X : MX} (C : Cx g X c_Hb_meet 7 n_Hb 5) {r : Int32 × XD} {z : ZD} (q : RtI g X (some .int) r.1 (r.2, z)) (v1 : Int32) (v2 : Int32) (v3 : Int32) (v4 : Int32) (K18 : Int32 → Int32 → Int32 → XD → Option (Int32 × XD)) (hK18 : ∀ (v2 : Int32) (v3 : Int32) (v4 : Int32) (x : XD), K18 v2 v3 v4 x = some r → Wk g X 7 18 [(0, .ref (g_a g 0)), (1, .int v1), (2, .int v2), (3, .int v3), (4, .int v4)] [] (x, z)) : ∀ (n : Nat) (v5 : Int32) (v6 : Int32) (x : XD) (h : b_Hb_meet_31 K18 v1 v2 v3 v4 n v5 v6 x = some r), Wk g X 7 31 [(0, .ref (g_a g 0)), (1, .int v1), (2, .int v2), (3, .int v3), (4, .int v4), (5, .int v5), (6, .int v6)] [] (x, z) := by
  intro n
  induction n with
  | zero =>
    intro v5 v6 x h
    rw [b_Hb_meet_31] at h
    cases h
  | succ n ih =>
    intro v5 v6 x h
    rw [b_Hb_meet_31] at h
    refine k_iload C d_Hb_meet_31 6 rfl ?_
    refine k_aload_n C d_Hb_meet_33 0 rfl ?_
    refine kg_Hb_42 C d_Hb_meet_34 ?_
    refine kg_Hb_149 C (by decide) d_Hb_meet_37 ?_
    refine k_icmp_ge C 70 d_Hb_meet_40 (by decide) (fun c1 => ?_) (fun c1 => ?_)
    · have h := (if_pos c1).symm.trans h
      refine k_iload C d_Hb_meet_70 5 rfl ?_
      refine k_iload_n C d_Hb_meet_72 3 rfl ?_
      refine k_icmp_ge C 82 d_Hb_meet_73 (by decide) (fun c2 => ?_) (fun c2 => ?_)
      · have h := (if_pos c2).symm.trans h
        exact k_sub [0, 1, 2, 3, 4] rfl (t_Hb_meet_82 C q v1 v2 v3 v4 K18 hK18 x h)
      · have h := (if_neg c2).symm.trans h
        refine k_iload C d_Hb_meet_76 5 rfl ?_
        refine k_istore_n C (lv' := [(3, .int v5), (0, .ref (g_a g 0)), (1, .int v1), (2, .int v2), (4, .int v4), (5, .int v5), (6, .int v6)]) d_Hb_meet_78 rfl rfl ?_
        refine k_iload C d_Hb_meet_79 4 rfl ?_
        refine k_istore_n C (lv' := [(2, .int v4), (3, .int v5), (0, .ref (g_a g 0)), (1, .int v1), (4, .int v4), (5, .int v5), (6, .int v6)]) d_Hb_meet_81 rfl rfl ?_
        exact k_sub [2, 3, 0, 1, 4] rfl (t_Hb_meet_82 C q v1 v4 v5 v4 K18 hK18 x h)
    · have h := (if_neg c1).symm.trans h
      refine k_iload C d_Hb_meet_43 5 rfl ?_
      refine k_aload_n C d_Hb_meet_45 0 rfl ?_
      refine k_aload_n C d_Hb_meet_46 0 rfl ?_
      refine kg_Hb_42 C d_Hb_meet_47 ?_
      refine kg_Hb_107 C (by decide) d_Hb_meet_50 ?_
      refine k_iload C d_Hb_meet_53 6 rfl ?_
      obtain ⟨i3, h⟩ := gI_some h
      refine k_aald_St C (by decide) i3 d_Hb_meet_55 ?_
      refine k_iload C d_Hb_meet_56 4 rfl ?_
      obtain ⟨p4, ep4, h⟩ := bd_some h
      refine k_callVi C q_Hb_158 (fun l => m_Hb_daysOfRide (cx_g C) l (sid 10 v6) (sid_ok (by decide) i3) v4 x z p4 ep4) rfl rfl (rtI_c q) (by decide) sh_Hb rfl rfl rfl rfl d_Hb_meet_58 ?_
      refine k_iadd C d_Hb_meet_61 ?_
      refine k_istore C (lv' := [(5, .int (v5 + p4.1)), (0, .ref (g_a g 0)), (1, .int v1), (2, .int v2), (3, .int v3), (4, .int v4), (6, .int v6)]) d_Hb_meet_62 rfl rfl ?_
      refine k_inc C (lv' := [(6, .int (v6 + 1)), (5, .int (v5 + p4.1)), (0, .ref (g_a g 0)), (1, .int v1), (2, .int v2), (3, .int v3), (4, .int v4)]) d_Hb_meet_64 6 rfl ic_1 rfl rfl ?_
      refine k_goto C 31 d_Hb_meet_67 (by decide) ?_
      exact k_sub [2, 3, 4, 5, 6, 1, 0] rfl (ih (v5 + p4.1) (v6 + 1) p4.2 h)

def b_Hb_meet_18 (v1 : Int32) : Nat → Int32 → Int32 → Int32 → XD → Option (Int32 × XD)
  | 0, _, _, _, _ => none
  | n + 1, v2, v3, v4, x => (if 21 ≤ v4 then (if v1 = 0 then some (v2, x) else some (v3, x)) else b_Hb_meet_31 (b_Hb_meet_18 v1 n) v1 v2 v3 v4 fu 0 0 x)
theorem t_Hb_meet_18 {g : GC} {X : MX} (C : Cx g X c_Hb_meet 7 n_Hb 5) {r : Int32 × XD} {z : ZD} (q : RtI g X (some .int) r.1 (r.2, z)) (v1 : Int32) : ∀ (n : Nat) (v2 : Int32) (v3 : Int32) (v4 : Int32) (x : XD) (h : b_Hb_meet_18 v1 n v2 v3 v4 x = some r), Wk g X 7 18 [(0, .ref (g_a g 0)), (1, .int v1), (2, .int v2), (3, .int v3), (4, .int v4)] [] (x, z) := by
  intro n
  induction n with
  | zero =>
    intro v2 v3 v4 x h
    rw [b_Hb_meet_18] at h
    cases h
  | succ n ih =>
    intro v2 v3 v4 x h
    rw [b_Hb_meet_18] at h
    refine k_iload C d_Hb_meet_18 4 rfl ?_
    refine k_bipush C 21 d_Hb_meet_20 bp_21 ?_
    refine k_icmp_ge C 88 d_Hb_meet_22 (by decide) (fun c1 => ?_) (fun c1 => ?_)
    · have h := (if_pos c1).symm.trans h
      refine k_iload_n C d_Hb_meet_88 1 rfl ?_
      refine k_if_ne C 96 d_Hb_meet_89 (by decide) (fun c2 => ?_) (fun c2 => ?_)
      · have h := (if_neg c2).symm.trans h
        refine k_iload_n C d_Hb_meet_96 3 rfl ?_
        obtain rfl := Option.some.inj h
        exact k_iret C q d_Hb_meet_97
      · have h := (if_pos c2).symm.trans h
        refine k_iload_n C d_Hb_meet_92 2 rfl ?_
        refine k_goto C 97 d_Hb_meet_93 (by decide) ?_
        obtain rfl := Option.some.inj h
        exact k_iret C q d_Hb_meet_97
    · have h := (if_neg c1).symm.trans h
      refine k_iconst C 0 d_Hb_meet_25 ic_0 ?_
      refine k_istore C (lv' := [(5, .int 0), (0, .ref (g_a g 0)), (1, .int v1), (2, .int v2), (3, .int v3), (4, .int v4)]) d_Hb_meet_26 rfl rfl ?_
      refine k_iconst C 0 d_Hb_meet_28 ic_0 ?_
      refine k_istore C (lv' := [(6, .int 0), (5, .int 0), (0, .ref (g_a g 0)), (1, .int v1), (2, .int v2), (3, .int v3), (4, .int v4)]) d_Hb_meet_29 rfl rfl ?_
      exact k_sub [2, 3, 4, 5, 6, 1, 0] rfl (t_Hb_meet_31 C q v1 v2 v3 v4 (b_Hb_meet_18 v1 n) ih fu 0 0 x h)

def f_Hb_meet (v1 : Int32) (x : XD) : Option (Int32 × XD) := (f_Hb_isEither v1 x).bind fun p1 => ((if p1.1 = 0 then some ((-1), p1.2) else b_Hb_meet_18 v1 fu 0 1000 0 p1.2))
theorem m_Hb_meet {g : GC} (hg : gOk g) (l : Launch)  (v1 : Int32) (x : XD) (z : ZD) (r : Int32 × XD) (h : f_Hb_meet v1 x = some r) : Mi g l y_Hb_meet c_Hb_meet 7 (some .int) 5 [.ref (g_a g 0), .int v1] (x, z) r.1 (r.2, z) := by
  refine m_i hg pn_Hb rfl fun X q C => ?_
  refine k_sub (lv' := [(0, .ref (g_a g 0)), (1, .int v1)]) [0, 1] rfl ?_
  unfold f_Hb_meet at h
  refine k_iload_n C d_Hb_meet_0 1 rfl ?_
  obtain ⟨p1, ep1, h⟩ := bd_some h
  refine k_callSi C q_Hb_180 (fun l => m_Hb_isEither (cx_g C) l v1 x z p1 ep1) rfl rfl (rtI_c q) rfl rfl rfl d_Hb_meet_1 ?_
  refine k_if_ne C 9 d_Hb_meet_4 (by decide) (fun c2 => ?_) (fun c2 => ?_)
  · have h := (if_neg c2).symm.trans h
    refine k_iconst C 0 d_Hb_meet_9 ic_0 ?_
    refine k_istore_n C (lv' := [(2, .int 0), (0, .ref (g_a g 0)), (1, .int v1)]) d_Hb_meet_10 rfl rfl ?_
    refine k_sipush C 1000 d_Hb_meet_11 sp_1000 ?_
    refine k_istore_n C (lv' := [(3, .int 1000), (2, .int 0), (0, .ref (g_a g 0)), (1, .int v1)]) d_Hb_meet_14 rfl rfl ?_
    refine k_iconst C 0 d_Hb_meet_15 ic_0 ?_
    refine k_istore C (lv' := [(4, .int 0), (3, .int 1000), (2, .int 0), (0, .ref (g_a g 0)), (1, .int v1)]) d_Hb_meet_16 rfl rfl ?_
    exact k_sub [3, 4, 2, 1, 0] rfl (t_Hb_meet_18 C q v1 fu 0 1000 0 p1.2 h)
  · have h := (if_pos c2).symm.trans h
    refine k_iconst C (-1) d_Hb_meet_7 ic_m1 ?_
    obtain rfl := Option.some.inj h
    exact k_iret C q d_Hb_meet_8

def f_Hb_race (v1 : Int32) (v2 : Int32) (v3 : Int32) (x : XD) : Option (Int32 × XD) := (f_Hb_isHorse v1 x).bind fun p1 => ((if p1.1 = 0 then some ((-1), p1.2) else (f_Hb_isHorse v2 p1.2).bind fun p3 => ((if p3.1 = 0 then some ((-1), p3.2) else (if v1 = v2 then some ((-1), p3.2) else (f_Hb_isYard v3 p3.2).bind fun p6 => ((if p6.1 = 0 then some ((-1), p6.2) else gI v1 7 ((f_Hb_daysOfRide (sid 10 v1) v3 p6.2).bind fun p9 => (gI v2 7 ((f_Hb_daysOfRide (sid 10 v2) v3 p9.2).bind fun p11 => ((if p9.1 = p11.1 then some ((-4), p11.2) else (if p11.1 ≤ p9.1 then some (v2, p11.2) else some (v1, p11.2))))))))))))))
theorem m_Hb_race {g : GC} (hg : gOk g) (l : Launch)  (v1 : Int32) (v2 : Int32) (v3 : Int32) (x : XD) (z : ZD) (r : Int32 × XD) (h : f_Hb_race v1 v2 v3 x = some r) : Mi g l y_Hb_race c_Hb_race 6 (some .int) 5 [.ref (g_a g 0), .int v1, .int v2, .int v3] (x, z) r.1 (r.2, z) := by
  refine m_i hg pn_Hb rfl fun X q C => ?_
  refine k_sub (lv' := [(0, .ref (g_a g 0)), (1, .int v1), (2, .int v2), (3, .int v3)]) [0, 1, 2, 3] rfl ?_
  unfold f_Hb_race at h
  refine k_aload_n C d_Hb_race_0 0 rfl ?_
  refine k_iload_n C d_Hb_race_1 1 rfl ?_
  obtain ⟨p1, ep1, h⟩ := bd_some h
  refine k_callVi C q_Hb_103 (fun l => m_Hb_isHorse (cx_g C) l v1 x z p1 ep1) rfl rfl (rtI_c q) (by decide) sh_Hb rfl rfl rfl rfl d_Hb_race_2 ?_
  refine k_if_eq C 28 d_Hb_race_5 (by decide) (fun c2 => ?_) (fun c2 => ?_)
  · have h := (if_pos c2).symm.trans h
    refine k_iconst C (-1) d_Hb_race_28 ic_m1 ?_
    obtain rfl := Option.some.inj h
    exact k_iret C q d_Hb_race_29
  · have h := (if_neg c2).symm.trans h
    refine k_aload_n C d_Hb_race_8 0 rfl ?_
    refine k_iload_n C d_Hb_race_9 2 rfl ?_
    obtain ⟨p3, ep3, h⟩ := bd_some h
    refine k_callVi C q_Hb_103 (fun l => m_Hb_isHorse (cx_g C) l v2 p1.2 z p3 ep3) rfl rfl (rtI_c q) (by decide) sh_Hb rfl rfl rfl rfl d_Hb_race_10 ?_
    refine k_if_eq C 28 d_Hb_race_13 (by decide) (fun c4 => ?_) (fun c4 => ?_)
    · have h := (if_pos c4).symm.trans h
      refine k_iconst C (-1) d_Hb_race_28 ic_m1 ?_
      obtain rfl := Option.some.inj h
      exact k_iret C q d_Hb_race_29
    · have h := (if_neg c4).symm.trans h
      refine k_iload_n C d_Hb_race_16 1 rfl ?_
      refine k_iload_n C d_Hb_race_17 2 rfl ?_
      refine k_icmp_eq C 28 d_Hb_race_18 (by decide) (fun c5 => ?_) (fun c5 => ?_)
      · have h := (if_pos c5).symm.trans h
        refine k_iconst C (-1) d_Hb_race_28 ic_m1 ?_
        obtain rfl := Option.some.inj h
        exact k_iret C q d_Hb_race_29
      · have h := (if_neg c5).symm.trans h
        refine k_iload_n C d_Hb_race_21 3 rfl ?_
        obtain ⟨p6, ep6, h⟩ := bd_some h
        refine k_callSi C q_Hb_143 (fun l => m_Hb_isYard (cx_g C) l v3 p3.2 z p6 ep6) rfl rfl (rtI_c q) rfl rfl rfl d_Hb_race_22 ?_
        refine k_if_ne C 30 d_Hb_race_25 (by decide) (fun c7 => ?_) (fun c7 => ?_)
        · have h := (if_neg c7).symm.trans h
          refine k_aload_n C d_Hb_race_30 0 rfl ?_
          refine k_aload_n C d_Hb_race_31 0 rfl ?_
          refine kg_Hb_42 C d_Hb_race_32 ?_
          refine kg_Hb_107 C (by decide) d_Hb_race_35 ?_
          refine k_iload_n C d_Hb_race_38 1 rfl ?_
          obtain ⟨i8, h⟩ := gI_some h
          refine k_aald_St C (by decide) i8 d_Hb_race_39 ?_
          refine k_iload_n C d_Hb_race_40 3 rfl ?_
          obtain ⟨p9, ep9, h⟩ := bd_some h
          refine k_callVi C q_Hb_158 (fun l => m_Hb_daysOfRide (cx_g C) l (sid 10 v1) (sid_ok (by decide) i8) v3 p6.2 z p9 ep9) rfl rfl (rtI_c q) (by decide) sh_Hb rfl rfl rfl rfl d_Hb_race_41 ?_
          refine k_istore C (lv' := [(4, .int p9.1), (0, .ref (g_a g 0)), (1, .int v1), (2, .int v2), (3, .int v3)]) d_Hb_race_44 rfl rfl ?_
          refine k_aload_n C d_Hb_race_46 1 rfl ?_
          refine k_aload_n C d_Hb_race_47 1 rfl ?_
          refine kg_Hb_42 C d_Hb_race_48 ?_
          refine kg_Hb_107 C (by decide) d_Hb_race_51 ?_
          refine k_iload_n C d_Hb_race_54 3 rfl ?_
          obtain ⟨i10, h⟩ := gI_some h
          refine k_aald_St C (by decide) i10 d_Hb_race_55 ?_
          refine k_iload_n C d_Hb_race_56 4 rfl ?_
          obtain ⟨p11, ep11, h⟩ := bd_some h
          refine k_callVi C q_Hb_158 (fun l => m_Hb_daysOfRide (cx_g C) l (sid 10 v2) (sid_ok (by decide) i10) v3 p9.2 z p11 ep11) rfl rfl (rtI_c q) (by decide) sh_Hb rfl rfl rfl rfl d_Hb_race_57 ?_
          refine k_istore C (lv' := [(5, .int p11.1), (4, .int p9.1), (0, .ref (g_a g 0)), (1, .int v1), (2, .int v2), (3, .int v3)]) d_Hb_race_60 rfl rfl ?_
          refine k_iload C d_Hb_race_62 1 rfl ?_
          refine k_iload C d_Hb_race_64 0 rfl ?_
          refine k_icmp_ne C 72 d_Hb_race_66 (by decide) (fun c12 => ?_) (fun c12 => ?_)
          · have h := (if_neg c12).symm.trans h
            refine k_iload C d_Hb_race_72 1 rfl ?_
            refine k_iload C d_Hb_race_74 0 rfl ?_
            refine k_icmp_ge C 83 d_Hb_race_76 (by decide) (fun c13 => ?_) (fun c13 => ?_)
            · have h := (if_pos c13).symm.trans h
              refine k_iload_n C d_Hb_race_83 4 rfl ?_
              obtain rfl := Option.some.inj h
              exact k_iret C q d_Hb_race_84
            · have h := (if_neg c13).symm.trans h
              refine k_iload_n C d_Hb_race_79 3 rfl ?_
              refine k_goto C 84 d_Hb_race_80 (by decide) ?_
              obtain rfl := Option.some.inj h
              exact k_iret C q d_Hb_race_84
          · have h := (if_pos c12).symm.trans h
            refine k_bipush C (-4) d_Hb_race_69 bp_m4 ?_
            obtain rfl := Option.some.inj h
            exact k_iret C q d_Hb_race_71
        · have h := (if_pos c7).symm.trans h
          refine k_iconst C (-1) d_Hb_race_28 ic_m1 ?_
          obtain rfl := Option.some.inj h
          exact k_iret C q d_Hb_race_29

def f_Hb_rides (v1 : Int32) (v2 : Int32) (x : XD) : Option (Int32 × XD) := (f_Hb_isHorse v1 x).bind fun p1 => ((if p1.1 = 0 then some ((-1), p1.2) else (f_Hb_isYard v2 p1.2).bind fun p3 => ((if p3.1 = 0 then some ((-1), p3.2) else gI v1 7 ((f_Hb_daysOfRide (sid 10 v1) v2 p3.2).bind fun p6 => ((f_La_hasDays 10 p6.1 p6.2).bind fun p7 => ((if p7.1 = 0 then some ((-3), p7.2) else (f_La_ride 10 v1 v2 p7.2).bind fun p9 => (some (p9.1, p9.2))))))))))
theorem m_Hb_rides {g : GC} (hg : gOk g) (l : Launch)  (v1 : Int32) (v2 : Int32) (x : XD) (z : ZD) (r : Int32 × XD) (h : f_Hb_rides v1 v2 x = some r) : Mi g l y_Hb_rides c_Hb_rides 3 (some .int) 5 [.ref (g_a g 0), .int v1, .int v2] (x, z) r.1 (r.2, z) := by
  refine m_i hg pn_Hb rfl fun X q C => ?_
  refine k_sub (lv' := [(0, .ref (g_a g 0)), (1, .int v1), (2, .int v2)]) [0, 1, 2] rfl ?_
  unfold f_Hb_rides at h
  refine k_aload_n C d_Hb_rides_0 0 rfl ?_
  refine k_iload_n C d_Hb_rides_1 1 rfl ?_
  obtain ⟨p1, ep1, h⟩ := bd_some h
  refine k_callVi C q_Hb_103 (fun l => m_Hb_isHorse (cx_g C) l v1 x z p1 ep1) rfl rfl (rtI_c q) (by decide) sh_Hb rfl rfl rfl rfl d_Hb_rides_2 ?_
  refine k_if_eq C 15 d_Hb_rides_5 (by decide) (fun c2 => ?_) (fun c2 => ?_)
  · have h := (if_pos c2).symm.trans h
    refine k_iconst C (-1) d_Hb_rides_15 ic_m1 ?_
    obtain rfl := Option.some.inj h
    exact k_iret C q d_Hb_rides_16
  · have h := (if_neg c2).symm.trans h
    refine k_iload_n C d_Hb_rides_8 2 rfl ?_
    obtain ⟨p3, ep3, h⟩ := bd_some h
    refine k_callSi C q_Hb_143 (fun l => m_Hb_isYard (cx_g C) l v2 p1.2 z p3 ep3) rfl rfl (rtI_c q) rfl rfl rfl d_Hb_rides_9 ?_
    refine k_if_ne C 17 d_Hb_rides_12 (by decide) (fun c4 => ?_) (fun c4 => ?_)
    · have h := (if_neg c4).symm.trans h
      refine k_aload_n C d_Hb_rides_17 0 rfl ?_
      refine kg_Hb_42 C d_Hb_rides_18 ?_
      refine k_aload_n C d_Hb_rides_21 0 rfl ?_
      refine k_aload_n C d_Hb_rides_22 0 rfl ?_
      refine kg_Hb_42 C d_Hb_rides_23 ?_
      refine kg_Hb_107 C (by decide) d_Hb_rides_26 ?_
      refine k_iload_n C d_Hb_rides_29 1 rfl ?_
      obtain ⟨i5, h⟩ := gI_some h
      refine k_aald_St C (by decide) i5 d_Hb_rides_30 ?_
      refine k_iload_n C d_Hb_rides_31 2 rfl ?_
      obtain ⟨p6, ep6, h⟩ := bd_some h
      refine k_callVi C q_Hb_158 (fun l => m_Hb_daysOfRide (cx_g C) l (sid 10 v1) (sid_ok (by decide) i5) v2 p3.2 z p6 ep6) rfl rfl (rtI_c q) (by decide) sh_Hb rfl rfl rfl rfl d_Hb_rides_32 ?_
      obtain ⟨p7, ep7, h⟩ := bd_some h
      refine k_callVi C q_Hb_162 (fun l => m_La_hasDays (cx_g C) l 10 (by decide) p6.1 p6.2 z p7 ep7) rfl rfl (rtI_c q) (by decide) (sh_La (by decide)) rfl rfl rfl rfl d_Hb_rides_35 ?_
      refine k_if_ne C 44 d_Hb_rides_38 (by decide) (fun c8 => ?_) (fun c8 => ?_)
      · have h := (if_neg c8).symm.trans h
        refine k_aload_n C d_Hb_rides_44 0 rfl ?_
        refine kg_Hb_42 C d_Hb_rides_45 ?_
        refine k_iload_n C d_Hb_rides_48 1 rfl ?_
        refine k_iload_n C d_Hb_rides_49 2 rfl ?_
        obtain ⟨p9, ep9, h⟩ := bd_some h
        refine k_callVi C q_Hb_165 (fun l => m_La_ride (cx_g C) l 10 (by decide) v1 v2 p7.2 z p9 ep9) rfl rfl (rtI_c q) (by decide) (sh_La (by decide)) rfl rfl rfl rfl d_Hb_rides_50 ?_
        obtain rfl := Option.some.inj h
        exact k_iret C q d_Hb_rides_53
      · have h := (if_pos c8).symm.trans h
        refine k_bipush C (-3) d_Hb_rides_41 bp_m3 ?_
        obtain rfl := Option.some.inj h
        exact k_iret C q d_Hb_rides_43
    · have h := (if_pos c4).symm.trans h
      refine k_iconst C (-1) d_Hb_rides_15 ic_m1 ?_
      obtain rfl := Option.some.inj h
      exact k_iret C q d_Hb_rides_16

def b_Hb_soonest_75 (K35 : Int32 → Int32 → Int32 → XD → Option (Int32 × XD)) (v1 : Int32) (v2 : Int32) (v3 : Int32) (v4 : Int32) (v5 : Int32) (v6 : Int32) (x : XD) : Option (Int32 × XD) := K35 v4 v5 (v6 + 1) x
theorem t_Hb_soonest_75 {g : GC} {X : MX} (C : Cx g X c_Hb_soonest 8 n_Hb 5) {r : Int32 × XD} {z : ZD} (q : RtI g X (some .int) r.1 (r.2, z)) (v1 : Int32) (v2 : Int32) (v3 : Int32) (v4 : Int32) (v5 : Int32) (v6 : Int32) (K35 : Int32 → Int32 → Int32 → XD → Option (Int32 × XD)) (hK35 : ∀ (v4 : Int32) (v5 : Int32) (v6 : Int32) (x : XD), K35 v4 v5 v6 x = some r → Wk g X 8 35 [(0, .ref (g_a g 0)), (1, .int v1), (2, .int v2), (3, .int v3), (4, .int v4), (5, .int v5), (6, .int v6)] [] (x, z)) (x : XD) (h : b_Hb_soonest_75 K35 v1 v2 v3 v4 v5 v6 x = some r) : Wk g X 8 75 [(0, .ref (g_a g 0)), (1, .int v1), (2, .int v2), (3, .int v3), (4, .int v4), (5, .int v5), (6, .int v6)] [] (x, z) := by
  unfold b_Hb_soonest_75 at h
  refine k_inc C (lv' := [(6, .int (v6 + 1)), (0, .ref (g_a g 0)), (1, .int v1), (2, .int v2), (3, .int v3), (4, .int v4), (5, .int v5)]) d_Hb_soonest_75 6 rfl ic_1 rfl rfl ?_
  refine k_goto C 35 d_Hb_soonest_78 (by decide) ?_
  exact k_sub [1, 2, 3, 4, 5, 6, 0] rfl (hK35 v4 v5 (v6 + 1) x h)

def b_Hb_soonest_35 (v1 : Int32) (v2 : Int32) (v3 : Int32) : Nat → Int32 → Int32 → Int32 → XD → Option (Int32 × XD)
  | 0, _, _, _, _ => none
  | n + 1, v4, v5, v6, x => (if 30 < v6 then (if v3 = 0 then some (v4, x) else some (v5, x)) else gI v1 7 ((f_Hb_daysOfLaterRide (sid 10 v1) v6 v2 x).bind fun p4 => ((if v5 ≤ p4.1 then b_Hb_soonest_75 (b_Hb_soonest_35 v1 v2 v3 n) v1 v2 v3 v4 v5 v6 p4.2 else b_Hb_soonest_75 (b_Hb_soonest_35 v1 v2 v3 n) v1 v2 v3 v6 p4.1 v6 p4.2))))
theorem t_Hb_soonest_35 {g : GC} {X : MX} (C : Cx g X c_Hb_soonest 8 n_Hb 5) {r : Int32 × XD} {z : ZD} (q : RtI g X (some .int) r.1 (r.2, z)) (v1 : Int32) (v2 : Int32) (v3 : Int32) : ∀ (n : Nat) (v4 : Int32) (v5 : Int32) (v6 : Int32) (x : XD) (h : b_Hb_soonest_35 v1 v2 v3 n v4 v5 v6 x = some r), Wk g X 8 35 [(0, .ref (g_a g 0)), (1, .int v1), (2, .int v2), (3, .int v3), (4, .int v4), (5, .int v5), (6, .int v6)] [] (x, z) := by
  intro n
  induction n with
  | zero =>
    intro v4 v5 v6 x h
    rw [b_Hb_soonest_35] at h
    cases h
  | succ n ih =>
    intro v4 v5 v6 x h
    rw [b_Hb_soonest_35] at h
    refine k_iload C d_Hb_soonest_35 6 rfl ?_
    refine k_bipush C 30 d_Hb_soonest_37 bp_30 ?_
    refine k_icmp_gt C 81 d_Hb_soonest_39 (by decide) (fun c1 => ?_) (fun c1 => ?_)
    · have h := (if_pos c1).symm.trans h
      refine k_iload_n C d_Hb_soonest_81 3 rfl ?_
      refine k_if_ne C 90 d_Hb_soonest_82 (by decide) (fun c2 => ?_) (fun c2 => ?_)
      · have h := (if_neg c2).symm.trans h
        refine k_iload C d_Hb_soonest_90 5 rfl ?_
        obtain rfl := Option.some.inj h
        exact k_iret C q d_Hb_soonest_92
      · have h := (if_pos c2).symm.trans h
        refine k_iload C d_Hb_soonest_85 4 rfl ?_
        refine k_goto C 92 d_Hb_soonest_87 (by decide) ?_
        obtain rfl := Option.some.inj h
        exact k_iret C q d_Hb_soonest_92
    · have h := (if_neg c1).symm.trans h
      refine k_aload_n C d_Hb_soonest_42 0 rfl ?_
      refine k_aload_n C d_Hb_soonest_43 0 rfl ?_
      refine kg_Hb_42 C d_Hb_soonest_44 ?_
      refine kg_Hb_107 C (by decide) d_Hb_soonest_47 ?_
      refine k_iload_n C d_Hb_soonest_50 1 rfl ?_
      obtain ⟨i3, h⟩ := gI_some h
      refine k_aald_St C (by decide) i3 d_Hb_soonest_51 ?_
      refine k_iload C d_Hb_soonest_52 6 rfl ?_
      refine k_iload_n C d_Hb_soonest_54 2 rfl ?_
      obtain ⟨p4, ep4, h⟩ := bd_some h
      refine k_callVi C q_Hb_198 (fun l => m_Hb_daysOfLaterRide (cx_g C) l (sid 10 v1) (sid_ok (by decide) i3) v6 v2 x z p4 ep4) rfl rfl (rtI_c q) (by decide) sh_Hb rfl rfl rfl rfl d_Hb_soonest_55 ?_
      refine k_istore C (lv' := [(7, .int p4.1), (0, .ref (g_a g 0)), (1, .int v1), (2, .int v2), (3, .int v3), (4, .int v4), (5, .int v5), (6, .int v6)]) d_Hb_soonest_58 rfl rfl ?_
      refine k_iload C d_Hb_soonest_60 0 rfl ?_
      refine k_iload C d_Hb_soonest_62 6 rfl ?_
      refine k_icmp_ge C 75 d_Hb_soonest_64 (by decide) (fun c5 => ?_) (fun c5 => ?_)
      · have h := (if_pos c5).symm.trans h
        exact k_sub [1, 2, 3, 4, 5, 6, 7] rfl (t_Hb_soonest_75 C q v1 v2 v3 v4 v5 v6 (b_Hb_soonest_35 v1 v2 v3 n) ih p4.2 h)
      · have h := (if_neg c5).symm.trans h
        refine k_iload C d_Hb_soonest_67 0 rfl ?_
        refine k_istore C (lv' := [(5, .int p4.1), (7, .int p4.1), (0, .ref (g_a g 0)), (1, .int v1), (2, .int v2), (3, .int v3), (4, .int v4), (6, .int v6)]) d_Hb_soonest_69 rfl rfl ?_
        refine k_iload C d_Hb_soonest_71 7 rfl ?_
        refine k_istore C (lv' := [(4, .int v6), (5, .int p4.1), (7, .int p4.1), (0, .ref (g_a g 0)), (1, .int v1), (2, .int v2), (3, .int v3), (6, .int v6)]) d_Hb_soonest_73 rfl rfl ?_
        exact k_sub [3, 4, 5, 6, 0, 1, 7] rfl (t_Hb_soonest_75 C q v1 v2 v3 v6 p4.1 v6 (b_Hb_soonest_35 v1 v2 v3 n) ih p4.2 h)

def f_Hb_soonest (v1 : Int32) (v2 : Int32) (v3 : Int32) (x : XD) : Option (Int32 × XD) := (f_Hb_isHorse v1 x).bind fun p1 => ((if p1.1 = 0 then some ((-1), p1.2) else (f_Hb_isYard v2 p1.2).bind fun p3 => ((if p3.1 = 0 then some ((-1), p3.2) else (f_Hb_isEither v3 p3.2).bind fun p5 => ((if p5.1 = 0 then some ((-1), p5.2) else b_Hb_soonest_35 v1 v2 v3 fu 0 1000 0 p5.2))))))
theorem m_Hb_soonest {g : GC} (hg : gOk g) (l : Launch)  (v1 : Int32) (v2 : Int32) (v3 : Int32) (x : XD) (z : ZD) (r : Int32 × XD) (h : f_Hb_soonest v1 v2 v3 x = some r) : Mi g l y_Hb_soonest c_Hb_soonest 8 (some .int) 5 [.ref (g_a g 0), .int v1, .int v2, .int v3] (x, z) r.1 (r.2, z) := by
  refine m_i hg pn_Hb rfl fun X q C => ?_
  refine k_sub (lv' := [(0, .ref (g_a g 0)), (1, .int v1), (2, .int v2), (3, .int v3)]) [0, 1, 2, 3] rfl ?_
  unfold f_Hb_soonest at h
  refine k_aload_n C d_Hb_soonest_0 0 rfl ?_
  refine k_iload_n C d_Hb_soonest_1 1 rfl ?_
  obtain ⟨p1, ep1, h⟩ := bd_some h
  refine k_callVi C q_Hb_103 (fun l => m_Hb_isHorse (cx_g C) l v1 x z p1 ep1) rfl rfl (rtI_c q) (by decide) sh_Hb rfl rfl rfl rfl d_Hb_soonest_2 ?_
  refine k_if_eq C 22 d_Hb_soonest_5 (by decide) (fun c2 => ?_) (fun c2 => ?_)
  · have h := (if_pos c2).symm.trans h
    refine k_iconst C (-1) d_Hb_soonest_22 ic_m1 ?_
    obtain rfl := Option.some.inj h
    exact k_iret C q d_Hb_soonest_23
  · have h := (if_neg c2).symm.trans h
    refine k_iload_n C d_Hb_soonest_8 2 rfl ?_
    obtain ⟨p3, ep3, h⟩ := bd_some h
    refine k_callSi C q_Hb_143 (fun l => m_Hb_isYard (cx_g C) l v2 p1.2 z p3 ep3) rfl rfl (rtI_c q) rfl rfl rfl d_Hb_soonest_9 ?_
    refine k_if_eq C 22 d_Hb_soonest_12 (by decide) (fun c4 => ?_) (fun c4 => ?_)
    · have h := (if_pos c4).symm.trans h
      refine k_iconst C (-1) d_Hb_soonest_22 ic_m1 ?_
      obtain rfl := Option.some.inj h
      exact k_iret C q d_Hb_soonest_23
    · have h := (if_neg c4).symm.trans h
      refine k_iload_n C d_Hb_soonest_15 3 rfl ?_
      obtain ⟨p5, ep5, h⟩ := bd_some h
      refine k_callSi C q_Hb_180 (fun l => m_Hb_isEither (cx_g C) l v3 p3.2 z p5 ep5) rfl rfl (rtI_c q) rfl rfl rfl d_Hb_soonest_16 ?_
      refine k_if_ne C 24 d_Hb_soonest_19 (by decide) (fun c6 => ?_) (fun c6 => ?_)
      · have h := (if_neg c6).symm.trans h
        refine k_iconst C 0 d_Hb_soonest_24 ic_0 ?_
        refine k_istore C (lv' := [(4, .int 0), (0, .ref (g_a g 0)), (1, .int v1), (2, .int v2), (3, .int v3)]) d_Hb_soonest_25 rfl rfl ?_
        refine k_sipush C 1000 d_Hb_soonest_27 sp_1000 ?_
        refine k_istore C (lv' := [(5, .int 1000), (4, .int 0), (0, .ref (g_a g 0)), (1, .int v1), (2, .int v2), (3, .int v3)]) d_Hb_soonest_30 rfl rfl ?_
        refine k_iconst C 0 d_Hb_soonest_32 ic_0 ?_
        refine k_istore C (lv' := [(6, .int 0), (5, .int 1000), (4, .int 0), (0, .ref (g_a g 0)), (1, .int v1), (2, .int v2), (3, .int v3)]) d_Hb_soonest_33 rfl rfl ?_
        exact k_sub [3, 4, 5, 6, 2, 1, 0] rfl (t_Hb_soonest_35 C q v1 v2 v3 fu 0 1000 0 p5.2 h)
      · have h := (if_pos c6).symm.trans h
        refine k_iconst C (-1) d_Hb_soonest_22 ic_m1 ?_
        obtain rfl := Option.some.inj h
        exact k_iret C q d_Hb_soonest_23

def f_Hb_whatIs (v1 : Int32) (v2 : Int32) (v3 : Int32) (v4 : Int32) (x : XD) : Option (Int32 × XD) := (f_Hb_isHorse v2 x).bind fun p1 => ((if p1.1 = 0 then some ((-1), p1.2) else (f_Hb_isYard v3 p1.2).bind fun p3 => ((if p3.1 = 0 then some ((-1), p3.2) else (f_Hb_isEither v4 p3.2).bind fun p5 => ((if p5.1 = 0 then some ((-1), p5.2) else (f_Hb_refusalOfRow v1 p5.2).bind fun p7 => ((if p7.1 = 0 then (if v4 = 0 then gI v1 8 ((f_Hb_kindsTold (hid v1) v2 v3 p7.2).bind fun p13 => (some (p13.1, p13.2))) else gI v1 8 ((f_Hb_figuresTold (hid v1) v2 v3 p7.2).bind fun p11 => (some (p11.1, p11.2)))) else some (p7.1, p7.2)))))))))
theorem m_Hb_whatIs {g : GC} (hg : gOk g) (l : Launch)  (v1 : Int32) (v2 : Int32) (v3 : Int32) (v4 : Int32) (x : XD) (z : ZD) (r : Int32 × XD) (h : f_Hb_whatIs v1 v2 v3 v4 x = some r) : Mi g l y_Hb_whatIs c_Hb_whatIs 6 (some .int) 5 [.ref (g_a g 0), .int v1, .int v2, .int v3, .int v4] (x, z) r.1 (r.2, z) := by
  refine m_i hg pn_Hb rfl fun X q C => ?_
  refine k_sub (lv' := [(0, .ref (g_a g 0)), (1, .int v1), (2, .int v2), (3, .int v3), (4, .int v4)]) [0, 1, 2, 3, 4] rfl ?_
  unfold f_Hb_whatIs at h
  refine k_aload_n C d_Hb_whatIs_0 0 rfl ?_
  refine k_iload_n C d_Hb_whatIs_1 2 rfl ?_
  obtain ⟨p1, ep1, h⟩ := bd_some h
  refine k_callVi C q_Hb_103 (fun l => m_Hb_isHorse (cx_g C) l v2 x z p1 ep1) rfl rfl (rtI_c q) (by decide) sh_Hb rfl rfl rfl rfl d_Hb_whatIs_2 ?_
  refine k_if_eq C 23 d_Hb_whatIs_5 (by decide) (fun c2 => ?_) (fun c2 => ?_)
  · have h := (if_pos c2).symm.trans h
    refine k_iconst C (-1) d_Hb_whatIs_23 ic_m1 ?_
    obtain rfl := Option.some.inj h
    exact k_iret C q d_Hb_whatIs_24
  · have h := (if_neg c2).symm.trans h
    refine k_iload_n C d_Hb_whatIs_8 3 rfl ?_
    obtain ⟨p3, ep3, h⟩ := bd_some h
    refine k_callSi C q_Hb_143 (fun l => m_Hb_isYard (cx_g C) l v3 p1.2 z p3 ep3) rfl rfl (rtI_c q) rfl rfl rfl d_Hb_whatIs_9 ?_
    refine k_if_eq C 23 d_Hb_whatIs_12 (by decide) (fun c4 => ?_) (fun c4 => ?_)
    · have h := (if_pos c4).symm.trans h
      refine k_iconst C (-1) d_Hb_whatIs_23 ic_m1 ?_
      obtain rfl := Option.some.inj h
      exact k_iret C q d_Hb_whatIs_24
    · have h := (if_neg c4).symm.trans h
      refine k_iload C d_Hb_whatIs_15 4 rfl ?_
      obtain ⟨p5, ep5, h⟩ := bd_some h
      refine k_callSi C q_Hb_180 (fun l => m_Hb_isEither (cx_g C) l v4 p3.2 z p5 ep5) rfl rfl (rtI_c q) rfl rfl rfl d_Hb_whatIs_17 ?_
      refine k_if_ne C 25 d_Hb_whatIs_20 (by decide) (fun c6 => ?_) (fun c6 => ?_)
      · have h := (if_neg c6).symm.trans h
        refine k_aload_n C d_Hb_whatIs_25 0 rfl ?_
        refine k_iload_n C d_Hb_whatIs_26 1 rfl ?_
        obtain ⟨p7, ep7, h⟩ := bd_some h
        refine k_callVi C q_Hb_73 (fun l => m_Hb_refusalOfRow (cx_g C) l v1 p5.2 z p7 ep7) rfl rfl (rtI_c q) (by decide) sh_Hb rfl rfl rfl rfl d_Hb_whatIs_27 ?_
        refine k_istore C (lv' := [(5, .int p7.1), (0, .ref (g_a g 0)), (1, .int v1), (2, .int v2), (3, .int v3), (4, .int v4)]) d_Hb_whatIs_30 rfl rfl ?_
        refine k_iload C d_Hb_whatIs_32 0 rfl ?_
        refine k_if_eq C 40 d_Hb_whatIs_34 (by decide) (fun c8 => ?_) (fun c8 => ?_)
        · have h := (if_pos c8).symm.trans h
          refine k_iload C d_Hb_whatIs_40 5 rfl ?_
          refine k_if_ne C 60 d_Hb_whatIs_42 (by decide) (fun c9 => ?_) (fun c9 => ?_)
          · have h := (if_neg c9).symm.trans h
            refine k_aload_n C d_Hb_whatIs_60 1 rfl ?_
            refine k_aload_n C d_Hb_whatIs_61 1 rfl ?_
            refine kg_Hb_64 C d_Hb_whatIs_62 ?_
            refine k_iload_n C d_Hb_whatIs_65 2 rfl ?_
            obtain ⟨i10, h⟩ := gI_some h
            refine k_aald_Sh C i10 d_Hb_whatIs_66 ?_
            refine k_iload_n C d_Hb_whatIs_67 3 rfl ?_
            refine k_iload_n C d_Hb_whatIs_68 4 rfl ?_
            obtain ⟨p11, ep11, h⟩ := bd_some h
            refine k_callVi C q_Hb_223 (fun l => m_Hb_figuresTold (cx_g C) l (hid v1) (hid_ok i10) v2 v3 p7.2 z p11 ep11) rfl rfl (rtI_c q) (by decide) sh_Hb rfl rfl rfl rfl d_Hb_whatIs_69 ?_
            obtain rfl := Option.some.inj h
            exact k_iret C q d_Hb_whatIs_72
          · have h := (if_pos c9).symm.trans h
            refine k_aload_n C d_Hb_whatIs_45 1 rfl ?_
            refine k_aload_n C d_Hb_whatIs_46 1 rfl ?_
            refine kg_Hb_64 C d_Hb_whatIs_47 ?_
            refine k_iload_n C d_Hb_whatIs_50 2 rfl ?_
            obtain ⟨i12, h⟩ := gI_some h
            refine k_aald_Sh C i12 d_Hb_whatIs_51 ?_
            refine k_iload_n C d_Hb_whatIs_52 3 rfl ?_
            refine k_iload_n C d_Hb_whatIs_53 4 rfl ?_
            obtain ⟨p13, ep13, h⟩ := bd_some h
            refine k_callVi C q_Hb_219 (fun l => m_Hb_kindsTold (cx_g C) l (hid v1) (hid_ok i12) v2 v3 p7.2 z p13 ep13) rfl rfl (rtI_c q) (by decide) sh_Hb rfl rfl rfl rfl d_Hb_whatIs_54 ?_
            refine k_goto C 72 d_Hb_whatIs_57 (by decide) ?_
            obtain rfl := Option.some.inj h
            exact k_iret C q d_Hb_whatIs_72
        · have h := (if_neg c8).symm.trans h
          refine k_iload C d_Hb_whatIs_37 0 rfl ?_
          obtain rfl := Option.some.inj h
          exact k_iret C q d_Hb_whatIs_39
      · have h := (if_pos c6).symm.trans h
        refine k_iconst C (-1) d_Hb_whatIs_23 ic_m1 ?_
        obtain rfl := Option.some.inj h
        exact k_iret C q d_Hb_whatIs_24

def b_Hb_fees_99 (K50 : Int32 → Int32 → Int32 → XD → Option (Int32 × XD)) (v2 : Int32) (v3 : Int32) (v4 : Int32) (v5 : Int32) (x : XD) : Option (Int32 × XD) := K50 v3 v4 (v5 + 1) x
theorem t_Hb_fees_99 {g : GC} {X : MX} (C : Cx g X c_Hb_fees 7 n_Hb 6) {r : Int32 × XD} {z : ZD} (q : RtI g X (some .int) r.1 (r.2, z)) (v2 : Int32) (v3 : Int32) (v4 : Int32) (v5 : Int32) (K50 : Int32 → Int32 → Int32 → XD → Option (Int32 × XD)) (hK50 : ∀ (v3 : Int32) (v4 : Int32) (v5 : Int32) (x : XD), K50 v3 v4 v5 x = some r → Wk g X 7 50 [(0, .ref (g_a g 0)), (2, .int v2), (3, .int v3), (4, .int v4), (5, .int v5)] [] (x, z)) (x : XD) (h : b_Hb_fees_99 K50 v2 v3 v4 v5 x = some r) : Wk g X 7 99 [(0, .ref (g_a g 0)), (2, .int v2), (3, .int v3), (4, .int v4), (5, .int v5)] [] (x, z) := by
  unfold b_Hb_fees_99 at h
  refine k_inc C (lv' := [(5, .int (v5 + 1)), (0, .ref (g_a g 0)), (2, .int v2), (3, .int v3), (4, .int v4)]) d_Hb_fees_99 4 rfl ic_1 rfl rfl ?_
  refine k_goto C 50 d_Hb_fees_102 (by decide) ?_
  exact k_sub [1, 2, 3, 4, 0] rfl (hK50 v3 v4 (v5 + 1) x h)

def b_Hb_fees_92 (K50 : Int32 → Int32 → Int32 → XD → Option (Int32 × XD)) (v2 : Int32) (v5 : Int32) (v6 : Int32) (x : XD) : Option (Int32 × XD) := b_Hb_fees_99 K50 v2 v5 v6 v5 x
theorem t_Hb_fees_92 {g : GC} {X : MX} (C : Cx g X c_Hb_fees 7 n_Hb 6) {r : Int32 × XD} {z : ZD} (q : RtI g X (some .int) r.1 (r.2, z)) (v2 : Int32) (v5 : Int32) (v6 : Int32) (K50 : Int32 → Int32 → Int32 → XD → Option (Int32 × XD)) (hK50 : ∀ (v3 : Int32) (v4 : Int32) (v5 : Int32) (x : XD), K50 v3 v4 v5 x = some r → Wk g X 7 50 [(0, .ref (g_a g 0)), (2, .int v2), (3, .int v3), (4, .int v4), (5, .int v5)] [] (x, z)) (x : XD) (h : b_Hb_fees_92 K50 v2 v5 v6 x = some r) : Wk g X 7 92 [(0, .ref (g_a g 0)), (2, .int v2), (5, .int v5), (6, .int v6)] [] (x, z) := by
  unfold b_Hb_fees_92 at h
  refine k_iload C d_Hb_fees_92 3 rfl ?_
  refine k_istore C (lv' := [(4, .int v6), (0, .ref (g_a g 0)), (2, .int v2), (5, .int v5), (6, .int v6)]) d_Hb_fees_94 rfl rfl ?_
  refine k_iload C d_Hb_fees_96 3 rfl ?_
  refine k_istore_n C (lv' := [(3, .int v5), (4, .int v6), (0, .ref (g_a g 0)), (2, .int v2), (5, .int v5), (6, .int v6)]) d_Hb_fees_98 rfl rfl ?_
  exact k_sub [2, 3, 0, 1, 4] rfl (t_Hb_fees_99 C q v2 v5 v6 v5 K50 hK50 x h)

def b_Hb_fees_50 (v2 : Int32) : Nat → Int32 → Int32 → Int32 → XD → Option (Int32 × XD)
  | 0, _, _, _, _ => none
  | n + 1, v3, v4, v5, x => (if x 10 2 ≤ v5 then some (v3, x) else gI v5 7 ((f_Hb_feesOf (sid 10 v5) v2 x).bind fun p3 => ((if v3 = (-4) then b_Hb_fees_92 (b_Hb_fees_50 v2 n) v2 v5 p3.1 p3.2 else (if v4 ≤ p3.1 then b_Hb_fees_99 (b_Hb_fees_50 v2 n) v2 v3 v4 v5 p3.2 else b_Hb_fees_92 (b_Hb_fees_50 v2 n) v2 v5 p3.1 p3.2)))))
theorem t_Hb_fees_50 {g : GC} {X : MX} (C : Cx g X c_Hb_fees 7 n_Hb 6) {r : Int32 × XD} {z : ZD} (q : RtI g X (some .int) r.1 (r.2, z)) (v2 : Int32) : ∀ (n : Nat) (v3 : Int32) (v4 : Int32) (v5 : Int32) (x : XD) (h : b_Hb_fees_50 v2 n v3 v4 v5 x = some r), Wk g X 7 50 [(0, .ref (g_a g 0)), (2, .int v2), (3, .int v3), (4, .int v4), (5, .int v5)] [] (x, z) := by
  intro n
  induction n with
  | zero =>
    intro v3 v4 v5 x h
    rw [b_Hb_fees_50] at h
    cases h
  | succ n ih =>
    intro v3 v4 v5 x h
    rw [b_Hb_fees_50] at h
    refine k_iload C d_Hb_fees_50 4 rfl ?_
    refine k_aload_n C d_Hb_fees_52 0 rfl ?_
    refine kg_Hb_42 C d_Hb_fees_53 ?_
    refine kg_Hb_149 C (by decide) d_Hb_fees_56 ?_
    refine k_icmp_ge C 105 d_Hb_fees_59 (by decide) (fun c1 => ?_) (fun c1 => ?_)
    · have h := (if_pos c1).symm.trans h
      refine k_iload_n C d_Hb_fees_105 2 rfl ?_
      obtain rfl := Option.some.inj h
      exact k_iret C q d_Hb_fees_106
    · have h := (if_neg c1).symm.trans h
      refine k_aload_n C d_Hb_fees_62 0 rfl ?_
      refine k_aload_n C d_Hb_fees_63 0 rfl ?_
      refine kg_Hb_42 C d_Hb_fees_64 ?_
      refine kg_Hb_107 C (by decide) d_Hb_fees_67 ?_
      refine k_iload C d_Hb_fees_70 4 rfl ?_
      obtain ⟨i2, h⟩ := gI_some h
      refine k_aald_St C (by decide) i2 d_Hb_fees_72 ?_
      refine k_iload_n C d_Hb_fees_73 1 rfl ?_
      obtain ⟨p3, ep3, h⟩ := bd_some h
      refine k_callVi C q_Hb_207 (fun l => m_Hb_feesOf (cx_g C) l (sid 10 v5) (sid_ok (by decide) i2) v2 x z p3 ep3) rfl rfl (rtI_c q) (by decide) sh_Hb rfl rfl rfl rfl d_Hb_fees_74 ?_
      refine k_istore C (lv' := [(6, .int p3.1), (0, .ref (g_a g 0)), (2, .int v2), (3, .int v3), (4, .int v4), (5, .int v5)]) d_Hb_fees_77 rfl rfl ?_
      refine k_iload_n C d_Hb_fees_79 3 rfl ?_
      refine k_bipush C (-4) d_Hb_fees_80 bp_m4 ?_
      refine k_icmp_eq C 92 d_Hb_fees_82 (by decide) (fun c4 => ?_) (fun c4 => ?_)
      · have h := (if_pos c4).symm.trans h
        exact k_sub [1, 2, 5, 0] rfl (t_Hb_fees_92 C q v2 v5 p3.1 (b_Hb_fees_50 v2 n) ih p3.2 h)
      · have h := (if_neg c4).symm.trans h
        refine k_iload C d_Hb_fees_85 0 rfl ?_
        refine k_iload C d_Hb_fees_87 4 rfl ?_
        refine k_icmp_ge C 99 d_Hb_fees_89 (by decide) (fun c5 => ?_) (fun c5 => ?_)
        · have h := (if_pos c5).symm.trans h
          exact k_sub [1, 2, 3, 4, 5] rfl (t_Hb_fees_99 C q v2 v3 v4 v5 (b_Hb_fees_50 v2 n) ih p3.2 h)
        · have h := (if_neg c5).symm.trans h
          exact k_sub [1, 2, 5, 0] rfl (t_Hb_fees_92 C q v2 v5 p3.1 (b_Hb_fees_50 v2 n) ih p3.2 h)

def b_Hb_fees_22 (v1 : Int32) (v2 : Int32) (x : XD) : Option (Int32 × XD) := (if v1 < 0 then b_Hb_fees_50 v2 fu (-4) 0 0 x else gI v1 7 ((f_Hb_feesOf (sid 10 v1) v2 x).bind fun p3 => (some (p3.1, p3.2))))
theorem t_Hb_fees_22 {g : GC} {X : MX} (C : Cx g X c_Hb_fees 7 n_Hb 6) {r : Int32 × XD} {z : ZD} (q : RtI g X (some .int) r.1 (r.2, z)) (v1 : Int32) (v2 : Int32) (x : XD) (h : b_Hb_fees_22 v1 v2 x = some r) : Wk g X 7 22 [(0, .ref (g_a g 0)), (1, .int v1), (2, .int v2)] [] (x, z) := by
  unfold b_Hb_fees_22 at h
  refine k_iload_n C d_Hb_fees_22 1 rfl ?_
  refine k_if_lt C 41 d_Hb_fees_23 (by decide) (fun c1 => ?_) (fun c1 => ?_)
  · have h := (if_pos c1).symm.trans h
    refine k_bipush C (-4) d_Hb_fees_41 bp_m4 ?_
    refine k_istore_n C (lv' := [(3, .int (-4)), (0, .ref (g_a g 0)), (1, .int v1), (2, .int v2)]) d_Hb_fees_43 rfl rfl ?_
    refine k_iconst C 0 d_Hb_fees_44 ic_0 ?_
    refine k_istore C (lv' := [(4, .int 0), (3, .int (-4)), (0, .ref (g_a g 0)), (1, .int v1), (2, .int v2)]) d_Hb_fees_45 rfl rfl ?_
    refine k_iconst C 0 d_Hb_fees_47 ic_0 ?_
    refine k_istore C (lv' := [(5, .int 0), (4, .int 0), (3, .int (-4)), (0, .ref (g_a g 0)), (1, .int v1), (2, .int v2)]) d_Hb_fees_48 rfl rfl ?_
    exact k_sub [3, 5, 2, 1, 0] rfl (t_Hb_fees_50 C q v2 fu (-4) 0 0 x h)
  · have h := (if_neg c1).symm.trans h
    refine k_aload_n C d_Hb_fees_26 0 rfl ?_
    refine k_aload_n C d_Hb_fees_27 0 rfl ?_
    refine kg_Hb_42 C d_Hb_fees_28 ?_
    refine kg_Hb_107 C (by decide) d_Hb_fees_31 ?_
    refine k_iload_n C d_Hb_fees_34 1 rfl ?_
    obtain ⟨i2, h⟩ := gI_some h
    refine k_aald_St C (by decide) i2 d_Hb_fees_35 ?_
    refine k_iload_n C d_Hb_fees_36 2 rfl ?_
    obtain ⟨p3, ep3, h⟩ := bd_some h
    refine k_callVi C q_Hb_207 (fun l => m_Hb_feesOf (cx_g C) l (sid 10 v1) (sid_ok (by decide) i2) v2 x z p3 ep3) rfl rfl (rtI_c q) (by decide) sh_Hb rfl rfl rfl rfl d_Hb_fees_37 ?_
    obtain rfl := Option.some.inj h
    exact k_iret C q d_Hb_fees_40

def f_Hb_fees (v1 : Int32) (v2 : Int32) (x : XD) : Option (Int32 × XD) := (f_Hb_isYard v2 x).bind fun p1 => ((if p1.1 = 0 then some ((-1), p1.2) else (if v1 = (-1) then b_Hb_fees_22 v1 v2 p1.2 else (f_Hb_isHorse v1 p1.2).bind fun p4 => ((if p4.1 = 0 then some ((-1), p4.2) else b_Hb_fees_22 v1 v2 p4.2)))))
theorem m_Hb_fees {g : GC} (hg : gOk g) (l : Launch)  (v1 : Int32) (v2 : Int32) (x : XD) (z : ZD) (r : Int32 × XD) (h : f_Hb_fees v1 v2 x = some r) : Mi g l y_Hb_fees c_Hb_fees 7 (some .int) 6 [.ref (g_a g 0), .int v1, .int v2] (x, z) r.1 (r.2, z) := by
  refine m_i hg pn_Hb rfl fun X q C => ?_
  refine k_sub (lv' := [(0, .ref (g_a g 0)), (1, .int v1), (2, .int v2)]) [0, 1, 2] rfl ?_
  unfold f_Hb_fees at h
  refine k_iload_n C d_Hb_fees_0 2 rfl ?_
  obtain ⟨p1, ep1, h⟩ := bd_some h
  refine k_callSi C q_Hb_143 (fun l => m_Hb_isYard (cx_g C) l v2 x z p1 ep1) rfl rfl (rtI_c q) rfl rfl rfl d_Hb_fees_1 ?_
  refine k_if_eq C 20 d_Hb_fees_4 (by decide) (fun c2 => ?_) (fun c2 => ?_)
  · have h := (if_pos c2).symm.trans h
    refine k_iconst C (-1) d_Hb_fees_20 ic_m1 ?_
    obtain rfl := Option.some.inj h
    exact k_iret C q d_Hb_fees_21
  · have h := (if_neg c2).symm.trans h
    refine k_iload_n C d_Hb_fees_7 1 rfl ?_
    refine k_iconst C (-1) d_Hb_fees_8 ic_m1 ?_
    refine k_icmp_eq C 22 d_Hb_fees_9 (by decide) (fun c3 => ?_) (fun c3 => ?_)
    · have h := (if_pos c3).symm.trans h
      exact k_sub [0, 1, 2] rfl (t_Hb_fees_22 C q v1 v2 p1.2 h)
    · have h := (if_neg c3).symm.trans h
      refine k_aload_n C d_Hb_fees_12 0 rfl ?_
      refine k_iload_n C d_Hb_fees_13 1 rfl ?_
      obtain ⟨p4, ep4, h⟩ := bd_some h
      refine k_callVi C q_Hb_103 (fun l => m_Hb_isHorse (cx_g C) l v1 p1.2 z p4 ep4) rfl rfl (rtI_c q) (by decide) sh_Hb rfl rfl rfl rfl d_Hb_fees_14 ?_
      refine k_if_ne C 22 d_Hb_fees_17 (by decide) (fun c5 => ?_) (fun c5 => ?_)
      · have h := (if_neg c5).symm.trans h
        exact k_sub [0, 1, 2] rfl (t_Hb_fees_22 C q v1 v2 p4.2 h)
      · have h := (if_pos c5).symm.trans h
        refine k_iconst C (-1) d_Hb_fees_20 ic_m1 ?_
        obtain rfl := Option.some.inj h
        exact k_iret C q d_Hb_fees_21

def b_Hb_land_71 (o3 : Nat) : Nat → Int32 → Int32 → XD → Option (Int32 × XD)
  | 0, _, _, _ => none
  | n + 1, v6, v7, x => (if x o3 4 ≤ v7 then (f_La_become 10 12 x).bind fun p2 => (some (v6, p2.2)) else (f_La_follow 12 o3 v7 x).bind fun p3 => ((if p3.1 = 0 then some ((-2000) - v7, p3.2) else gI v7 100 ((f_Hb_digitsBehind (p3.2 (o3 + 8) v7.toNatClampNeg) p3.2).bind fun p6 => (b_Hb_land_71 o3 n (v6 + 1) (v7 + (p6.1 + 2)) p6.2)))))
theorem t_Hb_land_71 {g : GC} {X : MX} (C : Cx g X c_Hb_land 8 n_Hb 6) {r : Int32 × XD} {z : ZD} (q : RtI g X (some .int) r.1 (r.2, z)) (o3 : Nat) (h_o3 : 67 ≤ o3 ∧ o3 < 75) : ∀ (n : Nat) (v6 : Int32) (v7 : Int32) (x : XD) (h : b_Hb_land_71 o3 n v6 v7 x = some r), Wk g X 8 71 [(0, .ref (g_a g 0)), (3, .ref (g_a g o3)), (5, .ref (g_a g 12)), (6, .int v6), (7, .int v7)] [] (x, z) := by
  intro n
  induction n with
  | zero =>
    intro v6 v7 x h
    rw [b_Hb_land_71] at h
    cases h
  | succ n ih =>
    intro v6 v7 x h
    rw [b_Hb_land_71] at h
    refine k_iload C d_Hb_land_71 4 rfl ?_
    refine k_aload_n C d_Hb_land_73 1 rfl ?_
    refine kg_Hb_89 C h_o3 d_Hb_land_74 ?_
    refine k_icmp_ge C 121 d_Hb_land_77 (by decide) (fun c1 => ?_) (fun c1 => ?_)
    · have h := (if_pos c1).symm.trans h
      refine k_aload_n C d_Hb_land_121 0 rfl ?_
      refine kg_Hb_42 C d_Hb_land_122 ?_
      refine k_aload C d_Hb_land_125 2 rfl ?_
      obtain ⟨p2, ep2, h⟩ := bd_some h
      refine k_callVv C q_Hb_85 (fun l => m_La_become (cx_g C) l 10 (by decide) 12 (by decide) x z p2 ep2) rfl rfl (rtI_c q) (by decide) (sh_La (by decide)) rfl rfl rfl rfl d_Hb_land_127 ?_
      refine k_iload C d_Hb_land_130 3 rfl ?_
      obtain rfl := Option.some.inj h
      exact k_iret C q d_Hb_land_132
    · have h := (if_neg c1).symm.trans h
      refine k_aload C d_Hb_land_80 2 rfl ?_
      refine k_aload_n C d_Hb_land_82 1 rfl ?_
      refine k_iload C d_Hb_land_83 4 rfl ?_
      obtain ⟨p3, ep3, h⟩ := bd_some h
      refine k_callVi C q_Hb_92 (fun l => m_La_follow (cx_g C) l 12 (by decide) o3 h_o3 v7 x z p3 ep3) rfl rfl (rtI_c q) (by decide) (sh_La (by decide)) rfl rfl rfl rfl d_Hb_land_85 ?_
      refine k_if_ne C 98 d_Hb_land_88 (by decide) (fun c4 => ?_) (fun c4 => ?_)
      · have h := (if_neg c4).symm.trans h
        refine k_inc C (lv' := [(6, .int (v6 + 1)), (0, .ref (g_a g 0)), (3, .ref (g_a g o3)), (5, .ref (g_a g 12)), (7, .int v7)]) d_Hb_land_98 3 rfl ic_1 rfl rfl ?_
        refine k_iload C d_Hb_land_101 4 rfl ?_
        refine k_aload_n C d_Hb_land_103 2 rfl ?_
        refine kg_Hb_96 C h_o3 d_Hb_land_104 ?_
        refine k_iload C d_Hb_land_107 4 rfl ?_
        obtain ⟨i5, h⟩ := gI_some h
        refine k_ialdE C h_o3 i5 d_Hb_land_109 ?_
        obtain ⟨p6, ep6, h⟩ := bd_some h
        refine k_callSi C q_Hb_100 (fun l => m_Hb_digitsBehind (cx_g C) l (p3.2 (o3 + 8) v7.toNatClampNeg) p3.2 z p6 ep6) rfl rfl (rtI_c q) rfl rfl rfl d_Hb_land_110 ?_
        refine k_iconst C 2 d_Hb_land_113 ic_2 ?_
        refine k_iadd C d_Hb_land_114 ?_
        refine k_iadd C d_Hb_land_115 ?_
        refine k_istore C (lv' := [(7, .int (v7 + (p6.1 + 2))), (6, .int (v6 + 1)), (0, .ref (g_a g 0)), (3, .ref (g_a g o3)), (5, .ref (g_a g 12))]) d_Hb_land_116 rfl rfl ?_
        refine k_goto C 71 d_Hb_land_118 (by decide) ?_
        exact k_sub [2, 3, 4, 1, 0] rfl (ih (v6 + 1) (v7 + (p6.1 + 2)) p6.2 h)
      · have h := (if_pos c4).symm.trans h
        refine k_sipush C (-2000) d_Hb_land_91 sp_m2000 ?_
        refine k_iload C d_Hb_land_94 4 rfl ?_
        refine k_isub C d_Hb_land_96 ?_
        obtain rfl := Option.some.inj h
        exact k_iret C q d_Hb_land_97

def f_Hb_land (v1 : Int32) (x : XD) : Option (Int32 × XD) := (f_Hb_refusalOfRow v1 x).bind fun p1 => ((if p1.1 = 0 then gI v1 8 ((if p1.2 (hid v1) 3 = 0 then (f_Hb_placeOfLack (hid v1) p1.2).bind fun p5 => ((if p5.1 = (-1) then (f_La_become 12 10 p5.2).bind fun p7 => (b_Hb_land_71 (hid v1) fu 0 0 p7.2) else some ((-1000) - p5.1, p5.2))) else some ((-12), p1.2))) else some (p1.1, p1.2)))
theorem m_Hb_land {g : GC} (hg : gOk g) (l : Launch)  (v1 : Int32) (x : XD) (z : ZD) (r : Int32 × XD) (h : f_Hb_land v1 x = some r) : Mi g l y_Hb_land c_Hb_land 8 (some .int) 6 [.ref (g_a g 0), .int v1] (x, z) r.1 (r.2, z) := by
  refine m_i hg pn_Hb rfl fun X q C => ?_
  refine k_sub (lv' := [(0, .ref (g_a g 0)), (1, .int v1)]) [0, 1] rfl ?_
  unfold f_Hb_land at h
  refine k_aload_n C d_Hb_land_0 0 rfl ?_
  refine k_iload_n C d_Hb_land_1 1 rfl ?_
  obtain ⟨p1, ep1, h⟩ := bd_some h
  refine k_callVi C q_Hb_73 (fun l => m_Hb_refusalOfRow (cx_g C) l v1 x z p1 ep1) rfl rfl (rtI_c q) (by decide) sh_Hb rfl rfl rfl rfl d_Hb_land_2 ?_
  refine k_istore_n C (lv' := [(2, .int p1.1), (0, .ref (g_a g 0)), (1, .int v1)]) d_Hb_land_5 rfl rfl ?_
  refine k_iload_n C d_Hb_land_6 0 rfl ?_
  refine k_if_eq C 12 d_Hb_land_7 (by decide) (fun c2 => ?_) (fun c2 => ?_)
  · have h := (if_pos c2).symm.trans h
    refine k_aload_n C d_Hb_land_12 1 rfl ?_
    refine kg_Hb_64 C d_Hb_land_13 ?_
    refine k_iload_n C d_Hb_land_16 2 rfl ?_
    obtain ⟨i3, h⟩ := gI_some h
    refine k_aald_Sh C i3 d_Hb_land_17 ?_
    refine k_astore_n C (lv' := [(3, .ref (g_a g (hid v1))), (2, .int p1.1), (0, .ref (g_a g 0)), (1, .int v1)]) d_Hb_land_18 rfl rfl ?_
    refine k_aload_n C d_Hb_land_19 0 rfl ?_
    refine kg_Hb_77 C (hid_ok i3) d_Hb_land_20 ?_
    refine k_if_eq C 29 d_Hb_land_23 (by decide) (fun c4 => ?_) (fun c4 => ?_)
    · have h := (if_pos c4).symm.trans h
      refine k_aload_n C d_Hb_land_29 0 rfl ?_
      obtain ⟨p5, ep5, h⟩ := bd_some h
      refine k_callSi C q_Hb_81 (fun l => m_Hb_placeOfLack (cx_g C) l (hid v1) (hid_ok i3) p1.2 z p5 ep5) rfl rfl (rtI_c q) rfl rfl rfl d_Hb_land_30 ?_
      refine k_istore C (lv' := [(4, .int p5.1), (3, .ref (g_a g (hid v1))), (2, .int p1.1), (0, .ref (g_a g 0)), (1, .int v1)]) d_Hb_land_33 rfl rfl ?_
      refine k_iload C d_Hb_land_35 0 rfl ?_
      refine k_iconst C (-1) d_Hb_land_37 ic_m1 ?_
      refine k_icmp_eq C 48 d_Hb_land_38 (by decide) (fun c6 => ?_) (fun c6 => ?_)
      · have h := (if_pos c6).symm.trans h
        refine k_aload_n C d_Hb_land_48 3 rfl ?_
        refine kg_Hb_49 C d_Hb_land_49 ?_
        refine k_iconst C 0 d_Hb_land_52 ic_0 ?_
        refine k_aald_L0 C d_Hb_land_53 ?_
        refine k_astore C (lv' := [(5, .ref (g_a g 12)), (4, .int p5.1), (3, .ref (g_a g (hid v1))), (2, .int p1.1), (0, .ref (g_a g 0)), (1, .int v1)]) d_Hb_land_54 rfl rfl ?_
        refine k_aload C d_Hb_land_56 0 rfl ?_
        refine k_aload_n C d_Hb_land_58 4 rfl ?_
        refine kg_Hb_42 C d_Hb_land_59 ?_
        obtain ⟨p7, ep7, h⟩ := bd_some h
        refine k_callVv C q_Hb_85 (fun l => m_La_become (cx_g C) l 12 (by decide) 10 (by decide) p5.2 z p7 ep7) rfl rfl (rtI_c q) (by decide) (sh_La (by decide)) rfl rfl rfl rfl d_Hb_land_62 ?_
        refine k_iconst C 0 d_Hb_land_65 ic_0 ?_
        refine k_istore C (lv' := [(6, .int 0), (5, .ref (g_a g 12)), (4, .int p5.1), (3, .ref (g_a g (hid v1))), (2, .int p1.1), (0, .ref (g_a g 0)), (1, .int v1)]) d_Hb_land_66 rfl rfl ?_
        refine k_iconst C 0 d_Hb_land_68 ic_0 ?_
        refine k_istore C (lv' := [(7, .int 0), (6, .int 0), (5, .ref (g_a g 12)), (4, .int p5.1), (3, .ref (g_a g (hid v1))), (2, .int p1.1), (0, .ref (g_a g 0)), (1, .int v1)]) d_Hb_land_69 rfl rfl ?_
        exact k_sub [6, 4, 2, 1, 0] rfl (t_Hb_land_71 C q (hid v1) (hid_ok i3) fu 0 0 p7.2 h)
      · have h := (if_neg c6).symm.trans h
        refine k_sipush C (-1000) d_Hb_land_41 sp_m1000 ?_
        refine k_iload C d_Hb_land_44 0 rfl ?_
        refine k_isub C d_Hb_land_46 ?_
        obtain rfl := Option.some.inj h
        exact k_iret C q d_Hb_land_47
    · have h := (if_neg c4).symm.trans h
      refine k_bipush C (-12) d_Hb_land_26 bp_m12 ?_
      obtain rfl := Option.some.inj h
      exact k_iret C q d_Hb_land_28
  · have h := (if_neg c2).symm.trans h
    refine k_iload_n C d_Hb_land_10 0 rfl ?_
    obtain rfl := Option.some.inj h
    exact k_iret C q d_Hb_land_11

def b_Hb_two_88 (K33 : Int32 → XD → Option (Int32 × XD)) (v1 : Int32) (v2 : Int32) (v3 : Int32) (v4 : Int32) (x : XD) : Option (Int32 × XD) := K33 (v4 + 1) x
theorem t_Hb_two_88 {g : GC} {X : MX} (C : Cx g X c_Hb_two 7 n_Hb 6) {r : Int32 × XD} {z : ZD} (q : RtI g X (some .int) r.1 (r.2, z)) (v1 : Int32) (v2 : Int32) (v3 : Int32) (v4 : Int32) (K33 : Int32 → XD → Option (Int32 × XD)) (hK33 : ∀ (v4 : Int32) (x : XD), K33 v4 x = some r → Wk g X 7 33 [(0, .ref (g_a g 0)), (1, .int v1), (2, .int v2), (3, .int v3), (4, .int v4)] [] (x, z)) (x : XD) (h : b_Hb_two_88 K33 v1 v2 v3 v4 x = some r) : Wk g X 7 88 [(0, .ref (g_a g 0)), (1, .int v1), (2, .int v2), (3, .int v3), (4, .int v4)] [] (x, z) := by
  unfold b_Hb_two_88 at h
  refine k_inc C (lv' := [(4, .int (v4 + 1)), (0, .ref (g_a g 0)), (1, .int v1), (2, .int v2), (3, .int v3)]) d_Hb_two_88 4 rfl ic_1 rfl rfl ?_
  refine k_goto C 33 d_Hb_two_91 (by decide) ?_
  exact k_sub [1, 2, 3, 4, 0] rfl (hK33 (v4 + 1) x h)

def b_Hb_two_33 (v1 : Int32) (v2 : Int32) (v3 : Int32) : Nat → Int32 → XD → Option (Int32 × XD)
  | 0, _, _ => none
  | n + 1, v4, x => (if 4 ≤ v4 then some ((-4), x) else (f_Hb_isBest v1 (v4 / 2) v2 (x_rem v4 2) v3 x).bind fun p2 => ((if p2.1 = 0 then b_Hb_two_88 (b_Hb_two_33 v1 v2 v3 n) v1 v2 v3 v4 p2.2 else (f_Hb_isBest v2 (x_rem v4 2) v1 (v4 / 2) v3 p2.2).bind fun p4 => ((if p4.1 = 0 then b_Hb_two_88 (b_Hb_two_33 v1 v2 v3 n) v1 v2 v3 v4 p4.2 else some ((10 * (v4 / 2)) + (x_rem v4 2), p4.2))))))
theorem t_Hb_two_33 {g : GC} {X : MX} (C : Cx g X c_Hb_two 7 n_Hb 6) {r : Int32 × XD} {z : ZD} (q : RtI g X (some .int) r.1 (r.2, z)) (v1 : Int32) (v2 : Int32) (v3 : Int32) : ∀ (n : Nat) (v4 : Int32) (x : XD) (h : b_Hb_two_33 v1 v2 v3 n v4 x = some r), Wk g X 7 33 [(0, .ref (g_a g 0)), (1, .int v1), (2, .int v2), (3, .int v3), (4, .int v4)] [] (x, z) := by
  intro n
  induction n with
  | zero =>
    intro v4 x h
    rw [b_Hb_two_33] at h
    cases h
  | succ n ih =>
    intro v4 x h
    rw [b_Hb_two_33] at h
    refine k_iload C d_Hb_two_33 4 rfl ?_
    refine k_iconst C 4 d_Hb_two_35 ic_4 ?_
    refine k_icmp_ge C 94 d_Hb_two_36 (by decide) (fun c1 => ?_) (fun c1 => ?_)
    · have h := (if_pos c1).symm.trans h
      refine k_bipush C (-4) d_Hb_two_94 bp_m4 ?_
      obtain rfl := Option.some.inj h
      exact k_iret C q d_Hb_two_96
    · have h := (if_neg c1).symm.trans h
      refine k_iload C d_Hb_two_39 4 rfl ?_
      refine k_iconst C 2 d_Hb_two_41 ic_2 ?_
      refine k_idiv C nz_2 d_Hb_two_42 ?_
      refine k_istore C (lv' := [(5, .int (v4 / 2)), (0, .ref (g_a g 0)), (1, .int v1), (2, .int v2), (3, .int v3), (4, .int v4)]) d_Hb_two_43 rfl rfl ?_
      refine k_iload C d_Hb_two_45 5 rfl ?_
      refine k_iconst C 2 d_Hb_two_47 ic_2 ?_
      refine k_irem C nz_2 d_Hb_two_48 ?_
      refine k_istore C (lv' := [(6, .int (x_rem v4 2)), (5, .int (v4 / 2)), (0, .ref (g_a g 0)), (1, .int v1), (2, .int v2), (3, .int v3), (4, .int v4)]) d_Hb_two_49 rfl rfl ?_
      refine k_aload_n C d_Hb_two_51 2 rfl ?_
      refine k_iload_n C d_Hb_two_52 3 rfl ?_
      refine k_iload C d_Hb_two_53 1 rfl ?_
      refine k_iload_n C d_Hb_two_55 4 rfl ?_
      refine k_iload C d_Hb_two_56 0 rfl ?_
      refine k_iload_n C d_Hb_two_58 5 rfl ?_
      obtain ⟨p2, ep2, h⟩ := bd_some h
      refine k_callVi C q_Hb_226 (fun l => m_Hb_isBest (cx_g C) l v1 (v4 / 2) v2 (x_rem v4 2) v3 x z p2 ep2) rfl rfl (rtI_c q) (by decide) sh_Hb rfl rfl rfl rfl d_Hb_two_59 ?_
      refine k_if_eq C 88 d_Hb_two_62 (by decide) (fun c3 => ?_) (fun c3 => ?_)
      · have h := (if_pos c3).symm.trans h
        exact k_sub [2, 3, 4, 5, 6] rfl (t_Hb_two_88 C q v1 v2 v3 v4 (b_Hb_two_33 v1 v2 v3 n) ih p2.2 h)
      · have h := (if_neg c3).symm.trans h
        refine k_aload_n C d_Hb_two_65 2 rfl ?_
        refine k_iload_n C d_Hb_two_66 4 rfl ?_
        refine k_iload C d_Hb_two_67 0 rfl ?_
        refine k_iload_n C d_Hb_two_69 3 rfl ?_
        refine k_iload C d_Hb_two_70 1 rfl ?_
        refine k_iload_n C d_Hb_two_72 5 rfl ?_
        obtain ⟨p4, ep4, h⟩ := bd_some h
        refine k_callVi C q_Hb_226 (fun l => m_Hb_isBest (cx_g C) l v2 (x_rem v4 2) v1 (v4 / 2) v3 p2.2 z p4 ep4) rfl rfl (rtI_c q) (by decide) sh_Hb rfl rfl rfl rfl d_Hb_two_73 ?_
        refine k_if_eq C 88 d_Hb_two_76 (by decide) (fun c5 => ?_) (fun c5 => ?_)
        · have h := (if_pos c5).symm.trans h
          exact k_sub [2, 3, 4, 5, 6] rfl (t_Hb_two_88 C q v1 v2 v3 v4 (b_Hb_two_33 v1 v2 v3 n) ih p4.2 h)
        · have h := (if_neg c5).symm.trans h
          refine k_bipush C 10 d_Hb_two_79 bp_10 ?_
          refine k_iload C d_Hb_two_81 1 rfl ?_
          refine k_imul C d_Hb_two_83 ?_
          refine k_iload C d_Hb_two_84 0 rfl ?_
          refine k_iadd C d_Hb_two_86 ?_
          obtain rfl := Option.some.inj h
          exact k_iret C q d_Hb_two_87

def f_Hb_two (v1 : Int32) (v2 : Int32) (v3 : Int32) (x : XD) : Option (Int32 × XD) := (f_Hb_isHorse v1 x).bind fun p1 => ((if p1.1 = 0 then some ((-1), p1.2) else (f_Hb_isHorse v2 p1.2).bind fun p3 => ((if p3.1 = 0 then some ((-1), p3.2) else (if v1 = v2 then some ((-1), p3.2) else (f_Hb_isYard v3 p3.2).bind fun p6 => ((if p6.1 = 0 then some ((-1), p6.2) else b_Hb_two_33 v1 v2 v3 fu 0 p6.2)))))))
theorem m_Hb_two {g : GC} (hg : gOk g) (l : Launch)  (v1 : Int32) (v2 : Int32) (v3 : Int32) (x : XD) (z : ZD) (r : Int32 × XD) (h : f_Hb_two v1 v2 v3 x = some r) : Mi g l y_Hb_two c_Hb_two 7 (some .int) 6 [.ref (g_a g 0), .int v1, .int v2, .int v3] (x, z) r.1 (r.2, z) := by
  refine m_i hg pn_Hb rfl fun X q C => ?_
  refine k_sub (lv' := [(0, .ref (g_a g 0)), (1, .int v1), (2, .int v2), (3, .int v3)]) [0, 1, 2, 3] rfl ?_
  unfold f_Hb_two at h
  refine k_aload_n C d_Hb_two_0 0 rfl ?_
  refine k_iload_n C d_Hb_two_1 1 rfl ?_
  obtain ⟨p1, ep1, h⟩ := bd_some h
  refine k_callVi C q_Hb_103 (fun l => m_Hb_isHorse (cx_g C) l v1 x z p1 ep1) rfl rfl (rtI_c q) (by decide) sh_Hb rfl rfl rfl rfl d_Hb_two_2 ?_
  refine k_if_eq C 28 d_Hb_two_5 (by decide) (fun c2 => ?_) (fun c2 => ?_)
  · have h := (if_pos c2).symm.trans h
    refine k_iconst C (-1) d_Hb_two_28 ic_m1 ?_
    obtain rfl := Option.some.inj h
    exact k_iret C q d_Hb_two_29
  · have h := (if_neg c2).symm.trans h
    refine k_aload_n C d_Hb_two_8 0 rfl ?_
    refine k_iload_n C d_Hb_two_9 2 rfl ?_
    obtain ⟨p3, ep3, h⟩ := bd_some h
    refine k_callVi C q_Hb_103 (fun l => m_Hb_isHorse (cx_g C) l v2 p1.2 z p3 ep3) rfl rfl (rtI_c q) (by decide) sh_Hb rfl rfl rfl rfl d_Hb_two_10 ?_
    refine k_if_eq C 28 d_Hb_two_13 (by decide) (fun c4 => ?_) (fun c4 => ?_)
    · have h := (if_pos c4).symm.trans h
      refine k_iconst C (-1) d_Hb_two_28 ic_m1 ?_
      obtain rfl := Option.some.inj h
      exact k_iret C q d_Hb_two_29
    · have h := (if_neg c4).symm.trans h
      refine k_iload_n C d_Hb_two_16 1 rfl ?_
      refine k_iload_n C d_Hb_two_17 2 rfl ?_
      refine k_icmp_eq C 28 d_Hb_two_18 (by decide) (fun c5 => ?_) (fun c5 => ?_)
      · have h := (if_pos c5).symm.trans h
        refine k_iconst C (-1) d_Hb_two_28 ic_m1 ?_
        obtain rfl := Option.some.inj h
        exact k_iret C q d_Hb_two_29
      · have h := (if_neg c5).symm.trans h
        refine k_iload_n C d_Hb_two_21 3 rfl ?_
        obtain ⟨p6, ep6, h⟩ := bd_some h
        refine k_callSi C q_Hb_143 (fun l => m_Hb_isYard (cx_g C) l v3 p3.2 z p6 ep6) rfl rfl (rtI_c q) rfl rfl rfl d_Hb_two_22 ?_
        refine k_if_ne C 30 d_Hb_two_25 (by decide) (fun c7 => ?_) (fun c7 => ?_)
        · have h := (if_neg c7).symm.trans h
          refine k_iconst C 0 d_Hb_two_30 ic_0 ?_
          refine k_istore C (lv' := [(4, .int 0), (0, .ref (g_a g 0)), (1, .int v1), (2, .int v2), (3, .int v3)]) d_Hb_two_31 rfl rfl ?_
          exact k_sub [1, 2, 3, 4, 0] rfl (t_Hb_two_33 C q v1 v2 v3 fu 0 p6.2 h)
        · have h := (if_pos c7).symm.trans h
          refine k_iconst C (-1) d_Hb_two_28 ic_m1 ?_
          obtain rfl := Option.some.inj h
          exact k_iret C q d_Hb_two_29

def b_Hb_chainOn_70 (cw : Int32 → Int32 → Int32 → Int32 → XD → Option (Int32 × XD)) (K13 : Int32 → Int32 → XD → Option (Int32 × XD)) (v1 : Int32) (v2 : Int32) (v3 : Int32) (v4 : Int32) (v5 : Int32) (o6 : Nat) (v7 : Int32) (x : XD) : Option (Int32 × XD) := K13 v5 (v7 + 1) x
theorem t_Hb_chainOn_70 {g : GC} {X : MX} {lv : Nat} (C : Cx g X c_Hb_chainOn 8 n_Hb (lv + 1)) {r : Int32 × XD} {z : ZD} (q : RtI g X (some .int) r.1 (r.2, z)) (hlv : 5 ≤ lv) (cw : Int32 → Int32 → Int32 → Int32 → XD → Option (Int32 × XD)) (hcw : ∀ (l : Launch) (v1 v2 v3 v4 : Int32) (x : XD) (z : ZD) (r : Int32 × XD), cw v1 v2 v3 v4 x = some r → Mi g l y_Hb_chainWith c_Hb_chainWith 10 (some .int) lv [.ref (g_a g 65), .int v1, .int v2, .int v3, .int v4] (x, z) r.1 (r.2, z)) (v1 : Int32) (v2 : Int32) (v3 : Int32) (v4 : Int32) (v5 : Int32) (o6 : Nat) (h_o6 : 10 ≤ o6 ∧ o6 < 16) (v7 : Int32) (K13 : Int32 → Int32 → XD → Option (Int32 × XD)) (hK13 : ∀ (v5 : Int32) (v7 : Int32) (x : XD), K13 v5 v7 x = some r → Wk g X 8 13 [(0, .ref (g_a g 65)), (1, .int v1), (2, .int v2), (3, .int v3), (4, .int v4), (5, .int v5), (6, .ref (g_a g o6)), (7, .int v7)] [] (x, z)) (x : XD) (h : b_Hb_chainOn_70 cw K13 v1 v2 v3 v4 v5 o6 v7 x = some r) : Wk g X 8 70 [(0, .ref (g_a g 65)), (1, .int v1), (2, .int v2), (3, .int v3), (4, .int v4), (5, .int v5), (6, .ref (g_a g o6)), (7, .int v7)] [] (x, z) := by
  unfold b_Hb_chainOn_70 at h
  refine k_inc C (lv' := [(7, .int (v7 + 1)), (0, .ref (g_a g 65)), (1, .int v1), (2, .int v2), (3, .int v3), (4, .int v4), (5, .int v5), (6, .ref (g_a g o6))]) d_Hb_chainOn_70 7 rfl ic_1 rfl rfl ?_
  refine k_goto C 13 d_Hb_chainOn_73 (by decide) ?_
  exact k_sub [1, 2, 3, 4, 5, 6, 7, 0] rfl (hK13 v5 (v7 + 1) x h)

def b_Hb_chainOn_13 (cw : Int32 → Int32 → Int32 → Int32 → XD → Option (Int32 × XD)) (v1 : Int32) (v2 : Int32) (v3 : Int32) (v4 : Int32) (o6 : Nat) : Nat → Int32 → Int32 → XD → Option (Int32 × XD)
  | 0, _, _, _ => none
  | n + 1, v5, v7, x => (if x o6 2 ≤ v7 then some (v5, x) else (if (v4 >>> (v7 &&& 31)) &&& 1 = 0 then gI v7 7 ((if x (sid o6 v7) 3 = v2 then (cw v1 v7 v3 (v4 ||| (1 <<< (v7 &&& 31))) x).bind fun p5 => (b_Hb_chainOn_70 cw (b_Hb_chainOn_13 cw v1 v2 v3 v4 o6 n) v1 v2 v3 v4 (x_min v5 p5.1) o6 v7 p5.2) else b_Hb_chainOn_70 cw (b_Hb_chainOn_13 cw v1 v2 v3 v4 o6 n) v1 v2 v3 v4 v5 o6 v7 x)) else b_Hb_chainOn_70 cw (b_Hb_chainOn_13 cw v1 v2 v3 v4 o6 n) v1 v2 v3 v4 v5 o6 v7 x))
theorem t_Hb_chainOn_13 {g : GC} {X : MX} {lv : Nat} (C : Cx g X c_Hb_chainOn 8 n_Hb (lv + 1)) {r : Int32 × XD} {z : ZD} (q : RtI g X (some .int) r.1 (r.2, z)) (hlv : 5 ≤ lv) (cw : Int32 → Int32 → Int32 → Int32 → XD → Option (Int32 × XD)) (hcw : ∀ (l : Launch) (v1 v2 v3 v4 : Int32) (x : XD) (z : ZD) (r : Int32 × XD), cw v1 v2 v3 v4 x = some r → Mi g l y_Hb_chainWith c_Hb_chainWith 10 (some .int) lv [.ref (g_a g 65), .int v1, .int v2, .int v3, .int v4] (x, z) r.1 (r.2, z)) (v1 : Int32) (v2 : Int32) (v3 : Int32) (v4 : Int32) (o6 : Nat) (h_o6 : 10 ≤ o6 ∧ o6 < 16) : ∀ (n : Nat) (v5 : Int32) (v7 : Int32) (x : XD) (h : b_Hb_chainOn_13 cw v1 v2 v3 v4 o6 n v5 v7 x = some r), Wk g X 8 13 [(0, .ref (g_a g 65)), (1, .int v1), (2, .int v2), (3, .int v3), (4, .int v4), (5, .int v5), (6, .ref (g_a g o6)), (7, .int v7)] [] (x, z) := by
  intro n
  induction n with
  | zero =>
    intro v5 v7 x h
    rw [b_Hb_chainOn_13] at h
    cases h
  | succ n ih =>
    intro v5 v7 x h
    rw [b_Hb_chainOn_13] at h
    refine k_iload C d_Hb_chainOn_13 7 rfl ?_
    refine k_aload C d_Hb_chainOn_15 6 rfl ?_
    refine kg_Hb_149 C h_o6 d_Hb_chainOn_17 ?_
    refine k_icmp_ge C 76 d_Hb_chainOn_20 (by decide) (fun c1 => ?_) (fun c1 => ?_)
    · have h := (if_pos c1).symm.trans h
      refine k_iload C d_Hb_chainOn_76 5 rfl ?_
      obtain rfl := Option.some.inj h
      exact k_iret C q d_Hb_chainOn_78
    · have h := (if_neg c1).symm.trans h
      refine k_iload C d_Hb_chainOn_23 4 rfl ?_
      refine k_iload C d_Hb_chainOn_25 7 rfl ?_
      refine k_ishr C d_Hb_chainOn_27 ?_
      refine k_iconst C 1 d_Hb_chainOn_28 ic_1 ?_
      refine k_iand C d_Hb_chainOn_29 ?_
      refine k_if_ne C 70 d_Hb_chainOn_30 (by decide) (fun c2 => ?_) (fun c2 => ?_)
      · have h := (if_neg c2).symm.trans h
        exact k_sub [0, 1, 2, 3, 4, 5, 6, 7] rfl (t_Hb_chainOn_70 C q hlv cw hcw v1 v2 v3 v4 v5 o6 h_o6 v7 (b_Hb_chainOn_13 cw v1 v2 v3 v4 o6 n) ih x h)
      · have h := (if_pos c2).symm.trans h
        refine k_aload C d_Hb_chainOn_33 6 rfl ?_
        refine kg_Hb_107 C h_o6 d_Hb_chainOn_35 ?_
        refine k_iload C d_Hb_chainOn_38 7 rfl ?_
        obtain ⟨i3, h⟩ := gI_some h
        refine k_aald_St C h_o6 i3 d_Hb_chainOn_40 ?_
        refine kg_Hb_125 C (sid_ok h_o6 i3) d_Hb_chainOn_41 ?_
        refine k_iload_n C d_Hb_chainOn_44 2 rfl ?_
        refine k_icmp_ne C 70 d_Hb_chainOn_45 (by decide) (fun c4 => ?_) (fun c4 => ?_)
        · have h := (if_neg c4).symm.trans h
          exact k_sub [0, 1, 2, 3, 4, 5, 6, 7] rfl (t_Hb_chainOn_70 C q hlv cw hcw v1 v2 v3 v4 v5 o6 h_o6 v7 (b_Hb_chainOn_13 cw v1 v2 v3 v4 o6 n) ih x h)
        · have h := (if_pos c4).symm.trans h
          refine k_iload C d_Hb_chainOn_48 5 rfl ?_
          refine k_aload_n C d_Hb_chainOn_50 0 rfl ?_
          refine k_iload_n C d_Hb_chainOn_51 1 rfl ?_
          refine k_iload C d_Hb_chainOn_52 7 rfl ?_
          refine k_iload_n C d_Hb_chainOn_54 3 rfl ?_
          refine k_iload C d_Hb_chainOn_55 4 rfl ?_
          refine k_iconst C 1 d_Hb_chainOn_57 ic_1 ?_
          refine k_iload C d_Hb_chainOn_58 7 rfl ?_
          refine k_ishl C d_Hb_chainOn_60 ?_
          refine k_ior C d_Hb_chainOn_61 ?_
          obtain ⟨p5, ep5, h⟩ := bd_some h
          refine k_callSi C q_Hb_190 (fun l => hcw l v1 v7 v3 (v4 ||| (1 <<< (v7 &&& 31))) x z p5 ep5) (nble (by omega)) rfl (rtI_c q) rfl rfl rfl d_Hb_chainOn_62 ?_
          refine k_mmin C l_574 l_396 l_65 l_397 rfl rfl (rtI_c q) d_Hb_chainOn_65 ?_
          refine k_istore C (lv' := [(5, .int (x_min v5 p5.1)), (0, .ref (g_a g 65)), (1, .int v1), (2, .int v2), (3, .int v3), (4, .int v4), (6, .ref (g_a g o6)), (7, .int v7)]) d_Hb_chainOn_68 rfl rfl ?_
          exact k_sub [1, 2, 3, 4, 5, 0, 6, 7] rfl (t_Hb_chainOn_70 C q hlv cw hcw v1 v2 v3 v4 (x_min v5 p5.1) o6 h_o6 v7 (b_Hb_chainOn_13 cw v1 v2 v3 v4 o6 n) ih p5.2 h)

def f_Hb_chainOn (cw : Int32 → Int32 → Int32 → Int32 → XD → Option (Int32 × XD)) (v1 : Int32) (v2 : Int32) (v3 : Int32) (v4 : Int32) (x : XD) : Option (Int32 × XD) := gI v1 4 (b_Hb_chainOn_13 cw v1 v2 v3 v4 (lid v1) fu 1000 0 x)
theorem m_Hb_chainOn {g : GC} (hg : gOk g) (l : Launch) (lv : Nat)  (hlv : 5 ≤ lv) (cw : Int32 → Int32 → Int32 → Int32 → XD → Option (Int32 × XD)) (hcw : ∀ (l : Launch) (v1 v2 v3 v4 : Int32) (x : XD) (z : ZD) (r : Int32 × XD), cw v1 v2 v3 v4 x = some r → Mi g l y_Hb_chainWith c_Hb_chainWith 10 (some .int) lv [.ref (g_a g 65), .int v1, .int v2, .int v3, .int v4] (x, z) r.1 (r.2, z)) (v1 : Int32) (v2 : Int32) (v3 : Int32) (v4 : Int32) (x : XD) (z : ZD) (r : Int32 × XD) (h : f_Hb_chainOn cw v1 v2 v3 v4 x = some r) : Mi g l y_Hb_chainOn c_Hb_chainOn 8 (some .int) (lv + 1) [.ref (g_a g 65), .int v1, .int v2, .int v3, .int v4] (x, z) r.1 (r.2, z) := by
  refine m_i hg pn_Hb rfl fun X q C => ?_
  refine k_sub (lv' := [(0, .ref (g_a g 65)), (1, .int v1), (2, .int v2), (3, .int v3), (4, .int v4)]) [0, 1, 2, 3, 4] rfl ?_
  unfold f_Hb_chainOn at h
  refine k_sipush C 1000 d_Hb_chainOn_0 sp_1000 ?_
  refine k_istore C (lv' := [(5, .int 1000), (0, .ref (g_a g 65)), (1, .int v1), (2, .int v2), (3, .int v3), (4, .int v4)]) d_Hb_chainOn_3 rfl rfl ?_
  refine k_aload_n C d_Hb_chainOn_5 1 rfl ?_
  refine k_iload_n C d_Hb_chainOn_6 2 rfl ?_
  obtain ⟨i1, h⟩ := gI_some h
  refine k_aald_La C i1 d_Hb_chainOn_7 ?_
  refine k_astore C (lv' := [(6, .ref (g_a g (lid v1))), (5, .int 1000), (0, .ref (g_a g 65)), (1, .int v1), (2, .int v2), (3, .int v3), (4, .int v4)]) d_Hb_chainOn_8 rfl rfl ?_
  refine k_iconst C 0 d_Hb_chainOn_10 ic_0 ?_
  refine k_istore C (lv' := [(7, .int 0), (6, .ref (g_a g (lid v1))), (5, .int 1000), (0, .ref (g_a g 65)), (1, .int v1), (2, .int v2), (3, .int v3), (4, .int v4)]) d_Hb_chainOn_11 rfl rfl ?_
  exact k_sub [3, 4, 5, 6, 7, 2, 1, 0] rfl (t_Hb_chainOn_13 C q hlv cw hcw v1 v2 v3 v4 (lid v1) (lid_ok i1) fu 1000 0 x h)

def b_Hb_chainWith_108 (cw : Int32 → Int32 → Int32 → Int32 → XD → Option (Int32 × XD)) (K37 : Int32 → Int32 → XD → Option (Int32 × XD)) (v1 : Int32) (v2 : Int32) (v3 : Int32) (v4 : Int32) (v5 : Int32) (o6 : Nat) (v7 : Int32) (v8 : Int32) (x : XD) : Option (Int32 × XD) := K37 v5 (v8 + 1) x
theorem t_Hb_chainWith_108 {g : GC} {X : MX} {lv : Nat} (C : Cx g X c_Hb_chainWith 10 n_Hb (lv + 2)) {r : Int32 × XD} {z : ZD} (q : RtI g X (some .int) r.1 (r.2, z)) (hlv : 5 ≤ lv) (cw : Int32 → Int32 → Int32 → Int32 → XD → Option (Int32 × XD)) (hcw : ∀ (l : Launch) (v1 v2 v3 v4 : Int32) (x : XD) (z : ZD) (r : Int32 × XD), cw v1 v2 v3 v4 x = some r → Mi g l y_Hb_chainWith c_Hb_chainWith 10 (some .int) lv [.ref (g_a g 65), .int v1, .int v2, .int v3, .int v4] (x, z) r.1 (r.2, z)) (v1 : Int32) (v2 : Int32) (v3 : Int32) (v4 : Int32) (v5 : Int32) (o6 : Nat) (h_o6 : 10 ≤ o6 ∧ o6 < 16) (v7 : Int32) (v8 : Int32) (K37 : Int32 → Int32 → XD → Option (Int32 × XD)) (hK37 : ∀ (v5 : Int32) (v8 : Int32) (x : XD), K37 v5 v8 x = some r → Wk g X 10 37 [(0, .ref (g_a g 65)), (1, .int v1), (2, .int v2), (3, .int v3), (4, .int v4), (5, .int v5), (6, .ref (g_a g o6)), (7, .int v7), (8, .int v8)] [] (x, z)) (x : XD) (h : b_Hb_chainWith_108 cw K37 v1 v2 v3 v4 v5 o6 v7 v8 x = some r) : Wk g X 10 108 [(0, .ref (g_a g 65)), (1, .int v1), (2, .int v2), (3, .int v3), (4, .int v4), (5, .int v5), (6, .ref (g_a g o6)), (7, .int v7), (8, .int v8)] [] (x, z) := by
  unfold b_Hb_chainWith_108 at h
  refine k_inc C (lv' := [(8, .int (v8 + 1)), (0, .ref (g_a g 65)), (1, .int v1), (2, .int v2), (3, .int v3), (4, .int v4), (5, .int v5), (6, .ref (g_a g o6)), (7, .int v7)]) d_Hb_chainWith_108 8 rfl ic_1 rfl rfl ?_
  refine k_goto C 37 d_Hb_chainWith_111 (by decide) ?_
  exact k_sub [1, 2, 3, 4, 5, 6, 7, 8, 0] rfl (hK37 v5 (v8 + 1) x h)

def b_Hb_chainWith_96 (cw : Int32 → Int32 → Int32 → Int32 → XD → Option (Int32 × XD)) (K37 : Int32 → Int32 → XD → Option (Int32 × XD)) (v1 : Int32) (v2 : Int32) (v3 : Int32) (v4 : Int32) (v5 : Int32) (o6 : Nat) (v7 : Int32) (v8 : Int32) (vt0 : Int32) (vt1 : Int32) (x : XD) : Option (Int32 × XD) := b_Hb_chainWith_108 cw K37 v1 v2 v3 v4 (x_min v5 (vt0 + vt1)) o6 v7 v8 x
theorem t_Hb_chainWith_96 {g : GC} {X : MX} {lv : Nat} (C : Cx g X c_Hb_chainWith 10 n_Hb (lv + 2)) {r : Int32 × XD} {z : ZD} (q : RtI g X (some .int) r.1 (r.2, z)) (hlv : 5 ≤ lv) (cw : Int32 → Int32 → Int32 → Int32 → XD → Option (Int32 × XD)) (hcw : ∀ (l : Launch) (v1 v2 v3 v4 : Int32) (x : XD) (z : ZD) (r : Int32 × XD), cw v1 v2 v3 v4 x = some r → Mi g l y_Hb_chainWith c_Hb_chainWith 10 (some .int) lv [.ref (g_a g 65), .int v1, .int v2, .int v3, .int v4] (x, z) r.1 (r.2, z)) (v1 : Int32) (v2 : Int32) (v3 : Int32) (v4 : Int32) (v5 : Int32) (o6 : Nat) (h_o6 : 10 ≤ o6 ∧ o6 < 16) (v7 : Int32) (v8 : Int32) (vt0 : Int32) (vt1 : Int32) (K37 : Int32 → Int32 → XD → Option (Int32 × XD)) (hK37 : ∀ (v5 : Int32) (v8 : Int32) (x : XD), K37 v5 v8 x = some r → Wk g X 10 37 [(0, .ref (g_a g 65)), (1, .int v1), (2, .int v2), (3, .int v3), (4, .int v4), (5, .int v5), (6, .ref (g_a g o6)), (7, .int v7), (8, .int v8)] [] (x, z)) (x : XD) (h : b_Hb_chainWith_96 cw K37 v1 v2 v3 v4 v5 o6 v7 v8 vt0 vt1 x = some r) : Wk g X 10 96 [(0, .ref (g_a g 65)), (1, .int v1), (2, .int v2), (3, .int v3), (4, .int v4), (5, .int v5), (6, .ref (g_a g o6)), (7, .int v7), (8, .int v8)] [.int vt1, .int vt0] (x, z) := by
  unfold b_Hb_chainWith_96 at h
  refine k_iadd C d_Hb_chainWith_96 ?_
  refine k_istore C (lv' := [(9, .int (vt0 + vt1)), (0, .ref (g_a g 65)), (1, .int v1), (2, .int v2), (3, .int v3), (4, .int v4), (5, .int v5), (6, .ref (g_a g o6)), (7, .int v7), (8, .int v8)]) d_Hb_chainWith_97 rfl rfl ?_
  refine k_iload C d_Hb_chainWith_99 6 rfl ?_
  refine k_iload C d_Hb_chainWith_101 0 rfl ?_
  refine k_mmin C l_574 l_396 l_65 l_397 rfl rfl (rtI_c q) d_Hb_chainWith_103 ?_
  refine k_istore C (lv' := [(5, .int (x_min v5 (vt0 + vt1))), (9, .int (vt0 + vt1)), (0, .ref (g_a g 65)), (1, .int v1), (2, .int v2), (3, .int v3), (4, .int v4), (6, .ref (g_a g o6)), (7, .int v7), (8, .int v8)]) d_Hb_chainWith_106 rfl rfl ?_
  exact k_sub [2, 3, 4, 5, 6, 0, 7, 8, 9] rfl (t_Hb_chainWith_108 C q hlv cw hcw v1 v2 v3 v4 (x_min v5 (vt0 + vt1)) o6 h_o6 v7 v8 K37 hK37 x h)

def b_Hb_chainWith_37 (cw : Int32 → Int32 → Int32 → Int32 → XD → Option (Int32 × XD)) (v1 : Int32) (v2 : Int32) (v3 : Int32) (v4 : Int32) (o6 : Nat) (v7 : Int32) : Nat → Int32 → Int32 → XD → Option (Int32 × XD)
  | 0, _, _, _ => none
  | n + 1, v5, v8, x => (if 21 ≤ v8 then some (v5, x) else (if v8 = v7 then b_Hb_chainWith_108 cw (b_Hb_chainWith_37 cw v1 v2 v3 v4 o6 v7 n) v1 v2 v3 v4 v5 o6 v7 v8 x else gI v1 4 ((f_La_become o6 (lid v1) x).bind fun p4 => ((f_La_ride o6 v2 v8 p4.2).bind fun p5 => ((if v8 = v3 then b_Hb_chainWith_96 cw (b_Hb_chainWith_37 cw v1 v2 v3 v4 o6 v7 n) v1 v2 v3 v4 v5 o6 v7 v8 p5.1 0 p5.2 else (f_Hb_chainOn cw (v1 + 1) v8 v3 v4 p5.2).bind fun p7 => (b_Hb_chainWith_96 cw (b_Hb_chainWith_37 cw v1 v2 v3 v4 o6 v7 n) v1 v2 v3 v4 v5 o6 v7 v8 p5.1 p7.1 p7.2)))))))
theorem t_Hb_chainWith_37 {g : GC} {X : MX} {lv : Nat} (C : Cx g X c_Hb_chainWith 10 n_Hb (lv + 2)) {r : Int32 × XD} {z : ZD} (q : RtI g X (some .int) r.1 (r.2, z)) (hlv : 5 ≤ lv) (cw : Int32 → Int32 → Int32 → Int32 → XD → Option (Int32 × XD)) (hcw : ∀ (l : Launch) (v1 v2 v3 v4 : Int32) (x : XD) (z : ZD) (r : Int32 × XD), cw v1 v2 v3 v4 x = some r → Mi g l y_Hb_chainWith c_Hb_chainWith 10 (some .int) lv [.ref (g_a g 65), .int v1, .int v2, .int v3, .int v4] (x, z) r.1 (r.2, z)) (v1 : Int32) (v2 : Int32) (v3 : Int32) (v4 : Int32) (o6 : Nat) (h_o6 : 10 ≤ o6 ∧ o6 < 16) (v7 : Int32) : ∀ (n : Nat) (v5 : Int32) (v8 : Int32) (x : XD) (h : b_Hb_chainWith_37 cw v1 v2 v3 v4 o6 v7 n v5 v8 x = some r), Wk g X 10 37 [(0, .ref (g_a g 65)), (1, .int v1), (2, .int v2), (3, .int v3), (4, .int v4), (5, .int v5), (6, .ref (g_a g o6)), (7, .int v7), (8, .int v8)] [] (x, z) := by
  intro n
  induction n with
  | zero =>
    intro v5 v8 x h
    rw [b_Hb_chainWith_37] at h
    cases h
  | succ n ih =>
    intro v5 v8 x h
    rw [b_Hb_chainWith_37] at h
    refine k_iload C d_Hb_chainWith_37 8 rfl ?_
    refine k_bipush C 21 d_Hb_chainWith_39 bp_21 ?_
    refine k_icmp_ge C 114 d_Hb_chainWith_41 (by decide) (fun c1 => ?_) (fun c1 => ?_)
    · have h := (if_pos c1).symm.trans h
      refine k_iload C d_Hb_chainWith_114 5 rfl ?_
      obtain rfl := Option.some.inj h
      exact k_iret C q d_Hb_chainWith_116
    · have h := (if_neg c1).symm.trans h
      refine k_iload C d_Hb_chainWith_44 8 rfl ?_
      refine k_iload C d_Hb_chainWith_46 7 rfl ?_
      refine k_icmp_ne C 54 d_Hb_chainWith_48 (by decide) (fun c2 => ?_) (fun c2 => ?_)
      · have h := (if_neg c2).symm.trans h
        refine k_aload C d_Hb_chainWith_54 6 rfl ?_
        refine k_aload_n C d_Hb_chainWith_56 0 rfl ?_
        refine k_iload_n C d_Hb_chainWith_57 1 rfl ?_
        obtain ⟨i3, h⟩ := gI_some h
        refine k_aald_La C i3 d_Hb_chainWith_58 ?_
        obtain ⟨p4, ep4, h⟩ := bd_some h
        refine k_callVv C q_Hb_85 (fun l => m_La_become (cx_g C) l o6 h_o6 (lid v1) (lid_ok i3) x z p4 ep4) (nble (by omega)) rfl (rtI_c q) (lt105 h_o6 rfl) (sh_La h_o6) rfl rfl rfl rfl d_Hb_chainWith_59 ?_
        refine k_aload C d_Hb_chainWith_62 6 rfl ?_
        refine k_iload_n C d_Hb_chainWith_64 2 rfl ?_
        refine k_iload C d_Hb_chainWith_65 8 rfl ?_
        obtain ⟨p5, ep5, h⟩ := bd_some h
        refine k_callVi C q_Hb_165 (fun l => m_La_ride (cx_g C) l o6 h_o6 v2 v8 p4.2 z p5 ep5) (nble (by omega)) rfl (rtI_c q) (lt105 h_o6 rfl) (sh_La h_o6) rfl rfl rfl rfl d_Hb_chainWith_67 ?_
        refine k_istore C (lv' := [(9, .int p5.1), (0, .ref (g_a g 65)), (1, .int v1), (2, .int v2), (3, .int v3), (4, .int v4), (5, .int v5), (6, .ref (g_a g o6)), (7, .int v7), (8, .int v8)]) d_Hb_chainWith_70 rfl rfl ?_
        refine k_iload C d_Hb_chainWith_72 0 rfl ?_
        refine k_iload C d_Hb_chainWith_74 9 rfl ?_
        refine k_iload_n C d_Hb_chainWith_76 4 rfl ?_
        refine k_icmp_ne C 84 d_Hb_chainWith_77 (by decide) (fun c6 => ?_) (fun c6 => ?_)
        · have h := (if_neg c6).symm.trans h
          refine k_aload_n C d_Hb_chainWith_84 1 rfl ?_
          refine k_iload_n C d_Hb_chainWith_85 2 rfl ?_
          refine k_iconst C 1 d_Hb_chainWith_86 ic_1 ?_
          refine k_iadd C d_Hb_chainWith_87 ?_
          refine k_iload C d_Hb_chainWith_88 9 rfl ?_
          refine k_iload_n C d_Hb_chainWith_90 4 rfl ?_
          refine k_iload C d_Hb_chainWith_91 5 rfl ?_
          obtain ⟨p7, ep7, h⟩ := bd_some h
          refine k_callSi C q_Hb_302 (fun l => m_Hb_chainOn (cx_g C) l lv hlv cw hcw (v1 + 1) v8 v3 v4 p5.2 z p7 ep7) (nble (by omega)) rfl (rtI_c q) rfl rfl rfl d_Hb_chainWith_93 ?_
          exact k_sub [1, 2, 3, 4, 5, 6, 7, 8, 9] rfl (t_Hb_chainWith_96 C q hlv cw hcw v1 v2 v3 v4 v5 o6 h_o6 v7 v8 p5.1 p7.1 (b_Hb_chainWith_37 cw v1 v2 v3 v4 o6 v7 n) ih p7.2 h)
        · have h := (if_pos c6).symm.trans h
          refine k_iconst C 0 d_Hb_chainWith_80 ic_0 ?_
          refine k_goto C 96 d_Hb_chainWith_81 (by decide) ?_
          exact k_sub [1, 2, 3, 4, 5, 6, 7, 8, 9] rfl (t_Hb_chainWith_96 C q hlv cw hcw v1 v2 v3 v4 v5 o6 h_o6 v7 v8 p5.1 0 (b_Hb_chainWith_37 cw v1 v2 v3 v4 o6 v7 n) ih p5.2 h)
      · have h := (if_pos c2).symm.trans h
        refine k_goto C 108 d_Hb_chainWith_51 (by decide) ?_
        exact k_sub [0, 1, 2, 3, 4, 5, 6, 7, 8] rfl (t_Hb_chainWith_108 C q hlv cw hcw v1 v2 v3 v4 v5 o6 h_o6 v7 v8 (b_Hb_chainWith_37 cw v1 v2 v3 v4 o6 v7 n) ih x h)

def f_Hb_chainWith_b (cw : Int32 → Int32 → Int32 → Int32 → XD → Option (Int32 × XD)) (v1 : Int32) (v2 : Int32) (v3 : Int32) (v4 : Int32) (x : XD) : Option (Int32 × XD) := (if v1 < 3 then gI (v1 + 1) 4 (gI v1 4 (gI v2 7 (b_Hb_chainWith_37 cw v1 v2 v3 v4 (lid (v1 + 1)) (x (sid (lid v1) v2) 3) fu 1000 0 x))) else some (1000, x))
theorem m_Hb_chainWith_b {g : GC} (hg : gOk g) (l : Launch) (lv : Nat)  (hlv : 5 ≤ lv) (cw : Int32 → Int32 → Int32 → Int32 → XD → Option (Int32 × XD)) (hcw : ∀ (l : Launch) (v1 v2 v3 v4 : Int32) (x : XD) (z : ZD) (r : Int32 × XD), cw v1 v2 v3 v4 x = some r → Mi g l y_Hb_chainWith c_Hb_chainWith 10 (some .int) lv [.ref (g_a g 65), .int v1, .int v2, .int v3, .int v4] (x, z) r.1 (r.2, z)) (v1 : Int32) (v2 : Int32) (v3 : Int32) (v4 : Int32) (x : XD) (z : ZD) (r : Int32 × XD) (h : f_Hb_chainWith_b cw v1 v2 v3 v4 x = some r) : Mi g l y_Hb_chainWith c_Hb_chainWith 10 (some .int) (lv + 2) [.ref (g_a g 65), .int v1, .int v2, .int v3, .int v4] (x, z) r.1 (r.2, z) := by
  refine m_i hg pn_Hb rfl fun X q C => ?_
  refine k_sub (lv' := [(0, .ref (g_a g 65)), (1, .int v1), (2, .int v2), (3, .int v3), (4, .int v4)]) [0, 1, 2, 3, 4] rfl ?_
  unfold f_Hb_chainWith_b at h
  refine k_iload_n C d_Hb_chainWith_0 1 rfl ?_
  refine k_iconst C 3 d_Hb_chainWith_1 ic_3 ?_
  refine k_icmp_lt C 9 d_Hb_chainWith_2 (by decide) (fun c1 => ?_) (fun c1 => ?_)
  · have h := (if_pos c1).symm.trans h
    refine k_sipush C 1000 d_Hb_chainWith_9 sp_1000 ?_
    refine k_istore C (lv' := [(5, .int 1000), (0, .ref (g_a g 65)), (1, .int v1), (2, .int v2), (3, .int v3), (4, .int v4)]) d_Hb_chainWith_12 rfl rfl ?_
    refine k_aload_n C d_Hb_chainWith_14 1 rfl ?_
    refine k_iload_n C d_Hb_chainWith_15 2 rfl ?_
    refine k_iconst C 1 d_Hb_chainWith_16 ic_1 ?_
    refine k_iadd C d_Hb_chainWith_17 ?_
    obtain ⟨i2, h⟩ := gI_some h
    refine k_aald_La C i2 d_Hb_chainWith_18 ?_
    refine k_astore C (lv' := [(6, .ref (g_a g (lid (v1 + 1)))), (5, .int 1000), (0, .ref (g_a g 65)), (1, .int v1), (2, .int v2), (3, .int v3), (4, .int v4)]) d_Hb_chainWith_19 rfl rfl ?_
    refine k_aload_n C d_Hb_chainWith_21 2 rfl ?_
    refine k_iload_n C d_Hb_chainWith_22 3 rfl ?_
    obtain ⟨i3, h⟩ := gI_some h
    refine k_aald_La C i3 d_Hb_chainWith_23 ?_
    refine kg_Hb_107 C (lid_ok i3) d_Hb_chainWith_24 ?_
    refine k_iload_n C d_Hb_chainWith_27 4 rfl ?_
    obtain ⟨i4, h⟩ := gI_some h
    refine k_aald_St C (lid_ok i3) i4 d_Hb_chainWith_28 ?_
    refine kg_Hb_125 C (sid_ok (lid_ok i3) i4) d_Hb_chainWith_29 ?_
    refine k_istore C (lv' := [(7, .int (x (sid (lid v1) v2) 3)), (6, .ref (g_a g (lid (v1 + 1)))), (5, .int 1000), (0, .ref (g_a g 65)), (1, .int v1), (2, .int v2), (3, .int v3), (4, .int v4)]) d_Hb_chainWith_32 rfl rfl ?_
    refine k_iconst C 0 d_Hb_chainWith_34 ic_0 ?_
    refine k_istore C (lv' := [(8, .int 0), (7, .int (x (sid (lid v1) v2) 3)), (6, .ref (g_a g (lid (v1 + 1)))), (5, .int 1000), (0, .ref (g_a g 65)), (1, .int v1), (2, .int v2), (3, .int v3), (4, .int v4)]) d_Hb_chainWith_35 rfl rfl ?_
    exact k_sub [4, 5, 6, 7, 8, 3, 2, 1, 0] rfl (t_Hb_chainWith_37 C q hlv cw hcw v1 v2 v3 v4 (lid (v1 + 1)) (lid_ok i2) (x (sid (lid v1) v2) 3) fu 1000 0 x h)
  · have h := (if_neg c1).symm.trans h
    refine k_sipush C 1000 d_Hb_chainWith_5 sp_1000 ?_
    obtain rfl := Option.some.inj h
    exact k_iret C q d_Hb_chainWith_8

def f_Hb_chainWith : Nat → Int32 → Int32 → Int32 → Int32 → XD → Option (Int32 × XD)
  | 0, _, _, _, _, _ => none
  | n + 1, v1, v2, v3, v4, x => f_Hb_chainWith_b (f_Hb_chainWith n) v1 v2 v3 v4 x
theorem m_Hb_chainWith_all {g : GC} (hg : gOk g) : ∀ (n : Nat) (l : Launch) (v1 v2 v3 v4 : Int32) (x : XD) (z : ZD) (r : Int32 × XD), f_Hb_chainWith n v1 v2 v3 v4 x = some r → Mi g l y_Hb_chainWith c_Hb_chainWith 10 (some .int) (5 + 2 * n) [.ref (g_a g 65), .int v1, .int v2, .int v3, .int v4] (x, z) r.1 (r.2, z) := by
  intro n
  induction n with
  | zero =>
    intro l v1 v2 v3 v4 x z r h
    rw [f_Hb_chainWith] at h
    cases h
  | succ n ih =>
    intro l v1 v2 v3 v4 x z r h
    rw [f_Hb_chainWith] at h
    exact m_Hb_chainWith_b hg l (5 + 2 * n) (by omega) (f_Hb_chainWith n) ih v1 v2 v3 v4 x z r h
theorem m_Hb_chainWith {g : GC} (hg : gOk g) (l : Launch) (n : Nat) (v1 v2 v3 v4 : Int32) (x : XD) (z : ZD) (r : Int32 × XD) (h : f_Hb_chainWith n v1 v2 v3 v4 x = some r) : Mi g l y_Hb_chainWith c_Hb_chainWith 10 (some .int) (5 + 2 * n) [.ref (g_a g 65), .int v1, .int v2, .int v3, .int v4] (x, z) r.1 (r.2, z) := m_Hb_chainWith_all hg n l v1 v2 v3 v4 x z r h
def b_Hb_chain_131 (K64 : Int32 → Int32 → Int32 → XD → Option (Int32 × XD)) (v1 : Int32) (v2 : Int32) (v3 : Int32) (v4 : Int32) (v5 : Int32) (v6 : Int32) (x : XD) : Option (Int32 × XD) := K64 v4 v5 (v6 + 1) x
theorem t_Hb_chain_131 {g : GC} {X : MX} (C : Cx g X c_Hb_chain 8 n_Hb 14) {r : Int32 × XD} {z : ZD} (q : RtI g X (some .int) r.1 (r.2, z)) (v1 : Int32) (v2 : Int32) (v3 : Int32) (v4 : Int32) (v5 : Int32) (v6 : Int32) (K64 : Int32 → Int32 → Int32 → XD → Option (Int32 × XD)) (hK64 : ∀ (v4 : Int32) (v5 : Int32) (v6 : Int32) (x : XD), K64 v4 v5 v6 x = some r → Wk g X 8 64 [(0, .ref (g_a g 0)), (1, .int v1), (2, .int v2), (3, .int v3), (4, .int v4), (5, .int v5), (6, .int v6)] [] (x, z)) (x : XD) (h : b_Hb_chain_131 K64 v1 v2 v3 v4 v5 v6 x = some r) : Wk g X 8 131 [(0, .ref (g_a g 0)), (1, .int v1), (2, .int v2), (3, .int v3), (4, .int v4), (5, .int v5), (6, .int v6)] [] (x, z) := by
  unfold b_Hb_chain_131 at h
  refine k_inc C (lv' := [(6, .int (v6 + 1)), (0, .ref (g_a g 0)), (1, .int v1), (2, .int v2), (3, .int v3), (4, .int v4), (5, .int v5)]) d_Hb_chain_131 6 rfl ic_1 rfl rfl ?_
  refine k_goto C 64 d_Hb_chain_134 (by decide) ?_
  exact k_sub [1, 2, 3, 4, 5, 6, 0] rfl (hK64 v4 v5 (v6 + 1) x h)

def b_Hb_chain_114 (K64 : Int32 → Int32 → Int32 → XD → Option (Int32 × XD)) (v1 : Int32) (v2 : Int32) (v3 : Int32) (v4 : Int32) (v5 : Int32) (v6 : Int32) (vt0 : Int32) (x : XD) : Option (Int32 × XD) := (if v4 ≤ vt0 then b_Hb_chain_131 K64 v1 v2 v3 v4 v5 v6 x else b_Hb_chain_131 K64 v1 v2 v3 vt0 v6 v6 x)
theorem t_Hb_chain_114 {g : GC} {X : MX} (C : Cx g X c_Hb_chain 8 n_Hb 14) {r : Int32 × XD} {z : ZD} (q : RtI g X (some .int) r.1 (r.2, z)) (v1 : Int32) (v2 : Int32) (v3 : Int32) (v4 : Int32) (v5 : Int32) (v6 : Int32) (vt0 : Int32) (K64 : Int32 → Int32 → Int32 → XD → Option (Int32 × XD)) (hK64 : ∀ (v4 : Int32) (v5 : Int32) (v6 : Int32) (x : XD), K64 v4 v5 v6 x = some r → Wk g X 8 64 [(0, .ref (g_a g 0)), (1, .int v1), (2, .int v2), (3, .int v3), (4, .int v4), (5, .int v5), (6, .int v6)] [] (x, z)) (x : XD) (h : b_Hb_chain_114 K64 v1 v2 v3 v4 v5 v6 vt0 x = some r) : Wk g X 8 114 [(0, .ref (g_a g 0)), (1, .int v1), (2, .int v2), (3, .int v3), (4, .int v4), (5, .int v5), (6, .int v6)] [.int vt0] (x, z) := by
  unfold b_Hb_chain_114 at h
  refine k_istore C (lv' := [(7, .int vt0), (0, .ref (g_a g 0)), (1, .int v1), (2, .int v2), (3, .int v3), (4, .int v4), (5, .int v5), (6, .int v6)]) d_Hb_chain_114 rfl rfl ?_
  refine k_iload C d_Hb_chain_116 0 rfl ?_
  refine k_iload C d_Hb_chain_118 5 rfl ?_
  refine k_icmp_ge C 131 d_Hb_chain_120 (by decide) (fun c1 => ?_) (fun c1 => ?_)
  · have h := (if_pos c1).symm.trans h
    exact k_sub [1, 2, 3, 4, 5, 6, 7] rfl (t_Hb_chain_131 C q v1 v2 v3 v4 v5 v6 K64 hK64 x h)
  · have h := (if_neg c1).symm.trans h
    refine k_iload C d_Hb_chain_123 0 rfl ?_
    refine k_istore C (lv' := [(4, .int vt0), (7, .int vt0), (0, .ref (g_a g 0)), (1, .int v1), (2, .int v2), (3, .int v3), (5, .int v5), (6, .int v6)]) d_Hb_chain_125 rfl rfl ?_
    refine k_iload C d_Hb_chain_127 7 rfl ?_
    refine k_istore C (lv' := [(5, .int v6), (4, .int vt0), (7, .int vt0), (0, .ref (g_a g 0)), (1, .int v1), (2, .int v2), (3, .int v3), (6, .int v6)]) d_Hb_chain_129 rfl rfl ?_
    exact k_sub [3, 4, 5, 6, 1, 0, 7] rfl (t_Hb_chain_131 C q v1 v2 v3 vt0 v6 v6 K64 hK64 x h)

def b_Hb_chain_64 (v1 : Int32) (v2 : Int32) (v3 : Int32) : Nat → Int32 → Int32 → Int32 → XD → Option (Int32 × XD)
  | 0, _, _, _, _ => none
  | n + 1, v4, v5, v6, x => (if x 10 2 ≤ v6 then (if v4 < 1000 then (if v3 = 0 then some (v4, x) else some (v5, x)) else some ((-4), x)) else gI v6 7 ((if x (sid 10 v6) 3 = v1 then (f_Hb_chainWith 4 0 v6 v2 (1 <<< (v6 &&& 31)) x).bind fun p6 => (b_Hb_chain_114 (b_Hb_chain_64 v1 v2 v3 n) v1 v2 v3 v4 v5 v6 p6.1 p6.2) else b_Hb_chain_114 (b_Hb_chain_64 v1 v2 v3 n) v1 v2 v3 v4 v5 v6 1000 x)))
theorem t_Hb_chain_64 {g : GC} {X : MX} (C : Cx g X c_Hb_chain 8 n_Hb 14) {r : Int32 × XD} {z : ZD} (q : RtI g X (some .int) r.1 (r.2, z)) (v1 : Int32) (v2 : Int32) (v3 : Int32) : ∀ (n : Nat) (v4 : Int32) (v5 : Int32) (v6 : Int32) (x : XD) (h : b_Hb_chain_64 v1 v2 v3 n v4 v5 v6 x = some r), Wk g X 8 64 [(0, .ref (g_a g 0)), (1, .int v1), (2, .int v2), (3, .int v3), (4, .int v4), (5, .int v5), (6, .int v6)] [] (x, z) := by
  intro n
  induction n with
  | zero =>
    intro v4 v5 v6 x h
    rw [b_Hb_chain_64] at h
    cases h
  | succ n ih =>
    intro v4 v5 v6 x h
    rw [b_Hb_chain_64] at h
    refine k_iload C d_Hb_chain_64 6 rfl ?_
    refine k_aload_n C d_Hb_chain_66 0 rfl ?_
    refine kg_Hb_42 C d_Hb_chain_67 ?_
    refine kg_Hb_149 C (by decide) d_Hb_chain_70 ?_
    refine k_icmp_ge C 137 d_Hb_chain_73 (by decide) (fun c1 => ?_) (fun c1 => ?_)
    · have h := (if_pos c1).symm.trans h
      refine k_iload C d_Hb_chain_137 4 rfl ?_
      refine k_sipush C 1000 d_Hb_chain_139 sp_1000 ?_
      refine k_icmp_lt C 148 d_Hb_chain_142 (by decide) (fun c2 => ?_) (fun c2 => ?_)
      · have h := (if_pos c2).symm.trans h
        refine k_iload_n C d_Hb_chain_148 3 rfl ?_
        refine k_if_ne C 157 d_Hb_chain_149 (by decide) (fun c3 => ?_) (fun c3 => ?_)
        · have h := (if_neg c3).symm.trans h
          refine k_iload C d_Hb_chain_157 5 rfl ?_
          obtain rfl := Option.some.inj h
          exact k_iret C q d_Hb_chain_159
        · have h := (if_pos c3).symm.trans h
          refine k_iload C d_Hb_chain_152 4 rfl ?_
          refine k_goto C 159 d_Hb_chain_154 (by decide) ?_
          obtain rfl := Option.some.inj h
          exact k_iret C q d_Hb_chain_159
      · have h := (if_neg c2).symm.trans h
        refine k_bipush C (-4) d_Hb_chain_145 bp_m4 ?_
        obtain rfl := Option.some.inj h
        exact k_iret C q d_Hb_chain_147
    · have h := (if_neg c1).symm.trans h
      refine k_aload_n C d_Hb_chain_76 0 rfl ?_
      refine kg_Hb_42 C d_Hb_chain_77 ?_
      refine kg_Hb_107 C (by decide) d_Hb_chain_80 ?_
      refine k_iload C d_Hb_chain_83 6 rfl ?_
      obtain ⟨i4, h⟩ := gI_some h
      refine k_aald_St C (by decide) i4 d_Hb_chain_85 ?_
      refine kg_Hb_125 C (sid_ok (by decide) i4) d_Hb_chain_86 ?_
      refine k_iload_n C d_Hb_chain_89 1 rfl ?_
      refine k_icmp_ne C 111 d_Hb_chain_90 (by decide) (fun c5 => ?_) (fun c5 => ?_)
      · have h := (if_neg c5).symm.trans h
        refine k_sipush C 1000 d_Hb_chain_111 sp_1000 ?_
        exact k_sub [0, 1, 2, 3, 4, 5, 6] rfl (t_Hb_chain_114 C q v1 v2 v3 v4 v5 v6 1000 (b_Hb_chain_64 v1 v2 v3 n) ih x h)
      · have h := (if_pos c5).symm.trans h
        refine k_aload_n C d_Hb_chain_93 0 rfl ?_
        refine kg_Hb_49 C d_Hb_chain_94 ?_
        refine k_iconst C 0 d_Hb_chain_97 ic_0 ?_
        refine k_iload C d_Hb_chain_98 6 rfl ?_
        refine k_iload_n C d_Hb_chain_100 2 rfl ?_
        refine k_iconst C 1 d_Hb_chain_101 ic_1 ?_
        refine k_iload C d_Hb_chain_102 6 rfl ?_
        refine k_ishl C d_Hb_chain_104 ?_
        obtain ⟨p6, ep6, h⟩ := bd_some h
        refine k_callSi C q_Hb_190 (fun l => m_Hb_chainWith (cx_g C) l 4 0 v6 v2 (1 <<< (v6 &&& 31)) x z p6 ep6) rfl rfl (rtI_c q) rfl rfl rfl d_Hb_chain_105 ?_
        refine k_goto C 114 d_Hb_chain_108 (by decide) ?_
        exact k_sub [0, 1, 2, 3, 4, 5, 6] rfl (t_Hb_chain_114 C q v1 v2 v3 v4 v5 v6 p6.1 (b_Hb_chain_64 v1 v2 v3 n) ih p6.2 h)

def f_Hb_chain (v1 : Int32) (v2 : Int32) (v3 : Int32) (x : XD) : Option (Int32 × XD) := (f_Hb_isYard v1 x).bind fun p1 => ((if p1.1 = 0 then some ((-1), p1.2) else (f_Hb_isYard v2 p1.2).bind fun p3 => ((if p3.1 = 0 then some ((-1), p3.2) else (f_Hb_isEither v3 p3.2).bind fun p5 => ((if p5.1 = 0 then some ((-1), p5.2) else (if v1 = v2 then (if v3 = 0 then some (0, p5.2) else some ((-4), p5.2)) else (f_La_become 12 10 p5.2).bind fun p8 => (b_Hb_chain_64 v1 v2 v3 fu 1000 (-4) 0 p8.2))))))))
theorem m_Hb_chain {g : GC} (hg : gOk g) (l : Launch)  (v1 : Int32) (v2 : Int32) (v3 : Int32) (x : XD) (z : ZD) (r : Int32 × XD) (h : f_Hb_chain v1 v2 v3 x = some r) : Mi g l y_Hb_chain c_Hb_chain 8 (some .int) 14 [.ref (g_a g 0), .int v1, .int v2, .int v3] (x, z) r.1 (r.2, z) := by
  refine m_i hg pn_Hb rfl fun X q C => ?_
  refine k_sub (lv' := [(0, .ref (g_a g 0)), (1, .int v1), (2, .int v2), (3, .int v3)]) [0, 1, 2, 3] rfl ?_
  unfold f_Hb_chain at h
  refine k_iload_n C d_Hb_chain_0 1 rfl ?_
  obtain ⟨p1, ep1, h⟩ := bd_some h
  refine k_callSi C q_Hb_143 (fun l => m_Hb_isYard (cx_g C) l v1 x z p1 ep1) rfl rfl (rtI_c q) rfl rfl rfl d_Hb_chain_1 ?_
  refine k_if_eq C 21 d_Hb_chain_4 (by decide) (fun c2 => ?_) (fun c2 => ?_)
  · have h := (if_pos c2).symm.trans h
    refine k_iconst C (-1) d_Hb_chain_21 ic_m1 ?_
    obtain rfl := Option.some.inj h
    exact k_iret C q d_Hb_chain_22
  · have h := (if_neg c2).symm.trans h
    refine k_iload_n C d_Hb_chain_7 2 rfl ?_
    obtain ⟨p3, ep3, h⟩ := bd_some h
    refine k_callSi C q_Hb_143 (fun l => m_Hb_isYard (cx_g C) l v2 p1.2 z p3 ep3) rfl rfl (rtI_c q) rfl rfl rfl d_Hb_chain_8 ?_
    refine k_if_eq C 21 d_Hb_chain_11 (by decide) (fun c4 => ?_) (fun c4 => ?_)
    · have h := (if_pos c4).symm.trans h
      refine k_iconst C (-1) d_Hb_chain_21 ic_m1 ?_
      obtain rfl := Option.some.inj h
      exact k_iret C q d_Hb_chain_22
    · have h := (if_neg c4).symm.trans h
      refine k_iload_n C d_Hb_chain_14 3 rfl ?_
      obtain ⟨p5, ep5, h⟩ := bd_some h
      refine k_callSi C q_Hb_180 (fun l => m_Hb_isEither (cx_g C) l v3 p3.2 z p5 ep5) rfl rfl (rtI_c q) rfl rfl rfl d_Hb_chain_15 ?_
      refine k_if_ne C 23 d_Hb_chain_18 (by decide) (fun c6 => ?_) (fun c6 => ?_)
      · have h := (if_neg c6).symm.trans h
        refine k_iload_n C d_Hb_chain_23 1 rfl ?_
        refine k_iload_n C d_Hb_chain_24 2 rfl ?_
        refine k_icmp_ne C 39 d_Hb_chain_25 (by decide) (fun c7 => ?_) (fun c7 => ?_)
        · have h := (if_neg c7).symm.trans h
          refine k_aload_n C d_Hb_chain_39 0 rfl ?_
          refine kg_Hb_49 C d_Hb_chain_40 ?_
          refine k_iconst C 0 d_Hb_chain_43 ic_0 ?_
          refine k_aald_L0 C d_Hb_chain_44 ?_
          refine k_aload_n C d_Hb_chain_45 0 rfl ?_
          refine kg_Hb_42 C d_Hb_chain_46 ?_
          obtain ⟨p8, ep8, h⟩ := bd_some h
          refine k_callVv C q_Hb_85 (fun l => m_La_become (cx_g C) l 12 (by decide) 10 (by decide) p5.2 z p8 ep8) rfl rfl (rtI_c q) (by decide) (sh_La (by decide)) rfl rfl rfl rfl d_Hb_chain_49 ?_
          refine k_sipush C 1000 d_Hb_chain_52 sp_1000 ?_
          refine k_istore C (lv' := [(4, .int 1000), (0, .ref (g_a g 0)), (1, .int v1), (2, .int v2), (3, .int v3)]) d_Hb_chain_55 rfl rfl ?_
          refine k_bipush C (-4) d_Hb_chain_57 bp_m4 ?_
          refine k_istore C (lv' := [(5, .int (-4)), (4, .int 1000), (0, .ref (g_a g 0)), (1, .int v1), (2, .int v2), (3, .int v3)]) d_Hb_chain_59 rfl rfl ?_
          refine k_iconst C 0 d_Hb_chain_61 ic_0 ?_
          refine k_istore C (lv' := [(6, .int 0), (5, .int (-4)), (4, .int 1000), (0, .ref (g_a g 0)), (1, .int v1), (2, .int v2), (3, .int v3)]) d_Hb_chain_62 rfl rfl ?_
          exact k_sub [3, 4, 5, 6, 2, 1, 0] rfl (t_Hb_chain_64 C q v1 v2 v3 fu 1000 (-4) 0 p8.2 h)
        · have h := (if_pos c7).symm.trans h
          refine k_iload_n C d_Hb_chain_28 3 rfl ?_
          refine k_if_ne C 36 d_Hb_chain_29 (by decide) (fun c9 => ?_) (fun c9 => ?_)
          · have h := (if_neg c9).symm.trans h
            refine k_bipush C (-4) d_Hb_chain_36 bp_m4 ?_
            obtain rfl := Option.some.inj h
            exact k_iret C q d_Hb_chain_38
          · have h := (if_pos c9).symm.trans h
            refine k_iconst C 0 d_Hb_chain_32 ic_0 ?_
            refine k_goto C 38 d_Hb_chain_33 (by decide) ?_
            obtain rfl := Option.some.inj h
            exact k_iret C q d_Hb_chain_38
      · have h := (if_pos c6).symm.trans h
        refine k_iconst C (-1) d_Hb_chain_21 ic_m1 ?_
        obtain rfl := Option.some.inj h
        exact k_iret C q d_Hb_chain_22


/-! element, and the law's catching call of it. -/
def c_Lw_element : ByteArray := method_3_code
def y_Lw_element : MethodName := ⟨n_Lw, "element", "(LHiredByLonging;II[J)I"⟩
theorem d_Lw_element_0 : decode c_Lw_element 0 = .ok (.aload_n 3, 1) := by decide +kernel
theorem d_Lw_element_1 : decode c_Lw_element 1 = .ok (.iconst 0, 1) := by decide +kernel
theorem d_Lw_element_2 : decode c_Lw_element 2 = .ok (.aload_n 0, 1) := by decide +kernel
theorem d_Lw_element_3 : decode c_Lw_element 3 = .ok (.iload_n 1, 1) := by decide +kernel
theorem d_Lw_element_4 : decode c_Lw_element 4 = .ok (.iload_n 2, 1) := by decide +kernel
theorem d_Lw_element_5 : decode c_Lw_element 5 = .ok (.invokevirtual 7, 3) := by decide +kernel
theorem d_Lw_element_8 : decode c_Lw_element 8 = .ok (.lastore, 1) := by decide +kernel
theorem d_Lw_element_9 : decode c_Lw_element 9 = .ok (.goto 11, 3) := by decide +kernel
theorem d_Lw_element_12 : decode c_Lw_element 12 = .ok (.astore 4, 2) := by decide +kernel
theorem d_Lw_element_14 : decode c_Lw_element 14 = .ok (.iconst 1, 1) := by decide +kernel
theorem d_Lw_element_15 : decode c_Lw_element 15 = .ok (.ireturn, 1) := by decide +kernel
theorem d_Lw_element_16 : decode c_Lw_element 16 = .ok (.astore 4, 2) := by decide +kernel
theorem d_Lw_element_18 : decode c_Lw_element 18 = .ok (.iconst 2, 1) := by decide +kernel
theorem d_Lw_element_19 : decode c_Lw_element 19 = .ok (.ireturn, 1) := by decide +kernel
theorem d_Lw_element_20 : decode c_Lw_element 20 = .ok (.iconst 0, 1) := by decide +kernel
theorem d_Lw_element_21 : decode c_Lw_element 21 = .ok (.ireturn, 1) := by decide +kernel
theorem xw_e1 : Cond.methodLink n_Lw 7 y_Hb_element ∈ TW := tw_of 930 (by decide +kernel) (by decide +kernel)
theorem xw_e2 : Cond.instanceMethod y_Hb_element ∈ TW := tw_of 931 (by decide +kernel) (by decide +kernel)
theorem xw_e3 : Cond.selects n_Hb y_Hb_element y_Hb_element ∈ TW := tw_of 932 (by decide +kernel) (by decide +kernel)
theorem xw_e4 : Cond.initialized n_Hb ∈ TW := tw_of 52 (by decide +kernel) (by decide +kernel)
theorem xw_e5 : Cond.code y_Hb_element c_Hb_element 3 (some .long) ∈ TW := tw_of 933 (by decide +kernel) (by decide +kernel)
theorem xl_Lw_a : Cond.classLink n_Lw 13 xE_a ∈ TW := tw_of 928 (by decide +kernel) (by decide +kernel)
theorem xl_Lw_i : Cond.classLink n_Lw 15 xE_i ∈ TW := tw_of 929 (by decide +kernel) (by decide +kernel)
def f_Hb_element (v1 v2 : Int32) (x : XD) : Option ((Option String × Int64) × XD) := (f_Hb_isShelf v1 x).bind fun p1 => if p1.1 = 0 then some ((some xE_a, 0), p1.2) else gI v1 8 (if p1.2 (hid v1) 0 = 2 then gI v1 8 ((f_Hb_isWithin v2 0 ((p1.2 (hid v1) 4) - 1) p1.2).bind fun p2 => if p2.1 = 0 then some ((some xE_i, 0), p2.2) else gI v1 8 (gI v2 100 (some ((none, (p2.2 (hid v1 + 8) v2.toNatClampNeg).toInt64), p2.2)))) else some ((some xE_i, 0), p1.2))
def MxE (g : GC) (l : Launch) (lvl : Nat) (av : List Value) (w : WD) (E : Option String) (r : Int64) (w' : WD) : Prop :=
  vx_Met l y_Hb_element (.code y_Hb_element c_Hb_element 3 (some .long) :: TW) (rmx lvl) (va_Pc av (fun U => xPre g w U)) (va_Ql (fun (r2 : Int64) (_ : Unit) => E = none ∧ r2 = r) (fun _ t => Wat g w' t) (AB g)) (xQX g E w') 1 6 (AB g)
section EL
variable {g : GC} {l : Launch}
set_option maxHeartbeats 1000000 in
theorem m_Hb_element (hg : gOk g) (hlt : l.stackTraces = false) (v1 v2 : Int32) (x : XD) (z : ZD) (r : (Option String × Int64) × XD) (h : f_Hb_element v1 v2 x = some r) : MxE g l 8 [.ref (g_a g 0), .int v1, .int v2] (x, z) r.1.1 r.1.2 (r.2, z) := by
  refine vx_ofW (cc := c_Hb_element) (maxL := 3) (ret := some .long) pn_Hb rfl ?_
  intro p e s m args below meth c s₁ B hml hex hv
  obtain ⟨rfl, ⟨⟨hP, hK, hb⟩, hnw⟩, hE⟩ := hv
  have hts := atoms_spec (ws := .code y_Hb_element c_Hb_element 3 (some .long) :: TW) B.pre
  have hown : s.vm.findClass n_Hb = some m.cls := findClass_of_methodNamed B.named
  have htw : ∀ w ∈ TW, w.before _ s = true := fun w hw => hts w (List.mem_cons_of_mem _ hw)
  have hl := lv_entry [Value.ref (g_a g 0), Value.int v1, Value.int v2] (n := 3) (Nat.le_of_ble_eq_true rfl)
  rw [lg_entry_eq]
  have hthi : ∀ (w0 : XD) (loc : List (Nat × Value)), r = ((some xE_i, 0), w0) → Wk g (p, l, e, rmx 8, s, m, [Value.ref (g_a g 0), Value.int v1, Value.int v2].toArray, below, meth, c, vx_MQ below (va_Ql (fun (r2 : Int64) (_ : Unit) => r.1.1 = none ∧ r2 = r.1.2) (fun _ t => Wat g (r.2, z) t) (AB g)) (xQX g r.1.1 (r.2, z)) [Value.ref (g_a g 0), Value.int v1, Value.int v2].toArray s 1 6 (AB g), 0, 0) 3 50 loc [] (w0, z) := by
    rintro w0 loc rfl
    intro H locs ls hP hS hl
    obtain ⟨sa, hstr⟩ := hE.2.2.2.2.2.2.1
    refine vx_throwSW (own := n_Hb) (cls := xE_i) (text := "no row, or no such place in it") (names := x_nm) (ik := 277) (is := 279) (ic := 281) (sa := sa) (A := AB g) B.exec B.bytes hlt hown xf_i xf_nm (htw _ xl_Hb_i) (htw _ xl_i) hstr (fun w hw => (xa_Hi w hw).elim (fun h => htw w h) (fun h => hnw.use h)) xo_Hi hE.1 hE.2.1 hS (hl.1.trans hml.symm) d_Hb_element_50 d_Hb_element_53 d_Hb_element_54 d_Hb_element_57 d_Hb_element_60 (fun x hx => (hex x hx).elim) (by decide) (by decide) (by decide) (by decide) B.notSynchronized (fun t hA h1 h2 => ?_) hS.2.2 (by decide) (by decide)
    obtain ⟨q1, q2⟩ := wat_later hK hb hP hS hA h1 h2
    exact ⟨(), trivial, ⟨rfl, q1⟩, q2⟩
  have htha : ∀ (w0 : XD) (loc : List (Nat × Value)), r = ((some xE_a, 0), w0) → Wk g (p, l, e, rmx 8, s, m, [Value.ref (g_a g 0), Value.int v1, Value.int v2].toArray, below, meth, c, vx_MQ below (va_Ql (fun (r2 : Int64) (_ : Unit) => r.1.1 = none ∧ r2 = r.1.2) (fun _ t => Wat g (r.2, z) t) (AB g)) (xQX g r.1.1 (r.2, z)) [Value.ref (g_a g 0), Value.int v1, Value.int v2].toArray s 1 6 (AB g), 0, 0) 3 7 loc [] (w0, z) := by
    rintro w0 loc rfl
    intro H locs ls hP hS hl
    obtain ⟨sa, hstr⟩ := hE.2.2.2.2.2.1
    refine vx_throwSW (own := n_Hb) (cls := xE_a) (text := "no such shelf") (names := x_nm) (ik := 270) (is := 272) (ic := 274) (sa := sa) (A := AB g) B.exec B.bytes hlt hown xf_a xf_nm (htw _ xl_Hb_a) (htw _ xl_a) hstr (fun w hw => (xa_Ha w hw).elim (fun h => htw w h) (fun h => hnw.use h)) xo_Ha hE.1 hE.2.1 hS (hl.1.trans hml.symm) d_Hb_element_7 d_Hb_element_10 d_Hb_element_11 d_Hb_element_14 d_Hb_element_17 (fun x hx => (hex x hx).elim) (by decide) (by decide) (by decide) (by decide) B.notSynchronized (fun t hA h1 h2 => ?_) hS.2.2 (by decide) (by decide)
    obtain ⟨q1, q2⟩ := wat_later hK hb hP hS hA h1 h2
    exact ⟨(), trivial, ⟨rfl, q1⟩, q2⟩
  have hret : ∀ (loc : List (Nat × Value)) (r0 : Int64) (w0 : XD), r = ((none, r0), w0) → Wk g (p, l, e, rmx 8, s, m, [Value.ref (g_a g 0), Value.int v1, Value.int v2].toArray, below, meth, c, vx_MQ below (va_Ql (fun (r2 : Int64) (_ : Unit) => r.1.1 = none ∧ r2 = r.1.2) (fun _ t => Wat g (r.2, z) t) (AB g)) (xQX g r.1.1 (r.2, z)) [Value.ref (g_a g 0), Value.int v1, Value.int v2].toArray s 1 6 (AB g), 0, 0) 3 73 loc [.long r0] (w0, z) := by
    rintro loc r0 w0 rfl
    exact k_wd (fun H locs ls hP hS hl => vx_ret (W.lret B.exec B.bytes B.returns (fun t ht hW => ⟨⟨r0, (), rfl, ⟨rfl, rfl⟩, by rw [ht]; exact hP, va_K.moved hW.alike hK, by rw [ht]; exact Nat.le_trans hb hS.1⟩, hS.F ht⟩) hS.2.2 d_Hb_element_73 B.notSynchronized))
  generalize hQ : vx_MQ below (va_Ql (fun (r2 : Int64) (_ : Unit) => r.1.1 = none ∧ r2 = r.1.2) (fun _ t => Wat g (r.2, z) t) (AB g)) (xQX g r.1.1 (r.2, z)) [Value.ref (g_a g 0), Value.int v1, Value.int v2].toArray s 1 6 (AB g) = Q at hret hthi htha ⊢
  have C : Cx g (p, l, e, rmx 8, s, m, [Value.ref (g_a g 0), Value.int v1, Value.int v2].toArray, below, meth, c, Q, 0, 0) c_Hb_element 3 n_Hb 8 := ⟨B.exec, B.bytes, hml, hown, htw, hK, hg, hb, Nat.le_refl _, Nat.le_refl _, hnw⟩
  have key : Wk g (p, l, e, rmx 8, s, m, [Value.ref (g_a g 0), Value.int v1, Value.int v2].toArray, below, meth, c, Q, 0, 0) 3 0 (lv_args 0 [Value.ref (g_a g 0), Value.int v1, Value.int v2]) [] (x, z) := by
    refine k_sub (lv' := [(0, .ref (g_a g 0)), (1, .int v1), (2, .int v2)]) [0, 1, 2] rfl ?_
    unfold f_Hb_element at h
    refine k_iload_n C d_Hb_element_0 1 rfl ?_
    obtain ⟨p1, ep1, h⟩ := bd_some h
    refine k_callSi C q_Hb_255 (fun l => m_Hb_isShelf (cx_g C) l v1 x z p1 ep1) rfl rfl ⟨Nat.zero_le _, Nat.zero_le _⟩ rfl rfl rfl d_Hb_element_1 ?_
    refine k_if_ne C 18 d_Hb_element_4 (by decide) (fun c1 => ?_) (fun c1 => ?_)
    rotate_left
    · have h := (if_pos c1).symm.trans h
      exact htha _ _ (Option.some.inj h).symm
    have h := (if_neg c1).symm.trans h
    obtain ⟨i1, h⟩ := gI_some h
    refine k_aload_n C d_Hb_element_18 0 rfl ?_
    refine kg_Hb_64 C d_Hb_element_19 ?_
    refine k_iload_n C d_Hb_element_22 1 rfl ?_
    refine k_aald_Sh C i1 d_Hb_element_23 ?_
    refine kg_Hb_258 C (hid_ok i1) d_Hb_element_24 ?_
    refine k_iconst C 2 d_Hb_element_27 ic_2 ?_
    refine k_icmp_ne C 50 d_Hb_element_28 (by decide) (fun c2 => ?_) (fun c2 => ?_)
    · have h := (if_neg c2).symm.trans h
      exact hthi _ _ (Option.some.inj h).symm
    have h := (if_pos c2).symm.trans h
    obtain ⟨i2, h⟩ := gI_some h
    refine k_iload_n C d_Hb_element_31 2 rfl ?_
    refine k_iconst C 0 d_Hb_element_32 ic_0 ?_
    refine k_aload_n C d_Hb_element_33 0 rfl ?_
    refine kg_Hb_64 C d_Hb_element_34 ?_
    refine k_iload_n C d_Hb_element_37 1 rfl ?_
    refine k_aald_Sh C i2 d_Hb_element_38 ?_
    refine kg_Hb_89 C (hid_ok i2) d_Hb_element_39 ?_
    refine k_iconst C 1 d_Hb_element_42 ic_1 ?_
    refine k_isub C d_Hb_element_43 ?_
    obtain ⟨p2, ep2, h⟩ := bd_some h
    refine k_callSi C q_Hb_169 (fun l => m_Hb_isWithin (cx_g C) l v2 0 ((p1.2 (hid v1) 4) - 1) p1.2 z p2 ep2) rfl rfl ⟨Nat.zero_le _, Nat.zero_le _⟩ rfl rfl rfl d_Hb_element_44 ?_
    refine k_if_ne C 61 d_Hb_element_47 (by decide) (fun c3 => ?_) (fun c3 => ?_)
    rotate_left
    · have h := (if_pos c3).symm.trans h
      exact hthi _ _ (Option.some.inj h).symm
    have h := (if_neg c3).symm.trans h
    obtain ⟨i3, h⟩ := gI_some h
    obtain ⟨i4, h⟩ := gI_some h
    refine k_aload_n C d_Hb_element_61 0 rfl ?_
    refine kg_Hb_64 C d_Hb_element_62 ?_
    refine k_iload_n C d_Hb_element_65 1 rfl ?_
    refine k_aald_Sh C i3 d_Hb_element_66 ?_
    refine kg_Hb_96 C (hid_ok i3) d_Hb_element_67 ?_
    refine k_iload_n C d_Hb_element_70 2 rfl ?_
    refine k_ialdE C (hid_ok i3) i4 d_Hb_element_71 ?_
    refine k_i2l C d_Hb_element_72 ?_
    exact hret _ _ _ (Option.some.inj h).symm
  exact key s.heap [] _ hP va_S.rf hl
end EL
def hh_elem : List (Nat × Nat × Nat × Nat) := [(0, 9, 12, 13), (0, 9, 16, 15)]
theorem hz_elem : tableOf hh_elem = [⟨0, 9, 12, 13⟩, ⟨0, 9, 16, 15⟩] := rfl
theorem pn_Lw : plainName n_Lw = true := by decide +kernel
def MiE (g : GC) (l : Launch) (lvl : Nat) (av : List Value) (w : WD) (r : Int32) (w' : WD) : Prop :=
  Met l y_Lw_element (.codeWith y_Lw_element c_Lw_element 5 (some .int) hh_elem :: TW) (rmx lvl) (va_Pc av (fun U => xPre g w U)) (va_Qi (fun (r2 : Int32) (_ : Unit) => r2 = r) (fun _ t => Wat g w' t) (AB g)) 1 6 (AB g)
def x_code (E : Option String) : Int32 := if E = none then 0 else if E = some xE_a then 1 else 2
theorem sh_out {g : GC} {x : XD} {m : MD} {oo : Nat → Int64} : shW g (x, m, oo) 104 = .inl (g_c g 1, 1, .inr (.inl oo)) := rfl
theorem wl_set2 {g : GC} {w w' : WD} {k : Nat} {v : va_E} (hk : k < 105) (hv : shW g w' k = v) (ho : ∀ j, j < 105 → j ≠ k → shW g w' j = shW g w j) : (wl g w).set k (g_a g k, v) = wl g w' := by
  refine List.ext_getElem? fun i => ?_
  rw [List.getElem?_set]
  rcases Nat.lt_or_ge i 105 with h | h
  · rw [wl_at (w := w) h, wl_at (w := w') h]
    by_cases e : k = i
    · subst e
      simp [wl, hk, hv]
    · rw [if_neg e, ho i h (fun q => e q.symm)]
  · rw [if_neg (by omega)]
    simp [wl, h]
theorem k_lastO {g : GC} {X : MX} {cc : ByteArray} {nL : Nat} {own : String} {lvl : Nat} {pc : Nat} {loc : List (Nat × Value)} {rest : List Value} {x : XD} {m : MD} {oo : Nat → Int64} {i : Int32} {v : Int64} (C : Cx g X cc nL own lvl) (hi : vp_in i 1) (hd : decode cc pc = .ok (.lastore, 1)) (h : Wk g X nL (pc + 1) loc rest (x, m, vp_updL oo i.toNatClampNeg v)) : Wk g X nL pc loc (.long v :: .int i :: .ref (g_a g 104) :: rest) (x, m, oo) := by
  obtain ⟨p, l, e, R, s, m9, args, below, meth, c, Q, cells, slots⟩ := X
  obtain ⟨hx, hb, hml, hown, hts, hK, hg, hbs, hfr, hlo, hnw⟩ := C
  refine fun H locs ls hP hS hl => va_last hx hb hK hP (hg.d _) hS 104 1 (by rw [wl_at (by decide), sh_out]) rfl hi hd (fun H1 locs1 hP1 hD1 hS1 => ?_)
  rw [wl_set2 (w' := (x, m, vp_updL oo i.toNatClampNeg v)) (by decide) sh_out (fun j hj hj2 => ?_)] at hP1
  · exact h H1 locs1 ls hP1 hS1 hl
  · unfold shW
    by_cases h1 : j < 83
    · rw [if_pos h1, if_pos h1]
    · rw [if_neg h1, if_neg h1, if_pos (by omega), if_pos (by omega)]
section EL2
variable {g : GC} {l : Launch}
set_option maxHeartbeats 1000000 in
theorem m_Lw_element (hg : gOk g) (hlt : l.stackTraces = false) (v1 v2 : Int32) (x : XD) (m0 : MD) (oo : Nat → Int64) (r : (Option String × Int64) × XD) (h : f_Hb_element v1 v2 x = some r) (hEr : r.1.1 = none ∨ r.1.1 = some xE_a ∨ r.1.1 = some xE_i) : MiE g l 10 [.ref (g_a g 0), .int v1, .int v2, .ref (g_a g 104)] (x, m0, oo) (x_code r.1.1) (r.2, m0, if r.1.1 = none then vp_updL oo 0 r.1.2 else oo) := by
  refine met_of_vx (vx_ofWH (cc := c_Lw_element) (maxL := 5) (ret := some .int) (hh := hh_elem) pn_Lw rfl ?_)
  intro p e s m args below meth c s₁ B hml hv
  obtain ⟨rfl, ⟨⟨hP, hK, hb⟩, hnw⟩, hE⟩ := hv
  have hts := atoms_spec (ws := .codeWith y_Lw_element c_Lw_element 5 (some .int) hh_elem :: TW) B.pre
  have htb : c.exceptionTable.toList = [⟨0, 9, 12, 13⟩, ⟨0, 9, 16, 15⟩] := (vx_table (x := y_Lw_element) B (hts _ List.mem_cons_self)).trans hz_elem
  have hown : s.vm.findClass n_Lw = some m.cls := findClass_of_methodNamed B.named
  have htw : ∀ w ∈ TW, w.before _ s = true := fun w hw => hts w (List.mem_cons_of_mem _ hw)
  have hl := lv_entry [Value.ref (g_a g 0), Value.int v1, Value.int v2, Value.ref (g_a g 104)] (n := 5) (Nat.le_of_ble_eq_true rfl)
  rw [lg_entry_eq]
  have hret : ∀ (pc : Nat) (loc : List (Nat × Value)) (r0 : Int32), decode c_Lw_element pc = .ok (.ireturn, 1) → x_code r.1.1 = r0 → Wk g (p, l, e, rmx 10, s, m, [Value.ref (g_a g 0), Value.int v1, Value.int v2, Value.ref (g_a g 104)].toArray, below, meth, c, vx_MQ below (va_Qi (fun (r2 : Int32) (_ : Unit) => r2 = x_code r.1.1) (fun _ t => Wat g (r.2, m0, if r.1.1 = none then vp_updL oo 0 r.1.2 else oo) t) (AB g)) (fun _ _ _ => False) [Value.ref (g_a g 0), Value.int v1, Value.int v2, Value.ref (g_a g 104)].toArray s 1 6 (AB g), 1, 6) 5 pc loc [.int r0] (r.2, m0, if r.1.1 = none then vp_updL oo 0 r.1.2 else oo) := by
    intro pc loc r0 hd hr
    exact fun H locs ls hP hS hl => vx_ret (W.iret B.exec B.bytes B.returns (fun t ht hW => ⟨⟨r0, (), rfl, hr.symm, by rw [ht]; exact hP, va_K.moved hW.alike hK, by rw [ht]; exact Nat.le_trans hb hS.1⟩, hS.F ht⟩) hS.2.2 hd B.notSynchronized)
  generalize hQ : vx_MQ below (va_Qi (fun (r2 : Int32) (_ : Unit) => r2 = x_code r.1.1) (fun _ t => Wat g (r.2, m0, if r.1.1 = none then vp_updL oo 0 r.1.2 else oo) t) (AB g)) (fun _ _ _ => False) [Value.ref (g_a g 0), Value.int v1, Value.int v2, Value.ref (g_a g 104)].toArray s 1 6 (AB g) = Q at hret ⊢
  have C : Cx g (p, l, e, rmx 10, s, m, [Value.ref (g_a g 0), Value.int v1, Value.int v2, Value.ref (g_a g 104)].toArray, below, meth, c, Q, 0, 0) c_Lw_element 5 n_Lw 10 := ⟨B.exec, B.bytes, hml, hown, htw, hK, hg, hb, Nat.le_refl _, Nat.le_refl _, hnw⟩
  have C1 : Cx g (p, l, e, rmx 10, s, m, [Value.ref (g_a g 0), Value.int v1, Value.int v2, Value.ref (g_a g 104)].toArray, below, meth, c, Q, 1, 6) c_Lw_element 5 n_Lw 10 := C
  have key : Wk g (p, l, e, rmx 10, s, m, [Value.ref (g_a g 0), Value.int v1, Value.int v2, Value.ref (g_a g 104)].toArray, below, meth, c, Q, 0, 0) 5 0 (lv_args 0 [Value.ref (g_a g 0), Value.int v1, Value.int v2, Value.ref (g_a g 104)]) [] (x, m0, oo) := by
    refine k_sub (lv' := [(0, .ref (g_a g 0)), (1, .int v1), (2, .int v2), (3, .ref (g_a g 104))]) [0, 1, 2, 3] rfl ?_
    refine k_aload_n C d_Lw_element_0 3 rfl ?_
    refine k_iconst C 0 d_Lw_element_1 ic_0 ?_
    refine k_aload_n C d_Lw_element_2 0 rfl ?_
    refine k_iload_n C d_Lw_element_3 1 rfl ?_
    refine k_iload_n C d_Lw_element_4 2 rfl ?_
    intro H locs ls hP hS hl
    refine vx_calll (vx_runV (As := [.int v1, .int v2]) (rest := [.int 0, .ref (g_a g 104)]) ⟨B.exec, B.bytes, hml, hown, htw⟩ (m_Hb_element hg hlt v1 v2 x (m0, oo) r h) (cwV 2 htw (tw_gi xw_e5 (by simp [xw_e1, xw_e2, xw_e3, xw_e4])) rfl rfl rfl (by decide +kernel) ⟨by decide, by decide⟩) ⟨x_blind, va_recv (q := (n_Hb, T_Hb, 7)) hK hP (ci := 11) rfl (q0 := 0) (by rw [wl_at (by decide), sh_Hb]), fun U hU hW => ⟨rfl, ⟨⟨by rw [hU]; exact hP, va_K.moved hW.alike hK, by rw [hU]; exact Nat.le_trans hb hS.1⟩, hnw.warm hW⟩, hE.moved hW hU hS⟩⟩ rfl rfl hl.1 rfl (lv_room (Nat.le_of_ble_eq_true rfl)) d_Lw_element_5 ⟨by decide, by decide⟩) hS (fun _ _ h => h) (fun _ h => h) (fun _ _ h => h) (fun E1 ce q9 u t H1 locs1 ht hA hu hB hz hk hS1 hq9 hce hcl => ?_) (fun r9 u t H1 locs1 ht hA hw hB hz hk hS1 => ?_)
    · obtain ⟨hB0, hB1, -, -⟩ := hB
      rw [ht] at hB1
      have hne : r.1.1 ≠ none := by rw [hB0]; simp
      have hw0 : (if r.1.1 = none then vp_updL oo 0 r.1.2 else oo) = oo := if_neg hne
      rcases hEr with h1 | h1 | h1
      · exact absurd h1 hne
      · obtain rfl := Option.some.inj (hB0.symm.trans h1)
        refine vx_catch (own := n_Lw) (name := xE_a) hown [] _ _ htb (fun z hz => nomatch hz) rfl (by decide) (htw _ xl_Lw_a) (hnw.use xk_a) hq9 hce hcl ?_
        refine (?_ : Wk g (p, l, e, rmx 10, s, m, [Value.ref (g_a g 0), Value.int v1, Value.int v2, Value.ref (g_a g 104)].toArray, below, meth, c, Q, 1, 6) 5 12 _ [.ref q9] (r.2, m0, oo)) H1 locs1 ls hB1 hS1 hl
        refine k_astore C1 (lv' := [(4, .ref q9), (0, .ref (g_a g 0)), (1, .int v1), (2, .int v2), (3, .ref (g_a g 104))]) d_Lw_element_12 rfl rfl ?_
        refine k_iconst C1 1 d_Lw_element_14 ic_1 ?_
        rw [hw0] at hret
        exact hret 15 _ _ d_Lw_element_15 (by rw [h1]; decide)
      · obtain rfl := Option.some.inj (hB0.symm.trans h1)
        refine vx_catch (own := n_Lw) (name := xE_i) hown [⟨0, 9, 12, 13⟩] _ [] htb (fun z hz => ?_) rfl (by decide) (htw _ xl_Lw_i) (hnw.use xk_i) hq9 hce hcl ?_
        · rw [List.mem_singleton.mp hz]
          exact Or.inr ⟨by decide, xE_a, htw _ xl_Lw_a, hE.2.2.2.2.2.2.2.2.1⟩
        refine (?_ : Wk g (p, l, e, rmx 10, s, m, [Value.ref (g_a g 0), Value.int v1, Value.int v2, Value.ref (g_a g 104)].toArray, below, meth, c, Q, 1, 6) 5 16 _ [.ref q9] (r.2, m0, oo)) H1 locs1 ls hB1 hS1 hl
        refine k_astore C1 (lv' := [(4, .ref q9), (0, .ref (g_a g 0)), (1, .int v1), (2, .int v2), (3, .ref (g_a g 104))]) d_Lw_element_16 rfl rfl ?_
        refine k_iconst C1 2 d_Lw_element_18 ic_2 ?_
        rw [hw0] at hret
        exact hret 19 _ _ d_Lw_element_19 (by rw [h1]; decide)
    · obtain ⟨hn, rfl⟩ := hw
      obtain ⟨hB1, -, -⟩ := hB
      rw [ht] at hB1
      have hw0 : (if r.1.1 = none then vp_updL oo 0 r.1.2 else oo) = vp_updL oo 0 r.1.2 := if_pos hn
      rw [hw0] at hret
      refine (?_ : Wk g (p, l, e, rmx 10, s, m, [Value.ref (g_a g 0), Value.int v1, Value.int v2, Value.ref (g_a g 104)].toArray, below, meth, c, Q, 1, 6) 5 8 _ [.long r.1.2, .int 0, .ref (g_a g 104)] (r.2, m0, oo)) H1 locs1 ls hB1 hS1 hl
      refine k_lastO C1 (by unfold vp_in; decide) d_Lw_element_8 ?_
      refine k_goto C1 20 d_Lw_element_9 (by decide) ?_
      refine k_iconst C1 0 d_Lw_element_20 ic_0 ?_
      exact hret 21 _ _ d_Lw_element_21 (by rw [hn]; decide)
  exact key s.heap [] _ hP va_S.rf hl
end EL2

/-! EXCEPTIONS: the kinds' fail, by contracts that return or throw. -/
def xE_i : String := "java/lang/IllegalStateException"
def xE_a : String := "java/lang/IllegalArgumentException"
def xE_u : String := "java/lang/UnsupportedOperationException"
def x_nm : List String := ["java/lang/RuntimeException", "java/lang/Exception"]
theorem xa_of {L : List Cond} (h1 : ∀ w ∈ L, w ∈ lw_tbl) (h2 : L.all (fun w => goodWord w || isNst w) = true) : ∀ w ∈ L, w ∈ TW ∨ w ∈ NW := by
  intro w hw
  have h3 := List.all_eq_true.mp h2 w hw
  rcases Bool.or_eq_true_iff.mp h3 with h | h
  · exact Or.inl (List.mem_filter.mpr ⟨h1 w hw, h⟩)
  · exact Or.inr (List.mem_filter.mpr ⟨h1 w hw, h⟩)
theorem xa_Ho : ∀ w ∈ vx_atS n_Ho 11 xE_i x_nm, w ∈ TW ∨ w ∈ NW := xa_of (by decide +kernel) (by decide +kernel)
theorem xa_Tw : ∀ w ∈ vx_atS n_Tw 22 xE_u x_nm, w ∈ TW ∨ w ∈ NW := xa_of (by decide +kernel) (by decide +kernel)
theorem xa_Ma : ∀ w ∈ vx_atS n_Ma 29 xE_a x_nm, w ∈ TW ∨ w ∈ NW := xa_of (by decide +kernel) (by decide +kernel)
theorem xa_Hi : ∀ w ∈ vx_atS n_Hb 281 xE_i x_nm, w ∈ TW ∨ w ∈ NW := xa_of (by decide +kernel) (by decide +kernel)
theorem xa_Ha : ∀ w ∈ vx_atS n_Hb 274 xE_a x_nm, w ∈ TW ∨ w ∈ NW := xa_of (by decide +kernel) (by decide +kernel)
theorem xo_Ho : ∀ w ∈ Cond.classLink n_Ho 7 xE_i :: Cond.initialized xE_i :: vx_atS n_Ho 11 xE_i x_nm, vx_ot w = true := by decide +kernel
theorem xo_Tw : ∀ w ∈ Cond.classLink n_Tw 18 xE_u :: Cond.initialized xE_u :: vx_atS n_Tw 22 xE_u x_nm, vx_ot w = true := by decide +kernel
theorem xo_Ma : ∀ w ∈ Cond.classLink n_Ma 25 xE_a :: Cond.initialized xE_a :: vx_atS n_Ma 29 xE_a x_nm, vx_ot w = true := by decide +kernel
theorem xo_Hi : ∀ w ∈ Cond.classLink n_Hb 277 xE_i :: Cond.initialized xE_i :: vx_atS n_Hb 281 xE_i x_nm, vx_ot w = true := by decide +kernel
theorem xo_Ha : ∀ w ∈ Cond.classLink n_Hb 270 xE_a :: Cond.initialized xE_a :: vx_atS n_Hb 274 xE_a x_nm, vx_ot w = true := by decide +kernel
theorem xl_Ho_c : Cond.classLink n_Ho 7 xE_i ∈ TW := tw_of 909 (by decide +kernel) (by decide +kernel)
theorem xl_Tw_c : Cond.classLink n_Tw 18 xE_u ∈ TW := tw_of 892 (by decide +kernel) (by decide +kernel)
theorem xl_Ma_c : Cond.classLink n_Ma 25 xE_a ∈ TW := tw_of 821 (by decide +kernel) (by decide +kernel)
theorem xl_i : Cond.initialized xE_i ∈ TW := tw_of 71 (by decide +kernel) (by decide +kernel)
theorem xl_u : Cond.initialized xE_u ∈ TW := tw_of 73 (by decide +kernel) (by decide +kernel)
theorem xl_a : Cond.initialized xE_a ∈ TW := tw_of 70 (by decide +kernel) (by decide +kernel)
theorem xl_Hb_i : Cond.classLink n_Hb 277 xE_i ∈ TW := tw_of 806 (by decide +kernel) (by decide +kernel)
theorem xl_Hb_a : Cond.classLink n_Hb 270 xE_a ∈ TW := tw_of 804 (by decide +kernel) (by decide +kernel)
theorem xl_Hb_u : Cond.classLink n_Hb 297 xE_u ∈ TW := tw_of 805 (by decide +kernel) (by decide +kernel)
theorem xf_nm : ∀ n ∈ x_nm, Bundle.fit n = true := by decide +kernel
theorem xf_i : Bundle.fit xE_i = true := by decide +kernel
theorem xf_a : Bundle.fit xE_a = true := by decide +kernel
theorem xf_u : Bundle.fit xE_u = true := by decide +kernel
/-- what a throw needs beside the words -/
def Exs (g : GC) (U : State) : Prop := vx_Zq Bundle.tN "UNASSIGNED_STACK" Bundle.steD (AB g) U U.heap ∧ vx_Zq Bundle.tN "SUPPRESSED_SENTINEL" Bundle.listD (AB g) U U.heap ∧ (∃ a, vk_R n_Ho 9 "a horse fails" a U) ∧ (∃ a, vk_R n_Tw 20 "a horse of two homes fails" a U) ∧ (∃ a, vk_R n_Ma 27 "a mare fails" a U) ∧ (∃ a, vk_R n_Hb 272 "no such shelf" a U) ∧ (∃ a, vk_R n_Hb 279 "no row, or no such place in it" a U) ∧ va_Nc xE_u xE_a U ∧ va_Nc xE_i xE_a U ∧ va_Nc xE_i xE_u U
theorem Exs.moved {g : GC} {s U : State} {H : Heap} {locs : List Loc} (h : Exs g s) (hW : s.WarmedH U.vm) (hU : U.heap = H) (hS : va_S (AB g) s.heap H locs) : Exs g U := by
  obtain ⟨h1, h2, ⟨a3, h3⟩, ⟨a4, h4⟩, ⟨a5, h5⟩, ⟨a6, h6⟩, ⟨a7, h7⟩, h8, h9, h10⟩ := h
  refine ⟨?_, ?_, ⟨a3, h3.warm hW⟩, ⟨a4, h4.warm hW⟩, ⟨a5, h5.warm hW⟩, ⟨a6, h6.warm hW⟩, ⟨a7, h7.warm hW⟩, h8.moved hW.alike, h9.moved hW.alike, h10.moved hW.alike⟩
  · rw [hU]; exact (h1.moved hW.alike).kept (fun a b d => hS.2.1 a b d)
  · rw [hU]; exact (h2.moved hW.alike).kept (fun a b d => hS.2.1 a b d)
theorem Exs.same {g : GC} {s U : State} (h : Exs g s) (hv : U.vm = s.vm) (hU : U.heap = s.heap) : Exs g U := by
  obtain ⟨h1, h2, ⟨a3, h3⟩, ⟨a4, h4⟩, ⟨a5, h5⟩, ⟨a6, h6⟩, ⟨a7, h7⟩, h8, h9, h10⟩ := h
  have hA : s.vm.Alike U.vm := by rw [hv]; exact Vm.Alike.refl s.vm
  exact ⟨by rw [hU]; exact h1.moved hA, by rw [hU]; exact h2.moved hA, ⟨a3, h3.same hv⟩, ⟨a4, h4.same hv⟩, ⟨a5, h5.same hv⟩, ⟨a6, h6.same hv⟩, ⟨a7, h7.same hv⟩, h8.moved hA, h9.moved hA, h10.moved hA⟩
def xPre (g : GC) (w : WD) (U : State) : Prop := Wpr g w U ∧ Exs g U
def rmx (lvl : Nat) : Room := { frames := lvl, cells := 1, slots := 6, locals := 40 * lvl }
theorem x_blind {g : GC} {w : WD} {av : List Value} : FrameBlind (va_Pc av (fun U => xPre g w U)) := fun a U fr mk q => by
  obtain ⟨q0, ⟨⟨qP, qK, qb⟩, qn⟩, qe⟩ := q
  exact ⟨q0, ⟨⟨qP, va_K.moved (u := U) (U := U.calling fr mk a) (Vm.Alike.refl U.vm) qK, qb⟩, qn.same rfl⟩, qe.same rfl rfl⟩
abbrev xQX (g : GC) (E : Option String) (w : WD) : String → State → State → Prop := vx_X (fun (_ : Unit) => True) (fun E' _ t => E = some E' ∧ Wat g w t) (AB g)
/-- returns (E none), or throws E; the world stays -/
def Mx (g : GC) (l : Launch) (y : MethodName) (cc : ByteArray) (nL : Nat) (lvl : Nat) (av : List Value) (w : WD) (E : Option String) : Prop :=
  vx_Met l y (.code y cc nL none :: TW) (rmx lvl) (va_Pc av (fun U => xPre g w U)) (va_Qv (fun (_ : Unit) => E = none) (fun _ t => Wat g w t) (AB g)) (xQX g E w) 1 6 (AB g)
/-- or answers a long -/
def MxL (g : GC) (l : Launch) (y : MethodName) (cc : ByteArray) (nL : Nat) (lvl : Nat) (av : List Value) (w : WD) (E : Option String) (r : Int64) : Prop :=
  vx_Met l y (.code y cc nL (some .long) :: TW) (rmx lvl) (va_Pc av (fun U => xPre g w U)) (va_Ql (fun (r2 : Int64) (_ : Unit) => E = none ∧ r2 = r) (fun _ t => Wat g w t) (AB g)) (xQX g E w) 1 6 (AB g)
theorem wat_later {g : GC} {w : WD} {s t : State} {H : Heap} {locs : List Loc} (hK : va_K g.1 vcls (gtys g) s) (hb : g_b g ≤ s.heap.size) (hP : va_P g.1 vcls (wl g w) H) (hS : va_S (AB g) s.heap H locs) (hA : s.vm.Alike t.vm) (h1 : H.size ≤ t.heap.size) (h2 : ∀ q : Nat, q < H.size → t.heap[q]? = H[q]?) : Wat g w t ∧ va_F (AB g) s t :=
  ⟨⟨fun k q hk => (hP k q hk).kept (h2 q.1 (hP k q hk).lt), va_K.moved hA hK, Nat.le_trans hb (Nat.le_trans hS.1 h1)⟩, ⟨Nat.le_trans hS.1 h1, fun q a b => (h2 q (Nat.lt_of_lt_of_le a hS.1)).trans (hS.2.1 q a b)⟩⟩
section FL
variable {g : GC} {l : Launch} {o : Nat} {v : Int32} {w : WD}
theorem x_Co_fail (hg : gOk g) : Mx g l y_Co_fail c_Co_fail 2 6 [.ref (g_a g o), .int v] w none := by
  refine vx_ofW (cc := c_Co_fail) (maxL := 2) (ret := none) pn_Co rfl ?_
  intro p e s m args below meth c s₁ B hml hex hv
  obtain ⟨rfl, ⟨⟨hP, hK, hb⟩, hnw⟩, hE⟩ := hv
  rw [lg_entry_eq]
  refine W.widen (k := 1) (n := 6) (by omega) (by omega) (vx_ret (W.vret B.exec B.bytes B.returns (fun t ht hW => ⟨⟨(), rfl, rfl, by rw [ht]; exact hP, va_K.moved hW.alike hK, by rw [ht]; exact hb⟩, (va_S.rf (A := AB g)).F ht⟩) (fun q h => nomatch h) d_Co_fail_0 B.notSynchronized))
theorem x_Ho_fail (hg : gOk g) (hlt : l.stackTraces = false) : Mx g l y_Ho_fail c_Ho_fail 2 6 [.ref (g_a g o), .int v] w (if v = 0 then none else some xE_i) := by
  refine vx_ofW (cc := c_Ho_fail) (maxL := 2) (ret := none) pn_Ho rfl ?_
  intro p e s m args below meth c s₁ B hml hex hv
  obtain ⟨rfl, ⟨⟨hP, hK, hb⟩, hnw⟩, hE⟩ := hv
  have hts := atoms_spec (ws := .code y_Ho_fail c_Ho_fail 2 none :: TW) B.pre
  have hown : s.vm.findClass n_Ho = some m.cls := findClass_of_methodNamed B.named
  have htw : ∀ w ∈ TW, w.before _ s = true := fun w hw => hts w (List.mem_cons_of_mem _ hw)
  have hl := lv_entry [Value.ref (g_a g o), Value.int v] (n := 2) (Nat.le_of_ble_eq_true rfl)
  rw [lg_entry_eq]
  generalize (lg_sl [Value.ref (g_a g o), Value.int v] ++ List.replicate (2 - (lg_sl [Value.ref (g_a g o), Value.int v]).length) Slot.unset).toArray = ls at hl ⊢
  refine lv_iload_n B.exec B.bytes d_Ho_fail_0 rfl (lv_at hl 1 rfl) ?_
  refine lv_if_eq (tgt := 14) B.exec B.bytes d_Ho_fail_1 (by decide) (fun c1 => ?_) (fun c1 => ?_)
  · refine W.widen (k := 1) (n := 6) (by omega) (by omega) (vx_ret (W.vret B.exec B.bytes B.returns (fun t ht hW => ⟨⟨(), rfl, if_pos c1, by rw [ht]; exact hP, va_K.moved hW.alike hK, by rw [ht]; exact hb⟩, (va_S.rf (A := AB g)).F ht⟩) (fun q h => nomatch h) d_Ho_fail_14 B.notSynchronized))
  · obtain ⟨sa, hstr⟩ := hE.2.2.1
    refine vx_throwS (own := n_Ho) (cls := xE_i) (text := "a horse fails") (names := x_nm) (ik := 7) (is := 9) (ic := 11) (sa := sa) (A := AB g) B.exec B.bytes hlt hown xf_i xf_nm (htw _ xl_Ho_c) (htw _ xl_i) hstr (fun w hw => (xa_Ho w hw).elim (fun h => htw w h) (fun h => hnw.use h)) xo_Ho hE.1 hE.2.1 va_S.rf (hl.1.trans hml.symm) d_Ho_fail_4 d_Ho_fail_7 d_Ho_fail_8 d_Ho_fail_10 d_Ho_fail_13 (fun x hx => (hex x hx).elim) (by decide) (by decide) (by decide) (by decide) B.notSynchronized (fun t hA h1 h2 => ?_) (fun q h => nomatch h) (by decide) (by decide)
    obtain ⟨q1, q2⟩ := wat_later (locs := []) hK hb hP va_S.rf hA h1 h2
    exact ⟨(), trivial, ⟨if_neg c1, q1⟩, q2⟩
theorem x_Tw_fail (hg : gOk g) (hlt : l.stackTraces = false) : Mx g l y_Tw_fail c_Tw_fail 2 6 [.ref (g_a g o), .int v] w (if v = 0 then none else some xE_u) := by
  refine vx_ofW (cc := c_Tw_fail) (maxL := 2) (ret := none) pn_Tw rfl ?_
  intro p e s m args below meth c s₁ B hml hex hv
  obtain ⟨rfl, ⟨⟨hP, hK, hb⟩, hnw⟩, hE⟩ := hv
  have hts := atoms_spec (ws := .code y_Tw_fail c_Tw_fail 2 none :: TW) B.pre
  have hown : s.vm.findClass n_Tw = some m.cls := findClass_of_methodNamed B.named
  have htw : ∀ w ∈ TW, w.before _ s = true := fun w hw => hts w (List.mem_cons_of_mem _ hw)
  have hl := lv_entry [Value.ref (g_a g o), Value.int v] (n := 2) (Nat.le_of_ble_eq_true rfl)
  rw [lg_entry_eq]
  generalize (lg_sl [Value.ref (g_a g o), Value.int v] ++ List.replicate (2 - (lg_sl [Value.ref (g_a g o), Value.int v]).length) Slot.unset).toArray = ls at hl ⊢
  refine lv_iload_n B.exec B.bytes d_Tw_fail_0 rfl (lv_at hl 1 rfl) ?_
  refine lv_if_eq (tgt := 14) B.exec B.bytes d_Tw_fail_1 (by decide) (fun c1 => ?_) (fun c1 => ?_)
  · refine W.widen (k := 1) (n := 6) (by omega) (by omega) (vx_ret (W.vret B.exec B.bytes B.returns (fun t ht hW => ⟨⟨(), rfl, if_pos c1, by rw [ht]; exact hP, va_K.moved hW.alike hK, by rw [ht]; exact hb⟩, (va_S.rf (A := AB g)).F ht⟩) (fun q h => nomatch h) d_Tw_fail_14 B.notSynchronized))
  · obtain ⟨sa, hstr⟩ := hE.2.2.2.1
    refine vx_throwS (own := n_Tw) (cls := xE_u) (text := "a horse of two homes fails") (names := x_nm) (ik := 18) (is := 20) (ic := 22) (sa := sa) (A := AB g) B.exec B.bytes hlt hown xf_u xf_nm (htw _ xl_Tw_c) (htw _ xl_u) hstr (fun w hw => (xa_Tw w hw).elim (fun h => htw w h) (fun h => hnw.use h)) xo_Tw hE.1 hE.2.1 va_S.rf (hl.1.trans hml.symm) d_Tw_fail_4 d_Tw_fail_7 d_Tw_fail_8 d_Tw_fail_10 d_Tw_fail_13 (fun x hx => (hex x hx).elim) (by decide) (by decide) (by decide) (by decide) B.notSynchronized (fun t hA h1 h2 => ?_) (fun q h => nomatch h) (by decide) (by decide)
    obtain ⟨q1, q2⟩ := wat_later (locs := []) hK hb hP va_S.rf hA h1 h2
    exact ⟨(), trivial, ⟨if_neg c1, q1⟩, q2⟩
theorem x_Ma_fail (hg : gOk g) (hlt : l.stackTraces = false) : Mx g l y_Ma_fail c_Ma_fail 2 6 [.ref (g_a g o), .int v] w (if v = 0 then none else some xE_a) := by
  refine vx_ofW (cc := c_Ma_fail) (maxL := 2) (ret := none) pn_Ma rfl ?_
  intro p e s m args below meth c s₁ B hml hex hv
  obtain ⟨rfl, ⟨⟨hP, hK, hb⟩, hnw⟩, hE⟩ := hv
  have hts := atoms_spec (ws := .code y_Ma_fail c_Ma_fail 2 none :: TW) B.pre
  have hown : s.vm.findClass n_Ma = some m.cls := findClass_of_methodNamed B.named
  have htw : ∀ w ∈ TW, w.before _ s = true := fun w hw => hts w (List.mem_cons_of_mem _ hw)
  have hl := lv_entry [Value.ref (g_a g o), Value.int v] (n := 2) (Nat.le_of_ble_eq_true rfl)
  rw [lg_entry_eq]
  generalize (lg_sl [Value.ref (g_a g o), Value.int v] ++ List.replicate (2 - (lg_sl [Value.ref (g_a g o), Value.int v]).length) Slot.unset).toArray = ls at hl ⊢
  refine lv_iload_n B.exec B.bytes d_Ma_fail_0 rfl (lv_at hl 1 rfl) ?_
  refine lv_if_eq (tgt := 14) B.exec B.bytes d_Ma_fail_1 (by decide) (fun c1 => ?_) (fun c1 => ?_)
  · refine W.widen (k := 1) (n := 6) (by omega) (by omega) (vx_ret (W.vret B.exec B.bytes B.returns (fun t ht hW => ⟨⟨(), rfl, if_pos c1, by rw [ht]; exact hP, va_K.moved hW.alike hK, by rw [ht]; exact hb⟩, (va_S.rf (A := AB g)).F ht⟩) (fun q h => nomatch h) d_Ma_fail_14 B.notSynchronized))
  · obtain ⟨sa, hstr⟩ := hE.2.2.2.2.1
    refine vx_throwS (own := n_Ma) (cls := xE_a) (text := "a mare fails") (names := x_nm) (ik := 25) (is := 27) (ic := 29) (sa := sa) (A := AB g) B.exec B.bytes hlt hown xf_a xf_nm (htw _ xl_Ma_c) (htw _ xl_a) hstr (fun w hw => (xa_Ma w hw).elim (fun h => htw w h) (fun h => hnw.use h)) xo_Ma hE.1 hE.2.1 va_S.rf (hl.1.trans hml.symm) d_Ma_fail_4 d_Ma_fail_7 d_Ma_fail_8 d_Ma_fail_10 d_Ma_fail_13 (fun x hx => (hex x hx).elim) (by decide) (by decide) (by decide) (by decide) B.notSynchronized (fun t hA h1 h2 => ?_) (fun q h => nomatch h) (by decide) (by decide)
    obtain ⟨q1, q2⟩ := wat_later (locs := []) hK hb hP va_S.rf hA h1 h2
    exact ⟨(), trivial, ⟨if_neg c1, q1⟩, q2⟩
end FL

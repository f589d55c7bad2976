/-! toss, element: methods that catch, or throw. -/
theorem met_of_vx {l : Launch} {y : MethodName} {ws : List Cond} {rm : Room} {Pc : Array Value → State → Prop} {Qc : Array Value → State → Outcome → State → Prop} {mc ms : Nat} {free : Addr → Prop} (h : vx_Met l y ws rm Pc Qc (fun _ _ _ => False) mc ms free) : Met l y ws rm Pc Qc mc ms free := by
  intro p e a1 a2 a3 s m args below a4 a5 a6 a7
  obtain ⟨n, o, h1, h2, h3, hq⟩ := h p e a1 a2 a3 s m args below a4 a5 a6 a7
  refine ⟨n, o, h1, h2, h3, ?_⟩
  rcases hq with hq | ⟨q, -, E, ce, L, hx, -⟩
  · exact hq
  · exact hx.elim
theorem k_wd {g : GC} {p : Program} {l : Launch} {e : Env} {R : Room} {s : State} {m : MethodId} {args : Array Value} {below : List Frame} {meth : Method} {c : Code} {Q : State → Prop} {nL pc : Nat} {loc : List (Nat × Value)} {st : List Value} {w : WD} (h : Wk g (p, l, e, R, s, m, args, below, meth, c, Q, 1, 6) nL pc loc st w) : Wk g (p, l, e, R, s, m, args, below, meth, c, Q, 0, 0) nL pc loc st w := fun H locs ls hP hS hl => W.widen (by omega) (by omega) (h H locs ls hP hS hl)
/-- what the failure of a kind is -/
def xthr (kk fig : Int32) : Option (Option String) := gI kk 8 (some (if kk = 1 then none else if kk = 7 then none else if fig = 0 then none else if kk = 3 then some xE_u else if kk = 6 then some xE_a else some xE_i))
theorem xthr_is {kk fig : Int32} {E : Option String} (h : xthr kk fig = some E) : E = none ∨ E = some xE_a ∨ E = some xE_u ∨ E = some xE_i := by
  obtain ⟨-, h⟩ := gI_some h
  have h := (Option.some.inj h).symm
  subst h
  repeat' split
  all_goals simp
def f_toss2 (kk fig : Int32) (x : XD) : Option (Int32 × XD) := (xthr kk fig).bind fun E => if E = none then some (-15, x) else if E = some xE_a then (v_price kk fig x).bind fun p => some (200 + p.1, p.2) else if E = some xE_u then some (100 + fig, x) else some (fig, x)
def f_Hb_toss (v1 : Int32) (x : XD) : Option (Int32 × XD) := (f_Hb_refusalOfKind v1 x).bind fun p1 => if p1.1 = 0 then gI v1 8 (f_toss2 (p1.2 (hid v1) 1) (p1.2 (hid v1) 2) p1.2) else some (p1.1, p1.2)
def hh_toss : List (Nat × Nat × Nat × Nat) := [(33, 39, 42, 270), (33, 39, 55, 297), (33, 39, 63, 277)]
def Mit (g : GC) (l : Launch) (y : MethodName) (cc : ByteArray) (nL : Nat) (hh : List (Nat × Nat × Nat × Nat)) (lvl : Nat) (av : List Value) (w : WD) (r : Int32) (w' : WD) : Prop :=
  Met l y (.codeWith y cc nL (some .int) hh :: TW) (rmx lvl) (va_Pc av (fun U => xPre g w U)) (va_Qi (fun (r2 : Int32) (_ : Unit) => r2 = r) (fun _ t => Wat g w' t) (AB g)) 1 6 (AB g)
section TS
variable {g : GC} {p : Program} {l : Launch} {e : Env} {R : Room} {s : State} {m : MethodId} {args : Array Value} {below : List Frame} {meth : Method} {c : Code} {H : Heap} {locs : List Loc} {w : WD} {o idx pc : Nat} {fig : Int32} {rest : List Value} {ls : Array Slot} {cc : ByteArray} {nL lvl ci : Nat} {own Cn : String} {y x : MethodName} {cc2 : ByteArray} {E : Option String}
/-- a call of fail -/
theorem x_runV6 {Q : State → Prop} (C : Cx g (p, l, e, R, s, m, args, below, meth, c, Q, 0, 0) cc nL own lvl) (hE : Exs g s) (hM : Mx g l y cc2 2 6 [.ref (g_a g o), .int fig] w E) (h1 : Cond.methodLink own idx y ∈ TW) (h2 : Cond.instanceMethod y ∈ TW) (h3 : Cond.selects Cn y y ∈ TW) (h5 : Cond.initialized Cn ∈ TW) (h4 : Cond.code y cc2 2 none ∈ TW) (hd : y.cls = Cn ∧ y.cls ≠ "java/lang/invoke/MethodHandle" ∧ y.cls ≠ "java/lang/invoke/VarHandle" ∧ (parseMethodDescriptor y.desc).map (fun d => d.parameters.length) = some 1) (hlv : 7 ≤ lvl) (hc1 : R.cells = 1) (hs6 : R.slots = 6) (ho : o < 105) (he : shW g w o = .inr (ci, [])) (hc : vcls[ci]? = some (Cn, T_0, 0)) (hcat : (rest.map fun v => v.category).sum ≤ 8) (hdg : decode cc pc = .ok (.invokevirtual idx, 3)) (hP : va_P g.1 vcls (wl g w) H) (hS : va_S (AB g) s.heap H locs) (hls : ls.size = nL) :
    vx_Run p l e R s m args below meth c H locs 0 0 1 6 (F0 m pc ls (.int fig :: .ref (g_a g o) :: rest)) rest (va_Qv (fun (_ : Unit) => E = none) (fun _ t => Wat g w t) (AB g) (Value.ref (g_a g o) :: [Value.int fig]).toArray) (xQX g E w) (AB g) := by
  obtain ⟨hx, hb, hml, hown, hts, hK, hg, hbs, hfr, hlo, hnw⟩ := C
  exact vx_runV (As := [.int fig]) (rest := rest) ⟨hx, hb, hml, hown, hts⟩ hM (cwV 1 hts (tw_gi h4 (by simp [h1, h2, h3, h5])) rfl rfl rfl hd ⟨by show 6 + 1 ≤ R.frames; omega, by show 8 + (2 + 11) + 40 * 6 ≤ R.locals; omega⟩) ⟨x_blind, va_recv (q := (Cn, T_0, 0)) hK hP hc (q0 := o) (by rw [wl_at ho, he]), fun U hU hW => ⟨rfl, ⟨⟨by rw [hU]; exact hP, va_K.moved hW.alike hK, by rw [hU]; exact Nat.le_trans hbs hS.1⟩, hnw.warm hW⟩, hE.moved hW hU hS⟩⟩ rfl rfl hls rfl (lv_room hcat) hdg ⟨by omega, by omega⟩
theorem x_runU6 {Q : State → Prop} {owner : String} (C : Cx g (p, l, e, R, s, m, args, below, meth, c, Q, 0, 0) cc nL own lvl) (hE : Exs g s) (hM : Mx g l y cc2 2 6 [.ref (g_a g o), .int fig] w E) (cw : ∀ (R : Room), 6 + 1 ≤ R.frames ∧ 8 + (2 + 11) + 40 * 6 ≤ R.locals → va_CU R s args own Cn owner idx x y cc2 2 none (.code y cc2 2 none :: TW) (rmx 6) 1 6 1) (hlv : 7 ≤ lvl) (hc1 : R.cells = 1) (hs6 : R.slots = 6) (ho : o < 105) (he : shW g w o = .inr (ci, [])) (hc : vcls[ci]? = some (Cn, T_0, 0)) (hcat : (rest.map fun v => v.category).sum ≤ 8) (hdg : decode cc pc = .ok (.invokevirtual idx, 3)) (hP : va_P g.1 vcls (wl g w) H) (hS : va_S (AB g) s.heap H locs) (hls : ls.size = nL) :
    vx_Run p l e R s m args below meth c H locs 0 0 1 6 (F0 m pc ls (.int fig :: .ref (g_a g o) :: rest)) rest (va_Qv (fun (_ : Unit) => E = none) (fun _ t => Wat g w t) (AB g) (Value.ref (g_a g o) :: [Value.int fig]).toArray) (xQX g E w) (AB g) := by
  obtain ⟨hx, hb, hml, hown, hts, hK, hg, hbs, hfr, hlo, hnw⟩ := C
  exact vx_runU (As := [.int fig]) (rest := rest) ⟨hx, hb, hml, hown, hts⟩ hM (cw R ⟨by omega, by omega⟩) ⟨x_blind, va_recv (q := (Cn, T_0, 0)) hK hP hc (q0 := o) (by rw [wl_at ho, he]), fun U hU hW => ⟨rfl, ⟨⟨by rw [hU]; exact hP, va_K.moved hW.alike hK, by rw [hU]; exact Nat.le_trans hbs hS.1⟩, hnw.warm hW⟩, hE.moved hW hU hS⟩⟩ rfl rfl hls rfl (lv_room hcat) hdg ⟨by omega, by omega⟩
end TS
theorem xw_807 : Cond.methodLink n_Hb 294 y_Ho_fail ∈ TW := tw_of 807 (by decide +kernel) (by decide +kernel)
theorem xw_810 : Cond.sameMethod n_Ho n_Ho "fail" "(I)V" ∈ TW := tw_of 810 (by decide +kernel) (by decide +kernel)
theorem xw_808 : Cond.instanceMethod y_Ho_fail ∈ TW := tw_of 808 (by decide +kernel) (by decide +kernel)
theorem xw_908 : Cond.code y_Ho_fail c_Ho_fail 2 none ∈ TW := tw_of 908 (by decide +kernel) (by decide +kernel)
theorem xw_809 : Cond.selects n_Ho y_Ho_fail y_Ho_fail ∈ TW := tw_of 809 (by decide +kernel) (by decide +kernel)
theorem xw_53 : Cond.initialized n_Ho ∈ TW := tw_of 53 (by decide +kernel) (by decide +kernel)
theorem xw_812 : Cond.selects n_Co y_Ho_fail y_Co_fail ∈ TW := tw_of 812 (by decide +kernel) (by decide +kernel)
theorem xw_813 : Cond.instanceMethod y_Co_fail ∈ TW := tw_of 813 (by decide +kernel) (by decide +kernel)
theorem xw_54 : Cond.initialized n_Co ∈ TW := tw_of 54 (by decide +kernel) (by decide +kernel)
theorem xw_814 : Cond.code y_Co_fail c_Co_fail 2 none ∈ TW := tw_of 814 (by decide +kernel) (by decide +kernel)
theorem xw_811 : Cond.selects n_Bl y_Ho_fail y_Ho_fail ∈ TW := tw_of 811 (by decide +kernel) (by decide +kernel)
theorem xw_889 : Cond.selects n_Tw y_Ho_fail y_Tw_fail ∈ TW := tw_of 889 (by decide +kernel) (by decide +kernel)
theorem xw_890 : Cond.instanceMethod y_Tw_fail ∈ TW := tw_of 890 (by decide +kernel) (by decide +kernel)
theorem xw_56 : Cond.initialized n_Tw ∈ TW := tw_of 56 (by decide +kernel) (by decide +kernel)
theorem xw_891 : Cond.code y_Tw_fail c_Tw_fail 2 none ∈ TW := tw_of 891 (by decide +kernel) (by decide +kernel)
theorem xw_815 : Cond.selects n_Dr y_Ho_fail y_Ho_fail ∈ TW := tw_of 815 (by decide +kernel) (by decide +kernel)
theorem xw_816 : Cond.selects n_Fo y_Ho_fail y_Ho_fail ∈ TW := tw_of 816 (by decide +kernel) (by decide +kernel)
theorem xw_818 : Cond.selects n_Ma y_Ho_fail y_Ma_fail ∈ TW := tw_of 818 (by decide +kernel) (by decide +kernel)
theorem xw_819 : Cond.instanceMethod y_Ma_fail ∈ TW := tw_of 819 (by decide +kernel) (by decide +kernel)
theorem xw_59 : Cond.initialized n_Ma ∈ TW := tw_of 59 (by decide +kernel) (by decide +kernel)
theorem xw_820 : Cond.code y_Ma_fail c_Ma_fail 2 none ∈ TW := tw_of 820 (by decide +kernel) (by decide +kernel)
theorem xw_817 : Cond.selects n_Ge y_Ho_fail y_Co_fail ∈ TW := tw_of 817 (by decide +kernel) (by decide +kernel)
theorem lkUx {own C owner : String} {idx lv : Nat} {x y : MethodName} {cc : ByteArray} {nL : Nat} {ret : Option FieldType} (n : Nat) (h1 : Cond.methodLink own idx x ∈ TW) (h6 : Cond.sameMethod x.cls owner x.name x.desc ∈ TW) (h3 : Cond.selects C x y ∈ TW) (h2 : Cond.instanceMethod y ∈ TW) (h5 : Cond.initialized y.cls ∈ TW) (h4 : Cond.code y cc nL ret ∈ TW) (hyx : y = ⟨owner, x.name, x.desc⟩) (hd : owner ≠ "java/lang/invoke/MethodHandle" ∧ owner ≠ "java/lang/invoke/VarHandle" ∧ (parseMethodDescriptor x.desc).map (fun d => d.parameters.length) = some n) {R : Room} {s : State} {args : Array Value} (ht : ∀ w ∈ TW, w.before args s = true) (hR : lv + 1 ≤ R.frames ∧ 8 + (nL + 11) + 40 * lv ≤ R.locals) : va_CU R s args own C owner idx x y cc nL ret (.code y cc nL ret :: TW) (rmx lv) 1 6 n := va_cwU n ht (tw_gi h4 (by simp [h1, h2, h3, h5, h6])) rfl rfl rfl hyx hd hR
theorem lkOx {own C owner : String} {idx lv : Nat} {x y : MethodName} {cc : ByteArray} {nL : Nat} {ret : Option FieldType} (n : Nat) (h1 : Cond.methodLink own idx x ∈ TW) (h6 : Cond.sameMethod x.cls owner x.name x.desc ∈ TW) (h7 : Cond.instanceMethod ⟨owner, x.name, x.desc⟩ ∈ TW) (h3 : Cond.selects C x y ∈ TW) (h2 : Cond.instanceMethod y ∈ TW) (h5 : Cond.initialized y.cls ∈ TW) (h4 : Cond.code y cc nL ret ∈ TW) {b0 : ByteArray} {m0 : Nat} {r0 : Option FieldType} (h0 : Cond.code ⟨owner, x.name, x.desc⟩ b0 m0 r0 ∈ TW) (hd : owner ≠ "java/lang/invoke/MethodHandle" ∧ owner ≠ "java/lang/invoke/VarHandle" ∧ (parseMethodDescriptor x.desc).map (fun d => d.parameters.length) = some n) {R : Room} {s : State} {args : Array Value} (ht : ∀ w ∈ TW, w.before args s = true) (hR : lv + 1 ≤ R.frames ∧ 8 + (nL + 11) + 40 * lv ≤ R.locals) : va_CU R s args own C owner idx x y cc nL ret (.code y cc nL ret :: TW) (rmx lv) 1 6 n := va_cwO n ht (tw_gi h4 (by simp [h1, h2, h3, h5, h6, h7])) rfl rfl rfl h0 hd hR
section TS2
variable {g : GC} {p : Program} {l : Launch} {e : Env} {R : Room} {s : State} {m : MethodId} {args : Array Value} {below : List Frame} {meth : Method} {c : Code} {H : Heap} {locs : List Loc} {w : XD} {z : ZD} {pc : Nat} {rest : List Value} {ls : Array Slot} {cc : ByteArray} {nL lvl : Nat} {E : Option String}
theorem x_fail_any {Q : State → Prop} (hlt : l.stackTraces = false) (C : Cx g (p, l, e, R, s, m, args, below, meth, c, Q, 0, 0) cc nL n_Hb lvl) (hE : Exs g s) {kk fig : Int32} (h : xthr kk fig = some E) (hlv : 7 ≤ lvl) (hc1 : R.cells = 1) (hs6 : R.slots = 6) (hcat : (rest.map fun v => v.category).sum ≤ 8) (hdg : decode cc pc = .ok (.invokevirtual 294, 3)) (hP : va_P g.1 vcls (wl g (w, z)) H) (hS : va_S (AB g) s.heap H locs) (hls : ls.size = nL) :
    ∃ a, vx_Run p l e R s m args below meth c H locs 0 0 1 6 (F0 m pc ls (.int fig :: .ref (g_a g (2 + kk.toNatClampNeg)) :: rest)) rest (va_Qv (fun (_ : Unit) => E = none) (fun _ t => Wat g (w, z) t) (AB g) a) (xQX g E (w, z)) (AB g) := by
  refine ⟨(Value.ref (g_a g (2 + kk.toNatClampNeg)) :: [Value.int fig]).toArray, ?_⟩
  by_cases c0 : kk = 0
  · subst c0
    have hq : E = (if fig = 0 then none else some xE_i) := by
      have h2 := (gI_some h).2
      simp at h2
      first | exact h2.symm | exact h2
    subst hq
    exact x_runV6 (Cn := n_Ho) C hE (x_Ho_fail (cx_g C) hlt) xw_807 xw_808 xw_809 xw_53 xw_908 (by decide +kernel) (by omega) hc1 hs6 (by decide) (sh_Ko (by decide)) rfl hcat hdg hP hS hls
  by_cases c1 : kk = 1
  · subst c1
    have hq : E = none := by
      have h2 := (gI_some h).2
      simp at h2
      first | exact h2.symm | exact h2
    subst hq
    exact x_runU6 (Cn := n_Co) (owner := n_Ho) (x := y_Ho_fail) C hE (x_Co_fail (cx_g C)) (fun R hR => lkOx 1 xw_807 xw_810 xw_808 xw_812 xw_813 xw_54 xw_814 xw_908 (by decide +kernel) C.2.2.2.2.1 hR) (by omega) hc1 hs6 (by decide) (sh_Ko (by decide)) rfl hcat hdg hP hS hls
  by_cases c2 : kk = 2
  · subst c2
    have hq : E = (if fig = 0 then none else some xE_i) := by
      have h2 := (gI_some h).2
      simp at h2
      first | exact h2.symm | exact h2
    subst hq
    exact x_runU6 (Cn := n_Bl) (owner := n_Ho) (x := y_Ho_fail) C hE (x_Ho_fail (cx_g C) hlt) (fun R hR => lkUx 1 xw_807 xw_810 xw_811 xw_808 xw_53 xw_908 rfl (by decide +kernel) C.2.2.2.2.1 hR) (by omega) hc1 hs6 (by decide) (sh_Ko (by decide)) rfl hcat hdg hP hS hls
  by_cases c3 : kk = 3
  · subst c3
    have hq : E = (if fig = 0 then none else some xE_u) := by
      have h2 := (gI_some h).2
      simp at h2
      first | exact h2.symm | exact h2
    subst hq
    exact x_runU6 (Cn := n_Tw) (owner := n_Ho) (x := y_Ho_fail) C hE (x_Tw_fail (cx_g C) hlt) (fun R hR => lkOx 1 xw_807 xw_810 xw_808 xw_889 xw_890 xw_56 xw_891 xw_908 (by decide +kernel) C.2.2.2.2.1 hR) (by omega) hc1 hs6 (by decide) (sh_Ko (by decide)) rfl hcat hdg hP hS hls
  by_cases c4 : kk = 4
  · subst c4
    have hq : E = (if fig = 0 then none else some xE_i) := by
      have h2 := (gI_some h).2
      simp at h2
      first | exact h2.symm | exact h2
    subst hq
    exact x_runU6 (Cn := n_Dr) (owner := n_Ho) (x := y_Ho_fail) C hE (x_Ho_fail (cx_g C) hlt) (fun R hR => lkUx 1 xw_807 xw_810 xw_815 xw_808 xw_53 xw_908 rfl (by decide +kernel) C.2.2.2.2.1 hR) (by omega) hc1 hs6 (by decide) (sh_Ko (by decide)) rfl hcat hdg hP hS hls
  by_cases c5 : kk = 5
  · subst c5
    have hq : E = (if fig = 0 then none else some xE_i) := by
      have h2 := (gI_some h).2
      simp at h2
      first | exact h2.symm | exact h2
    subst hq
    exact x_runU6 (Cn := n_Fo) (owner := n_Ho) (x := y_Ho_fail) C hE (x_Ho_fail (cx_g C) hlt) (fun R hR => lkUx 1 xw_807 xw_810 xw_816 xw_808 xw_53 xw_908 rfl (by decide +kernel) C.2.2.2.2.1 hR) (by omega) hc1 hs6 (by decide) (sh_Ko (by decide)) rfl hcat hdg hP hS hls
  by_cases c6 : kk = 6
  · subst c6
    have hq : E = (if fig = 0 then none else some xE_a) := by
      have h2 := (gI_some h).2
      simp at h2
      first | exact h2.symm | exact h2
    subst hq
    exact x_runU6 (Cn := n_Ma) (owner := n_Ho) (x := y_Ho_fail) C hE (x_Ma_fail (cx_g C) hlt) (fun R hR => lkOx 1 xw_807 xw_810 xw_808 xw_818 xw_819 xw_59 xw_820 xw_908 (by decide +kernel) C.2.2.2.2.1 hR) (by omega) hc1 hs6 (by decide) (sh_Ko (by decide)) rfl hcat hdg hP hS hls
  by_cases c7 : kk = 7
  · subst c7
    have hq : E = none := by
      have h2 := (gI_some h).2
      simp at h2
      first | exact h2.symm | exact h2
    subst hq
    exact x_runU6 (Cn := n_Ge) (owner := n_Ho) (x := y_Ho_fail) C hE (x_Co_fail (cx_g C)) (fun R hR => lkOx 1 xw_807 xw_810 xw_808 xw_817 xw_813 xw_54 xw_814 xw_908 (by decide +kernel) C.2.2.2.2.1 hR) (by omega) hc1 hs6 (by decide) (sh_Ko (by decide)) rfl hcat hdg hP hS hls
  exfalso
  have hin := (gI_some h).1
  have h9 := vin_lt hin
  have h0 : ¬ kk < 0 := fun q => hin (Or.inl q)
  have key : ∀ k : Int32, ¬ k < 0 → k.toNatClampNeg < 8 → k = 0 ∨ k = 1 ∨ k = 2 ∨ k = 3 ∨ k = 4 ∨ k = 5 ∨ k = 6 ∨ k = 7 := by
    intro k h1 h2
    have h3 : 0 ≤ k.toInt := by
      have := Int32.not_lt.mp h1
      rw [Int32.le_iff_toInt_le] at this
      simpa using this
    have h4 : k.toInt < 8 := by
      unfold Int32.toNatClampNeg at h2
      omega
    have h5 : k.toInt = 0 ∨ k.toInt = 1 ∨ k.toInt = 2 ∨ k.toInt = 3 ∨ k.toInt = 4 ∨ k.toInt = 5 ∨ k.toInt = 6 ∨ k.toInt = 7 := by omega
    have e : ∀ v : Int32, k.toInt = v.toInt → k = v := fun v q => Int32.toInt_inj.mp q
    rcases h5 with h | h | h | h | h | h | h | h
    · exact Or.inl (e 0 h)
    · exact Or.inr (Or.inl (e 1 h))
    · exact Or.inr (Or.inr (Or.inl (e 2 h)))
    · exact Or.inr (Or.inr (Or.inr (Or.inl (e 3 h))))
    · exact Or.inr (Or.inr (Or.inr (Or.inr (Or.inl (e 4 h)))))
    · exact Or.inr (Or.inr (Or.inr (Or.inr (Or.inr (Or.inl (e 5 h))))))
    · exact Or.inr (Or.inr (Or.inr (Or.inr (Or.inr (Or.inr (Or.inl (e 6 h)))))))
    · exact Or.inr (Or.inr (Or.inr (Or.inr (Or.inr (Or.inr (Or.inr (e 7 h)))))))
  rcases key kk h0 h9 with q | q | q | q | q | q | q | q <;> contradiction
end TS2
theorem xk_i : Cond.castable xE_i xE_i ∈ NW := nw_of 911 (by decide +kernel) (by decide +kernel)
theorem xk_u : Cond.castable xE_u xE_u ∈ NW := nw_of 894 (by decide +kernel) (by decide +kernel)
theorem xk_a : Cond.castable xE_a xE_a ∈ NW := nw_of 823 (by decide +kernel) (by decide +kernel)
theorem hz_toss : tableOf hh_toss = [⟨33, 39, 42, 270⟩, ⟨33, 39, 55, 297⟩, ⟨33, 39, 63, 277⟩] := rfl
section TS3
variable {g : GC} {l : Launch}
set_option maxHeartbeats 1000000 in
theorem m_Hb_toss (hg : gOk g) (hlt : l.stackTraces = false) (v1 : Int32) (x : XD) (z : ZD) (r : Int32 × XD) (h : f_Hb_toss v1 x = some r) : Mit g l y_Hb_toss c_Hb_toss 6 hh_toss 8 [.ref (g_a g 0), .int v1] (x, z) r.1 (r.2, z) := by
  refine met_of_vx (vx_ofWH (cc := c_Hb_toss) (maxL := 6) (ret := some .int) (hh := hh_toss) pn_Hb rfl ?_)
  intro p e s m args below meth c s₁ B hml hv
  obtain ⟨rfl, ⟨⟨hP, hK, hb⟩, hnw⟩, hE⟩ := hv
  have hts := atoms_spec (ws := .codeWith y_Hb_toss c_Hb_toss 6 (some .int) hh_toss :: TW) B.pre
  have htb : c.exceptionTable.toList = [⟨33, 39, 42, 270⟩, ⟨33, 39, 55, 297⟩, ⟨33, 39, 63, 277⟩] := (vx_table (x := y_Hb_toss) B (hts _ List.mem_cons_self)).trans hz_toss
  have hown : s.vm.findClass n_Hb = some m.cls := findClass_of_methodNamed B.named
  have htw : ∀ w ∈ TW, w.before _ s = true := fun w hw => hts w (List.mem_cons_of_mem _ hw)
  have C0 : ∀ (Q : State → Prop) (a b : Nat), Cx g (p, l, e, rmx 8, s, m, _, below, meth, c, Q, a, b) c_Hb_toss 6 n_Hb 8 := fun Q a b => ⟨B.exec, B.bytes, hml, hown, htw, hK, hg, hb, Nat.le_refl _, Nat.le_refl _, hnw⟩
  have hl := lv_entry [Value.ref (g_a g 0), Value.int v1] (n := 6) (Nat.le_of_ble_eq_true rfl)
  rw [lg_entry_eq]
  have hret : ∀ (pc : Nat) (loc : List (Nat × Value)) (r0 : Int32) (w0 : XD), decode c_Hb_toss pc = .ok (.ireturn, 1) → r = (r0, w0) → Wk g (p, l, e, rmx 8, s, m, [Value.ref (g_a g 0), Value.int v1].toArray, below, meth, c, vx_MQ below (va_Qi (fun (r2 : Int32) (_ : Unit) => r2 = r.1) (fun _ t => Wat g (r.2, z) t) (AB g)) (fun _ _ _ => False) [Value.ref (g_a g 0), Value.int v1].toArray s 1 6 (AB g), 1, 6) 6 pc loc [.int r0] (w0, z) := by
    rintro pc loc r0 w0 hd rfl
    exact fun H locs ls hP hS hl => vx_ret (W.iret B.exec B.bytes B.returns (fun t ht hW => ⟨⟨r0, (), rfl, rfl, by rw [ht]; exact hP, va_K.moved hW.alike hK, by rw [ht]; exact Nat.le_trans hb hS.1⟩, hS.F ht⟩) hS.2.2 hd B.notSynchronized)
  generalize hQ : vx_MQ below (va_Qi (fun (r2 : Int32) (_ : Unit) => r2 = r.1) (fun _ t => Wat g (r.2, z) t) (AB g)) (fun _ _ _ => False) [Value.ref (g_a g 0), Value.int v1].toArray s 1 6 (AB g) = Q at hret ⊢
  have C := C0 Q 0 0
  have C1 := C0 Q 1 6
  have key : Wk g (p, l, e, rmx 8, s, m, [Value.ref (g_a g 0), Value.int v1].toArray, below, meth, c, Q, 0, 0) 6 0 (lv_args 0 [Value.ref (g_a g 0), Value.int v1]) [] (x, z) := by
    refine k_sub (lv' := [(0, .ref (g_a g 0)), (1, .int v1)]) [0, 1] rfl ?_
    unfold f_Hb_toss at h
    refine k_aload_n C d_Hb_toss_0 0 rfl ?_
    refine k_iload_n C d_Hb_toss_1 1 rfl ?_
    obtain ⟨p1, ep1, h⟩ := bd_some h
    refine k_callVi C q_Hb_146 (fun l => m_Hb_refusalOfKind (cx_g C) l v1 x z p1 ep1) rfl rfl ⟨Nat.zero_le _, Nat.zero_le _⟩ (by decide) sh_Hb rfl rfl rfl rfl d_Hb_toss_2 ?_
    refine k_istore_n C (lv' := [(2, .int p1.1), (0, .ref (g_a g 0)), (1, .int v1)]) d_Hb_toss_5 rfl rfl ?_
    refine k_iload_n C d_Hb_toss_6 0 rfl ?_
    refine k_if_eq C 12 d_Hb_toss_7 (by decide) (fun c1 => ?_) (fun c1 => ?_)
    rotate_left
    · have h := (if_neg c1).symm.trans h
      refine k_iload_n C d_Hb_toss_10 0 rfl ?_
      exact k_wd (hret 11 _ p1.1 p1.2 d_Hb_toss_11 (Option.some.inj h).symm)
    have h := (if_pos c1).symm.trans h
    obtain ⟨i1, h⟩ := gI_some h
    refine k_aload_n C d_Hb_toss_12 1 rfl ?_
    refine kg_Hb_64 C d_Hb_toss_13 ?_
    refine k_iload_n C d_Hb_toss_16 2 rfl ?_
    refine k_aald_Sh C i1 d_Hb_toss_17 ?_
    refine kg_Hb_152 C (hid_ok i1) d_Hb_toss_18 ?_
    refine k_astore_n C (lv' := [(3, .ref (g_a g (2 + (p1.2 (hid v1) 1).toNatClampNeg))), (2, .int p1.1), (0, .ref (g_a g 0)), (1, .int v1)]) d_Hb_toss_21 rfl rfl ?_
    refine k_aload_n C d_Hb_toss_22 2 rfl ?_
    refine kg_Hb_64 C d_Hb_toss_23 ?_
    refine k_iload_n C d_Hb_toss_26 3 rfl ?_
    refine k_aald_Sh C i1 d_Hb_toss_27 ?_
    refine kg_Hb_153 C (hid_ok i1) d_Hb_toss_28 ?_
    refine k_istore C (lv' := [(4, .int (p1.2 (hid v1) 2)), (3, .ref (g_a g (2 + (p1.2 (hid v1) 1).toNatClampNeg))), (2, .int p1.1), (0, .ref (g_a g 0)), (1, .int v1)]) d_Hb_toss_31 rfl rfl ?_
    refine k_aload_n C d_Hb_toss_33 1 rfl ?_
    refine k_iload C d_Hb_toss_34 0 rfl ?_
    unfold f_toss2 at h
    obtain ⟨E, eE, h⟩ := bd_some h
    intro H locs ls hP hS hl
    obtain ⟨a, hrun⟩ := x_fail_any (rest := []) hlt C hE eE (by decide) rfl rfl (by decide) d_Hb_toss_36 hP hS hl.1
    refine vx_callv hrun hS (fun _ _ h => h) (fun _ h => h) (fun _ _ h => h) (fun E1 ce q9 u t H1 locs1 ht hA hu hB hz hk hS1 hq9 hce hcl => ?_) (fun u t H1 locs1 ht hA hw hB hz hk hS1 => ?_)
    · obtain ⟨rfl, hB1, -, -⟩ := hB
      rw [ht] at hB1
      rcases xthr_is eE with h1 | h1 | h1 | h1
      · cases h1
      · obtain rfl := Option.some.inj h1
        have h := (if_neg (by simp)).symm.trans h
        have h := (if_pos rfl).symm.trans h
        refine vx_catch (own := n_Hb) (name := xE_a) hown [] _ _ htb (fun z hz => nomatch hz) rfl (by decide) (htw _ xl_Hb_a) (hnw.use xk_a) hq9 hce hcl ?_
        refine (?_ : Wk g (p, l, e, rmx 8, s, m, [Value.ref (g_a g 0), Value.int v1].toArray, below, meth, c, Q, 1, 6) 6 42 _ [.ref q9] (p1.2, z)) H1 locs1 ls hB1 hS1 hl
        refine k_astore C1 (lv' := [(5, .ref q9), (4, .int (p1.2 (hid v1) 2)), (3, .ref (g_a g (2 + (p1.2 (hid v1) 1).toNatClampNeg))), (2, .int p1.1), (0, .ref (g_a g 0)), (1, .int v1)]) d_Hb_toss_42 rfl rfl ?_
        refine k_sipush C1 200 d_Hb_toss_44 (by decide) ?_
        refine k_aload_n C1 d_Hb_toss_47 2 rfl ?_
        refine k_iload C1 d_Hb_toss_48 1 rfl ?_
        obtain ⟨p2, ep2, h⟩ := bd_some h
        refine kv_Hb_291 C1 ep2 rfl ⟨Nat.le_refl _, Nat.le_refl _⟩ rfl d_Hb_toss_50 ?_
        refine k_iadd C1 d_Hb_toss_53 ?_
        exact hret 54 _ _ _ d_Hb_toss_54 (Option.some.inj h).symm
      · obtain rfl := Option.some.inj h1
        have h := (if_neg (by simp)).symm.trans h
        have h := (if_neg (by decide)).symm.trans h
        have h := (if_pos rfl).symm.trans h
        refine vx_catch (own := n_Hb) (name := xE_u) hown [⟨33, 39, 42, 270⟩] _ _ htb (fun z hz => ?_) rfl (by decide) (htw _ xl_Hb_u) (hnw.use xk_u) hq9 hce hcl ?_
        · rw [List.mem_singleton.mp hz]
          exact Or.inr ⟨by decide, xE_a, htw _ xl_Hb_a, hE.2.2.2.2.2.2.2.1⟩
        refine (?_ : Wk g (p, l, e, rmx 8, s, m, [Value.ref (g_a g 0), Value.int v1].toArray, below, meth, c, Q, 1, 6) 6 55 _ [.ref q9] (p1.2, z)) H1 locs1 ls hB1 hS1 hl
        refine k_astore C1 (lv' := [(5, .ref q9), (4, .int (p1.2 (hid v1) 2)), (3, .ref (g_a g (2 + (p1.2 (hid v1) 1).toNatClampNeg))), (2, .int p1.1), (0, .ref (g_a g 0)), (1, .int v1)]) d_Hb_toss_55 rfl rfl ?_
        refine k_bipush C1 100 d_Hb_toss_57 (by decide) ?_
        refine k_iload C1 d_Hb_toss_59 1 rfl ?_
        refine k_iadd C1 d_Hb_toss_61 ?_
        exact hret 62 _ _ _ d_Hb_toss_62 (Option.some.inj h).symm
      · obtain rfl := Option.some.inj h1
        have h := (if_neg (by simp)).symm.trans h
        have h := (if_neg (by decide)).symm.trans h
        have h := (if_neg (by decide)).symm.trans h
        refine vx_catch (own := n_Hb) (name := xE_i) hown [⟨33, 39, 42, 270⟩, ⟨33, 39, 55, 297⟩] _ [] htb (fun z hz => ?_) rfl (by decide) (htw _ xl_Hb_i) (hnw.use xk_i) hq9 hce hcl ?_
        · rcases List.mem_cons.mp hz with rfl | hz
          · exact Or.inr ⟨by decide, xE_a, htw _ xl_Hb_a, hE.2.2.2.2.2.2.2.2.1⟩
          · rw [List.mem_singleton.mp hz]
            exact Or.inr ⟨by decide, xE_u, htw _ xl_Hb_u, hE.2.2.2.2.2.2.2.2.2⟩
        refine (?_ : Wk g (p, l, e, rmx 8, s, m, [Value.ref (g_a g 0), Value.int v1].toArray, below, meth, c, Q, 1, 6) 6 63 _ [.ref q9] (p1.2, z)) H1 locs1 ls hB1 hS1 hl
        refine k_astore C1 (lv' := [(5, .ref q9), (4, .int (p1.2 (hid v1) 2)), (3, .ref (g_a g (2 + (p1.2 (hid v1) 1).toNatClampNeg))), (2, .int p1.1), (0, .ref (g_a g 0)), (1, .int v1)]) d_Hb_toss_63 rfl rfl ?_
        refine k_iload C1 d_Hb_toss_65 1 rfl ?_
        exact hret 67 _ _ _ d_Hb_toss_67 (Option.some.inj h).symm
    · have h := (if_pos hw).symm.trans h
      obtain ⟨hB1, -, -⟩ := hB
      rw [ht] at hB1
      refine (?_ : Wk g (p, l, e, rmx 8, s, m, [Value.ref (g_a g 0), Value.int v1].toArray, below, meth, c, Q, 1, 6) 6 39 _ [] (p1.2, z)) H1 locs1 ls hB1 hS1 hl
      refine k_goto C1 68 d_Hb_toss_39 (by decide) ?_
      refine k_bipush C1 (-15) d_Hb_toss_68 (by decide) ?_
      exact hret 70 _ _ _ d_Hb_toss_70 (Option.some.inj h).symm
  exact key s.heap [] _ hP va_S.rf hl
end TS3

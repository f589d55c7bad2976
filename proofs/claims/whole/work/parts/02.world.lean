/-! THE WORLD: one list of cells for both objects; what they hold told by numbers. -/
def n_Ho : String := "HiredByLonging$Horse"
def n_Co : String := "HiredByLonging$Content"
def n_Bl : String := "HiredByLonging$Blind"
def n_Tw : String := "HiredByLonging$Two"
def n_Dr : String := "HiredByLonging$Drowned"
def n_Fo : String := "HiredByLonging$Foal"
def n_Ma : String := "HiredByLonging$Mare"
def n_Ge : String := "HiredByLonging$Gelding"
def n_St : String := "HiredByLonging$Steed"
def n_La : String := "HiredByLonging$Land"
def n_Sh : String := "HiredByLonging$Shelf"
def n_Hb : String := "HiredByLonging"
def n_Mo : String := "HiredByLongingModel"
def n_Lw : String := "HiredByLongingLaw"
def n_In : String := "java/lang/Intege\x72"
def T_0 : u_T := fun _ => ("", "", "", false)
def T_St : u_T := fun k => match k with
  | 0 => (n_St, "kind", "LHiredByLonging$Horse;", false)
  | 1 => (n_St, "figure", "I", false)
  | 2 => (n_St, "home", "I", false)
  | 3 => (n_St, "at", "I", false)
  | _ => (n_St, "longing", "I", false)
def T_La : u_T := fun k => match k with
  | 0 => (n_La, "kinds", "[LHiredByLonging$Horse;", true)
  | 1 => (n_La, "steeds", "[LHiredByLonging$Steed;", true)
  | 2 => (n_La, "horses", "I", false)
  | 3 => (n_La, "oats", "I", false)
  | _ => (n_La, "day", "I", false)
def T_Sh : u_T := fun k => match k with
  | 0 => (n_Sh, "holds", "I", false)
  | 1 => (n_Sh, "kind", "LHiredByLonging$Horse;", false)
  | 2 => (n_Sh, "figure", "I", false)
  | 3 => (n_Sh, "sort", "I", false)
  | 4 => (n_Sh, "size", "I", false)
  | _ => (n_Sh, "elements", "[I", true)
def T_Hb : u_T := fun k => match k with
  | 0 => (n_Hb, "kinds", "[LHiredByLonging$Horse;", true)
  | 1 => (n_Hb, "now", "LHiredByLonging$Land;", true)
  | 2 => (n_Hb, "image", "LHiredByLonging$Land;", true)
  | 3 => (n_Hb, "minds", "[LHiredByLonging$Land;", true)
  | 4 => (n_Hb, "one", "LHiredByLonging$Steed;", true)
  | 5 => (n_Hb, "shelves", "[LHiredByLonging$Shelf;", true)
  | _ => (n_Hb, "imageTaken", "Z", false)
def T_Mo : u_T := fun k => match k with
  | 0 => (n_Mo, "horses", "I", false)
  | 1 => (n_Mo, "kinds", "[I", true)
  | 2 => (n_Mo, "figures", "[I", true)
  | 3 => (n_Mo, "homes0", "[I", true)
  | 4 => (n_Mo, "at0", "[I", true)
  | 5 => (n_Mo, "longing", "[I", true)
  | 6 => (n_Mo, "oats", "I", false)
  | 7 => (n_Mo, "today", "I", false)
  | 8 => (n_Mo, "holdsWhat", "[I", true)
  | 9 => (n_Mo, "keptKind", "[I", true)
  | 10 => (n_Mo, "keptFigure", "[I", true)
  | 11 => (n_Mo, "rowSort", "[I", true)
  | 12 => (n_Mo, "rowMany", "[I", true)
  | 13 => (n_Mo, "rows", "[J", true)
  | 14 => (n_Mo, "thrown", "I", false)
  | 15 => (n_Mo, "reading", "I", false)
  | 16 => (n_Mo, "place", "I", false)
  | 17 => (n_Mo, "isBad", "Z", false)
  | 18 => (n_Mo, "statements", "I", false)
  | 19 => (n_Mo, "placeIn", "[I", true)
  | 20 => (n_Mo, "letterOf", "[I", true)
  | 21 => (n_Mo, "told", "[I", true)
  | 22 => (n_Mo, "kept", "[I", true)
  | 23 => (n_Mo, "kept1", "[I", true)
  | 24 => (n_Mo, "kept2", "[I", true)
  | 25 => (n_Mo, "imaged", "[I", true)
  | 26 => (n_Mo, "hasImage", "Z", false)
  | 27 => (n_Mo, "place0", "I", false)
  | 28 => (n_Mo, "isTaking", "Z", false)
  | 29 => (n_Mo, "keptIn", "[I", false)
  | 30 => (n_Mo, "chainDays", "I", false)
  | 31 => (n_Mo, "chainFirst", "I", false)
  | 32 => (n_Mo, "thereBy", "[I", true)
  | 33 => (n_Mo, "seed", "I", false)
  | _ => (n_Mo, "between", "[J", true)
/-- the words that every method takes: those of the tables that keep -/
def TW : List Cond := lw_tbl.filter goodWord
theorem tw_of {w : Cond} (i : Nat) (h : lw_tbl[i]? = some w) (g : goodWord w = true) : w ∈ TW := List.mem_filter.mpr ⟨List.mem_of_getElem? h, g⟩
theorem tw_good {w : Cond} (h : w ∈ TW) : (w.onTables && w.keeps) = true ∨ ∃ ty, w = .arrayClass ty := good_of_word (List.mem_filter.mp h).2
/-- a callee's words among its caller's -/
theorem tw_in {a b : Cond} {ex : List Cond} (hb : b ∈ TW) (he : ∀ w ∈ ex, w ∈ TW) : GoodIn (a :: TW) (ex ++ b :: TW) := by
  intro w hw
  have h : w ∈ TW := by
    rcases List.mem_append.mp hw with h | h
    · exact he w h
    · rcases List.mem_cons.mp h with rfl | h
      · exact hb
      · exact h
  exact ⟨List.mem_cons_of_mem _ h, tw_good h⟩
theorem tw_in0 {b : Cond} {ex : List Cond} (hb : b ∈ TW) (he : ∀ w ∈ ex, w ∈ TW) : GoodIn TW (ex ++ b :: TW) := by
  intro w hw
  have h : w ∈ TW := by
    rcases List.mem_append.mp hw with h | h
    · exact he w h
    · rcases List.mem_cons.mp h with rfl | h
      · exact hb
      · exact h
  exact ⟨h, tw_good h⟩
/-- the words on members of a nest mate: they go along in the worlds -/
def isNst : Cond → Bool
  | .fieldLinkNest .. => true
  | .methodLinkNest .. => true
  | .castable .. => true
  | .declares _ => true
  | _ => false
def NW : List Cond := lw_tbl.filter isNst
theorem nw_of {w : Cond} (i : Nat) (h : lw_tbl[i]? = some w) (g : isNst w = true) : w ∈ NW := List.mem_filter.mpr ⟨List.mem_of_getElem? h, g⟩
def NWs (U : State) : Prop := ∀ w ∈ NW, va_Nw w U
theorem nst_tabs {w : Cond} (h : isNst w = true) : w.onTables = true := by
  cases w <;> first | rfl | (simp [isNst] at h)
theorem nst_warm {w : Cond} (h : isNst w = true) {s U : State} (hW : s.WarmedH U.vm) (hZ : va_Nw w s) : va_Nw w U := by
  cases w <;> first | exact va_Nw.warmF hW hZ | exact va_Nw.warmM hW hZ | exact va_Nw.warmC hW hZ | exact va_Nw.warmD hW hZ | (simp [isNst] at h)
theorem NWs.warm {s U : State} (h : NWs s) (hW : s.WarmedH U.vm) : NWs U := fun w hw => nst_warm (List.mem_filter.mp hw).2 hW (h w hw)
theorem NWs.same {s U : State} (h : NWs s) (hv : s.vm = U.vm) : NWs U := fun w hw => va_Nw.same (nst_tabs (List.mem_filter.mp hw).2) hv (h w hw)
theorem NWs.use {s : State} (h : NWs s) {w : Cond} (hw : w ∈ NW) {A : Array Value} : w.before A s = true := va_Nw.use (nst_tabs (List.mem_filter.mp hw).2) (h w hw)
abbrev vcls : List vw_C := [(n_Ho, T_0, 0), (n_Co, T_0, 0), (n_Bl, T_0, 0), (n_Tw, T_0, 0), (n_Dr, T_0, 0), (n_Fo, T_0, 0), (n_Ma, T_0, 0), (n_Ge, T_0, 0), (n_St, T_St, 5), (n_La, T_La, 5), (n_Sh, T_Sh, 6), (n_Hb, T_Hb, 7), (n_Mo, T_Mo, 35)]
/-- the fixed things: classes and slots, the arrays' classes, the addresses, the first address that is the law's -/
abbrev GC : Type := va_G × (Nat → ClassId) × (Nat → Nat) × Nat
abbrev g_a (g : GC) : Nat → Nat := g.2.2.1
abbrev g_b (g : GC) : Nat := g.2.2.2
abbrev g_c (g : GC) : Nat → ClassId := g.2.1
abbrev gtys (g : GC) : List (ClassId × FieldType) := [(g_c g 0, .int), (g_c g 1, .long), (g_c g 2, .object n_Ho), (g_c g 3, .object n_St), (g_c g 4, .object n_La), (g_c g 5, .object n_Sh)]
abbrev XD : Type := Nat → Nat → Int32
abbrev JD : Type := Nat → Nat → Int64
/-- the reference's numbers: ints, longs, which array keptIn is (0: null) -/
abbrev MD : Type := XD × JD × Nat
/-- both sides, and the law's own long -/
abbrev WD : Type := XD × MD × (Nat → Int64)
def x_up {α : Type} (w : Nat → Nat → α) (k j : Nat) (v : α) : Nat → Nat → α := fun a b => if a = k then (if b = j then v else w a b) else w a b
abbrev rfs (f : Nat → Nat) : (Nat → Int32) ⊕ (Nat → Int64) ⊕ (Nat → UInt32) ⊕ (Nat → UInt64) ⊕ (Nat → Option Nat) := .inr (.inr (.inr (.inr fun i => some (f i))))
def shX (g : GC) (k : Nat) (d : Nat → Int32) : va_E :=
  if k = 0 then .inr (11, [.ref (g_a g 1), .ref (g_a g 10), .ref (g_a g 11), .ref (g_a g 65), .ref (g_a g 64), .ref (g_a g 66), .int (d 6)])
  else if k = 1 then .inl (g_c g 2, 8, rfs fun i => g_a g (2 + i))
  else if k < 10 then .inr (k - 2, [])
  else if k < 16 then .inr (9, [.ref (g_a g 1), .ref (g_a g (k + 6)), .int (d 2), .int (d 3), .int (d 4)])
  else if k < 22 then .inl (g_c g 3, 7, rfs fun i => g_a g (22 + 7 * (k - 16) + i))
  else if k < 65 then .inr (8, [.ref (g_a g (2 + (d 0).toNatClampNeg)), .int (d 1), .int (d 2), .int (d 3), .int (d 4)])
  else if k = 65 then .inl (g_c g 4, 4, rfs fun i => g_a g (12 + i))
  else if k = 66 then .inl (g_c g 5, 8, rfs fun i => g_a g (67 + i))
  else if k < 75 then .inr (10, [.int (d 0), .ref (g_a g (2 + (d 1).toNatClampNeg)), .int (d 2), .int (d 3), .int (d 4), .ref (g_a g (k + 8))])
  else .inl (g_c g 0, 100, .inl d)
def shN (k : Nat) : Nat := if k < 89 then 7 else if k < 94 then 8 else if k < 97 then 51 else if k < 98 then 204 else if k < 102 then 38 else 4
def shM (g : GC) (k : Nat) (d : Nat → Int32) (j : Nat → Int64) (q : Nat) : va_E :=
  if k = 83 then .inr (12, [.int (d 0), .ref (g_a g 84), .ref (g_a g 85), .ref (g_a g 86), .ref (g_a g 87), .ref (g_a g 88), .int (d 6), .int (d 7), .ref (g_a g 89), .ref (g_a g 90), .ref (g_a g 91), .ref (g_a g 92), .ref (g_a g 93), .ref (g_a g 94), .int (d 14), .int (d 15), .int (d 16), .int (d 17), .int (d 18), .ref (g_a g 95), .ref (g_a g 96), .ref (g_a g 97), .ref (g_a g 98), .ref (g_a g 99), .ref (g_a g 100), .ref (g_a g 101), .int (d 26), .int (d 27), .int (d 28), (if q = 0 then .null else .ref (g_a g q)), .int (d 30), .int (d 31), .ref (g_a g 102), .int (d 33), .ref (g_a g 103)])
  else if k = 94 then .inl (g_c g 1, 800, .inr (.inl j))
  else if k = 103 then .inl (g_c g 1, 100, .inr (.inl j))
  else .inl (g_c g 0, shN k, .inl d)
def shW (g : GC) (w : WD) (k : Nat) : va_E := if k < 83 then shX g k (w.1 k) else if k < 104 then shM g k (w.2.1.1 k) (w.2.1.2.1 k) w.2.1.2.2 else .inl (g_c g 1, 1, .inr (.inl w.2.2))
def wl (g : GC) (w : WD) : va_W := (List.range 105).map fun k => (g_a g k, shW g w k)
theorem wl_at {g : GC} {w : WD} {k : Nat} (h : k < 105) : (wl g w)[k]? = some (g_a g k, shW g w k) := by simp [wl, h]
theorem wl_set {g : GC} {w w' : WD} {k : Nat} {v : va_E} (hk : k < 105) (hv : shW g w' k = v) (ho : ∀ j, j ≠ k → shW g w' j = shW g w j) : (wl g w).set k (g_a g k, v) = wl g w' := by
  refine List.ext_getElem? fun i => ?_
  rw [List.getElem?_set]
  rcases Nat.lt_or_ge i 105 with h | h
  · rw [wl_at (w := w) h, wl_at (w := w') h]
    by_cases e : k = i
    · subst e
      simp [wl, hk, hv]
    · rw [if_neg e, ho i (fun q => e q.symm)]
  · rw [if_neg (by omega)]
    simp [wl, h]
def gOk (g : GC) : Prop := (∀ i j : Nat, i < 105 → j < 105 → g_a g i = g_a g j → i = j) ∧ ∀ k : Nat, k < 105 → g_b g ≤ g_a g k
theorem gOk.d {g : GC} (h : gOk g) (w : WD) : va_D (fun q => g_b g ≤ q) (wl g w) := by
  have key : ∀ (i : Nat) (p : Nat × va_E), (wl g w)[i]? = some p → i < 105 ∧ p.1 = g_a g i := by
    intro i p hi
    have h1 : i < 105 := by
      rcases Nat.lt_or_ge i 105 with q | q
      · exact q
      · simp [wl, q] at hi
    rw [wl_at h1] at hi
    cases hi
    exact ⟨h1, rfl⟩
  refine ⟨fun i j p q hi hj e => ?_, fun k q hk => ?_⟩
  · obtain ⟨a1, a2⟩ := key i p hi
    obtain ⟨b1, b2⟩ := key j q hj
    exact h.1 i j a1 b1 (by rw [← a2, ← b2, e])
  · obtain ⟨a1, a2⟩ := key k q hk
    rw [a2]
    exact h.2 k a1
/-- the machine's fixed things in a walk, and where it goes -/
abbrev MX : Type := Program × Launch × Env × Room × State × MethodId × Array Value × List Frame × Method × Code × (State → Prop) × Nat × Nat
abbrev AB (g : GC) : Nat → Prop := fun q => g_b g ≤ q
def Cx (g : GC) (X : MX) (cc : ByteArray) (nL : Nat) (own : String) (lvl : Nat) : Prop := match X with
  | (p, _, _, R, s, m, args, _, _, c, _, _, _) => p.tables.exec = Jvm.exec ∧ c.code = cc ∧ c.maxLocals = nL ∧ s.vm.findClass own = some m.cls ∧ (∀ w ∈ TW, w.before args s = true) ∧ va_K g.1 vcls (gtys g) s ∧ gOk g ∧ g_b g ≤ s.heap.size ∧ lvl ≤ R.frames ∧ 40 * lvl ≤ R.locals ∧ NWs s
def Wk (g : GC) (X : MX) (nL pc : Nat) (loc : List (Nat × Value)) (st : List Value) (w : WD) : Prop := match X with
  | (p, l, e, R, s, m, args, below, meth, c, Q, cells, slots) => ∀ (H : Heap) (locs : List Loc) (ls : Array Slot), va_P g.1 vcls (wl g w) H → va_S (AB g) s.heap H locs → lv_has ls nL loc → W p l e R s m args below meth c H locs cells slots Q (F0 m pc ls st)
/-- the world in a state -/
def Wat (g : GC) (w : WD) (U : State) : Prop := va_P g.1 vcls (wl g w) U.heap ∧ va_K g.1 vcls (gtys g) U ∧ g_b g ≤ U.heap.size
def Wpr (g : GC) (w : WD) (U : State) : Prop := Wat g w U ∧ NWs U
def rmd (lvl : Nat) : Room := { frames := lvl, cells := 0, slots := 0, locals := 40 * lvl }
/-- contracts: from the world w, with these arguments, the method answers r and leaves the world w' -/
def Mi (g : GC) (l : Launch) (y : MethodName) (cc : ByteArray) (nL : Nat) (ret : Option FieldType) (lvl : Nat) (av : List Value) (w : WD) (r : Int32) (w' : WD) : Prop :=
  Met l y (.code y cc nL ret :: TW) (rmd lvl) (va_Pc av (fun U => Wpr g w U)) (va_Qi (fun (r2 : Int32) (_ : Unit) => r2 = r) (fun _ t => Wat g w' t) (AB g)) 0 0 (AB g)
def Ml (g : GC) (l : Launch) (y : MethodName) (cc : ByteArray) (nL : Nat) (ret : Option FieldType) (lvl : Nat) (av : List Value) (w : WD) (r : Int64) (w' : WD) : Prop :=
  Met l y (.code y cc nL ret :: TW) (rmd lvl) (va_Pc av (fun U => Wpr g w U)) (va_Ql (fun (r2 : Int64) (_ : Unit) => r2 = r) (fun _ t => Wat g w' t) (AB g)) 0 0 (AB g)
def Mv (g : GC) (l : Launch) (y : MethodName) (cc : ByteArray) (nL : Nat) (ret : Option FieldType) (lvl : Nat) (av : List Value) (w : WD) (w' : WD) : Prop :=
  Met l y (.code y cc nL ret :: TW) (rmd lvl) (va_Pc av (fun U => Wpr g w U)) (va_Qv (fun (_ : Unit) => True) (fun _ t => Wat g w' t) (AB g)) 0 0 (AB g)
theorem wat_blind {g : GC} {w : WD} {av : List Value} : FrameBlind (va_Pc av (fun U => Wpr g w U)) := fun a U fr mk q => by
  obtain ⟨q0, ⟨qP, qK, qb⟩, qn⟩ := q
  exact ⟨q0, ⟨qP, va_K.moved (u := U) (U := U.calling fr mk a) (Vm.Alike.refl U.vm) qK, qb⟩, qn.same rfl⟩
/-- the entry of a method -/
theorem m_entry {g : GC} (hg : gOk g) {l : Launch} {y : MethodName} {cc : ByteArray} {nL : Nat} {ret : Option FieldType} {lvl : Nat} {av : List Value} {w : WD} {Qc : Array Value → State → Outcome → State → Prop} (hy : plainName y.cls = true) (hn : (lg_sl av).length ≤ nL)
    (body : ∀ (X : MX), X.2.2.2.2.2.2.2.2.2.2.1 = MQ X.2.2.2.2.2.2.2.1 Qc X.2.2.2.2.2.2.1 X.2.2.2.2.1 0 0 (AB g) → X.2.2.2.2.2.2.2.2.1.sig.returnType = ret → X.2.2.2.2.2.2.2.2.1.locks = false → X.2.2.2.2.2.2.2.2.2.2.2 = (0, 0) → Cx g X cc nL y.cls lvl → Wk g X nL 0 (lv_args 0 av) [] w) :
    Met l y (.code y cc nL ret :: TW) (rmd lvl) (va_Pc av (fun U => Wpr g w U)) Qc 0 0 (AB g) := by
  refine Met.ofW (cc := cc) (maxL := nL) (ret := ret) hy rfl ?_
  intro p e s m args below meth c s₁ B hml hv
  obtain ⟨rfl, ⟨hP, hK, hb⟩, hnw⟩ := hv
  have hts := atoms_spec (ws := .code y cc nL ret :: TW) B.pre
  have hl := lv_entry av (n := nL) hn
  rw [lg_entry_eq]
  have h := body (p, l, e, rmd lvl, s, m, av.toArray, below, meth, c, MQ below Qc av.toArray s 0 0 (AB g), 0, 0) rfl B.returns B.notSynchronized rfl ⟨B.exec, B.bytes, hml, findClass_of_methodNamed B.named, fun w hw => hts w (List.mem_cons_of_mem _ hw), hK, hg, hb, Nat.le_refl _, Nat.le_refl _, hnw⟩
  exact h s.heap [] _ hP va_S.rf hl

/-! What the world's list holds at each place; what a store does; loads and stores of this world. -/
def lt {α β : Type} (a : α) (k : α → β) : β := k a
theorem lt_some {α β : Type} {a : α} {k : α → Option β} {r : β} (h : lt a k = some r) : ∃ b, b = a ∧ k b = some r := ⟨a, rfl, h⟩
def fu : Nat := 1000
theorem nble {a b : Nat} (h : a ≤ b) : Nat.ble a b = true := Nat.ble_eq.mpr h
/-- a horse of the land o, a land in mind, a shelf: by their numbers -/
def sid (o : Nat) (i : Int32) : Nat := 22 + 7 * (o - 10) + i.toNatClampNeg
def lid (i : Int32) : Nat := 12 + i.toNatClampNeg
def hid (i : Int32) : Nat := 67 + i.toNatClampNeg
theorem sid_ok {o : Nat} {i : Int32} (h : 10 ≤ o ∧ o < 16) (hi : vp_in i 7) : 22 ≤ sid o i ∧ sid o i < 65 := by
  have := vin_lt hi
  unfold sid; omega
theorem lid_ok {i : Int32} (hi : vp_in i 4) : 10 ≤ lid i ∧ lid i < 16 := by
  have := vin_lt hi
  unfold lid; omega
theorem hid_ok {i : Int32} (hi : vp_in i 8) : 67 ≤ hid i ∧ hid i < 75 := by
  have := vin_lt hi
  unfold hid; omega
theorem lt105 {a b o : Nat} (h : a ≤ o ∧ o < b) (hb : Nat.ble b 105 = true) : o < 105 := Nat.lt_of_lt_of_le h.2 (Nat.le_of_ble_eq_true hb)
abbrev ZD : Type := MD × (Nat → Int64)
section SH
variable {g : GC} {x xx : XD} {z : ZD} {m : MD} {oo : Nat → Int64} {o : Nat}
theorem sh_Hb : shW g (x, z) 0 = .inr (11, [.ref (g_a g 1), .ref (g_a g 10), .ref (g_a g 11), .ref (g_a g 65), .ref (g_a g 64), .ref (g_a g 66), .int (x 0 6)]) := rfl
theorem sh_ka : shW g (x, z) 1 = .inl (g_c g 2, 8, rfs fun i => g_a g (2 + i)) := rfl
theorem sh_Ko (h : 2 ≤ o ∧ o < 10) : shW g (x, z) o = .inr (o - 2, []) := by
  obtain ⟨h1, h2⟩ := h
  unfold shW shX
  rw [if_pos (by omega), if_neg (by omega), if_neg (by omega), if_pos (by omega)]
theorem sh_La (h : 10 ≤ o ∧ o < 16) : shW g (x, z) o = .inr (9, [.ref (g_a g 1), .ref (g_a g (o + 6)), .int (x o 2), .int (x o 3), .int (x o 4)]) := by
  obtain ⟨h1, h2⟩ := h
  unfold shW shX
  rw [if_pos (by omega), if_neg (by omega), if_neg (by omega), if_neg (by omega), if_pos (by omega)]
theorem sh_sa (h : 10 ≤ o ∧ o < 16) : shW g (x, z) (o + 6) = .inl (g_c g 3, 7, rfs fun i => g_a g (22 + 7 * (o + 6 - 16) + i)) := by
  obtain ⟨h1, h2⟩ := h
  unfold shW shX
  rw [if_pos (by omega), if_neg (by omega), if_neg (by omega), if_neg (by omega), if_neg (by omega), if_pos (by omega)]
theorem sh_St (h : 22 ≤ o ∧ o < 65) : shW g (x, z) o = .inr (8, [.ref (g_a g (2 + (x o 0).toNatClampNeg)), .int (x o 1), .int (x o 2), .int (x o 3), .int (x o 4)]) := by
  obtain ⟨h1, h2⟩ := h
  unfold shW shX
  rw [if_pos (by omega), if_neg (by omega), if_neg (by omega), if_neg (by omega), if_neg (by omega), if_neg (by omega), if_pos (by omega)]
theorem sh_mi : shW g (x, z) 65 = .inl (g_c g 4, 4, rfs fun i => g_a g (12 + i)) := rfl
theorem sh_sv : shW g (x, z) 66 = .inl (g_c g 5, 8, rfs fun i => g_a g (67 + i)) := rfl
theorem sh_Sh (h : 67 ≤ o ∧ o < 75) : shW g (x, z) o = .inr (10, [.int (x o 0), .ref (g_a g (2 + (x o 1).toNatClampNeg)), .int (x o 2), .int (x o 3), .int (x o 4), .ref (g_a g (o + 8))]) := by
  obtain ⟨h1, h2⟩ := h
  unfold shW shX
  rw [if_pos (by omega), if_neg (by omega), if_neg (by omega), if_neg (by omega), if_neg (by omega), if_neg (by omega), if_neg (by omega), if_neg (by omega), if_neg (by omega), if_pos (by omega)]
theorem sh_el (h : 67 ≤ o ∧ o < 75) : shW g (x, z) (o + 8) = .inl (g_c g 0, 100, .inl (x (o + 8))) := by
  obtain ⟨h1, h2⟩ := h
  unfold shW shX
  rw [if_pos (by omega), if_neg (by omega), if_neg (by omega), if_neg (by omega), if_neg (by omega), if_neg (by omega), if_neg (by omega), if_neg (by omega), if_neg (by omega), if_neg (by omega)]
theorem sh_Mo : shW g (xx, m, oo) 83 = .inr (12, [.int (m.1 83 0), .ref (g_a g 84), .ref (g_a g 85), .ref (g_a g 86), .ref (g_a g 87), .ref (g_a g 88), .int (m.1 83 6), .int (m.1 83 7), .ref (g_a g 89), .ref (g_a g 90), .ref (g_a g 91), .ref (g_a g 92), .ref (g_a g 93), .ref (g_a g 94), .int (m.1 83 14), .int (m.1 83 15), .int (m.1 83 16), .int (m.1 83 17), .int (m.1 83 18), .ref (g_a g 95), .ref (g_a g 96), .ref (g_a g 97), .ref (g_a g 98), .ref (g_a g 99), .ref (g_a g 100), .ref (g_a g 101), .int (m.1 83 26), .int (m.1 83 27), .int (m.1 83 28), (if m.2.2 = 0 then .null else .ref (g_a g m.2.2)), .int (m.1 83 30), .int (m.1 83 31), .ref (g_a g 102), .int (m.1 83 33), .ref (g_a g 103)]) := rfl
theorem sm_i (h : 84 ≤ o ∧ o < 103) (h9 : ¬ o = 94) : shW g (xx, m, oo) o = .inl (g_c g 0, shN o, .inl (m.1 o)) := by
  obtain ⟨h1, h2⟩ := h
  unfold shW shM
  rw [if_neg (by omega), if_pos (by omega), if_neg (by omega), if_neg h9, if_neg (by omega)]
theorem sm_94 : shW g (xx, m, oo) 94 = .inl (g_c g 1, 800, .inr (.inl (m.2.1 94))) := rfl
theorem sm_103 : shW g (xx, m, oo) 103 = .inl (g_c g 1, 100, .inr (.inl (m.2.1 103))) := rfl
theorem x_up_ne {α : Type} {w : Nat → Nat → α} {k j a : Nat} {v : α} (h : ¬ a = k) : x_up w k j v a = w a := by
  funext b
  simp [x_up, h]
theorem x_up_eq {α : Type} {w : Nat → Nat → α} {k j : Nat} {v : α} : x_up w k j v k = fun b => if b = j then v else w k b := by
  funext b
  simp [x_up]
theorem oth_x {k j : Nat} {v : Int32} : ∀ a, a ≠ k → shW g (x_up x k j v, z) a = shW g (x, z) a := by
  intro a h
  unfold shW
  dsimp only
  rw [show x_up x k j v a = x a from x_up_ne h]
theorem oth_m {k j : Nat} {v : Int32} : ∀ a, a ≠ k → shW g (xx, (x_up m.1 k j v, m.2), oo) a = shW g (xx, m, oo) a := by
  intro a h
  unfold shW
  dsimp only
  rw [show x_up m.1 k j v a = m.1 a from x_up_ne h]
theorem oth_l {k j : Nat} {v : Int64} : ∀ a, a ≠ k → shW g (xx, (m.1, x_up m.2.1 k j v, m.2.2), oo) a = shW g (xx, m, oo) a := by
  intro a h
  unfold shW
  dsimp only
  rw [show x_up m.2.1 k j v a = m.2.1 a from x_up_ne h]
theorem oth_q {v : Nat} : ∀ a, a ≠ 83 → shW g (xx, (m.1, m.2.1, v), oo) a = shW g (xx, m, oo) a := by
  intro a h
  unfold shW shM
  by_cases h1 : a < 83
  · rw [if_pos h1, if_pos h1]
  · rw [if_neg h1, if_neg h1]
    by_cases h2 : a < 104
    · rw [if_pos h2, if_pos h2, if_neg h, if_neg h]
    · rw [if_neg h2, if_neg h2]
theorem upd_x {α : Type} {w : Nat → Nat → α} {k j : Nat} {v : α} : (fun b => if b = j then v else w k b) = x_up w k j v k := x_up_eq.symm
end SH
def ft (T : u_T) (k : Nat) : FieldType := (parseFieldDescriptor (T k).2.2.1).getD .int
theorem in_St : ∀ q ∈ u_ws n_St T_St 5, q ∈ TW := by decide +kernel
theorem in_La : ∀ q ∈ u_ws n_La T_La 5, q ∈ TW := by decide +kernel
theorem in_Sh : ∀ q ∈ u_ws n_Sh T_Sh 6, q ∈ TW := by decide +kernel
theorem in_Hb : ∀ q ∈ u_ws n_Hb T_Hb 7, q ∈ TW := by decide +kernel
theorem in_Mo : ∀ q ∈ u_ws n_Mo T_Mo 35, q ∈ TW := by decide +kernel
theorem tk_St : ∀ k, k < 5 → parseFieldDescriptor (T_St k).2.2.1 = some (ft T_St k) := by decide +kernel
theorem tk_La : ∀ k, k < 5 → parseFieldDescriptor (T_La k).2.2.1 = some (ft T_La k) := by decide +kernel
theorem tk_Sh : ∀ k, k < 6 → parseFieldDescriptor (T_Sh k).2.2.1 = some (ft T_Sh k) := by decide +kernel
theorem tk_Hb : ∀ k, k < 7 → parseFieldDescriptor (T_Hb k).2.2.1 = some (ft T_Hb k) := by decide +kernel
theorem tk_Mo : ∀ k, k < 35 → parseFieldDescriptor (T_Mo k).2.2.1 = some (ft T_Mo k) := by decide +kernel
theorem nm_St : ∀ a, a < 5 → ∀ b, b < 5 → a ≠ b → (T_St a).2.1 ≠ (T_St b).2.1 := by decide +kernel
theorem nm_La : ∀ a, a < 5 → ∀ b, b < 5 → a ≠ b → (T_La a).2.1 ≠ (T_La b).2.1 := by decide +kernel
theorem nm_Sh : ∀ a, a < 6 → ∀ b, b < 6 → a ≠ b → (T_Sh a).2.1 ≠ (T_Sh b).2.1 := by decide +kernel
theorem nm_Hb : ∀ a, a < 7 → ∀ b, b < 7 → a ≠ b → (T_Hb a).2.1 ≠ (T_Hb b).2.1 := by decide +kernel
theorem nm_Mo : ∀ a, a < 35 → ∀ b, b < 35 → a ≠ b → (T_Mo a).2.1 ≠ (T_Mo b).2.1 := by decide +kernel
theorem pn_In : plainName n_In = true := by decide +kernel
theorem pn_Ho : plainName n_Ho = true := by decide +kernel
theorem pn_Co : plainName n_Co = true := by decide +kernel
theorem pn_Bl : plainName n_Bl = true := by decide +kernel
theorem pn_Tw : plainName n_Tw = true := by decide +kernel
theorem pn_Dr : plainName n_Dr = true := by decide +kernel
theorem pn_Fo : plainName n_Fo = true := by decide +kernel
theorem pn_Ma : plainName n_Ma = true := by decide +kernel
theorem pn_Ge : plainName n_Ge = true := by decide +kernel
theorem pn_St : plainName n_St = true := by decide +kernel
theorem pn_La : plainName n_La = true := by decide +kernel
theorem pn_Sh : plainName n_Sh = true := by decide +kernel
theorem pn_Hb : plainName n_Hb = true := by decide +kernel
theorem pn_Mo : plainName n_Mo = true := by decide +kernel
theorem cx_g {g : GC} {X : MX} {cc : ByteArray} {nL : Nat} {own : String} {lvl : Nat} (C : Cx g X cc nL own lvl) : gOk g := by
  obtain ⟨p, l, e, R, s, m, args, below, meth, c, Q, cells, slots⟩ := X
  exact C.2.2.2.2.2.2.1
theorem ko_cls {o : Nat} (h : 2 ≤ o ∧ o < 10) : ∃ Cn, vcls[o - 2]? = some (Cn, T_0, 0) := by
  have h3 : o = 2 ∨ o = 3 ∨ o = 4 ∨ o = 5 ∨ o = 6 ∨ o = 7 ∨ o = 8 ∨ o = 9 := by omega
  rcases h3 with rfl | rfl | rfl | rfl | rfl | rfl | rfl | rfl <;> exact ⟨_, rfl⟩
section BR
variable {g : GC} {X : MX} {cc : ByteArray} {nL : Nat} {own : String} {lvl : Nat} {pc : Nat} {loc lv' : List (Nat × Value)} {rest : List Value} {w : WD} {x xx : XD} {z : ZD} {m m1 : MD} {oo : Nat → Int64} {o n : Nat} {i : Int32}
theorem k_inc (C : Cx g X cc nL own lvl) {k : Nat} {n : Int} {v x1 : Int32} (hd : decode cc pc = .ok (.iinc k n, 3)) (i : Nat) (hi : loc[i]? = some (k, .int x1)) (hv : Int32.ofInt n = v) (hn : Nat.ble (k + 1) nL = true) (hl' : (k, Value.int (x1 + v)) :: loc.filter (fun q => !(q.1 == k) && !(q.1 + 1 == k && q.2.category == 2)) = lv') (h : Wk g X nL (pc + 3) lv' rest w) : Wk g X nL pc loc rest w := k_iinc C (x1 + v) hd i hi (by rw [hv]) hn hl' h
theorem k_nmI {e v : Int32} (q : v = e) (h : Wk g X nL pc loc (.int v :: rest) w) : Wk g X nL pc loc (.int e :: rest) w := q ▸ h
theorem k_nmJ {e v : Int64} (q : v = e) (h : Wk g X nL pc loc (.long v :: rest) w) : Wk g X nL pc loc (.long e :: rest) w := q ▸ h
theorem k_iushr (C : Cx g X cc nL own lvl) {x1 y : Int32} (hd : decode cc pc = .ok (.iushr, 1)) (h : Wk g X nL (pc + 1) loc (.int (x1.toUInt32 >>> (y.toUInt32 &&& Int32.toUInt32 31)).toInt32 :: rest) w) : Wk g X nL pc loc (.int y :: .int x1 :: rest) w := by
  obtain ⟨p, l, e, R, s, m, args, below, meth, c, Q, cells, slots⟩ := X
  obtain ⟨hx, hb, hml, hown, hts, hK, hg, hbs, hfr, hlo, hnw⟩ := C
  exact fun H locs ls hP hS hl => lv_iushr hx hb hd rfl (h H locs ls hP hS hl)
theorem k_aald_St (C : Cx g X cc nL own lvl) (ho : 10 ≤ o ∧ o < 16) (hi : vp_in i 7) (hd : decode cc pc = .ok (.aaload, 1)) (h : Wk g X nL (pc + 1) loc (.ref (g_a g (sid o i)) :: rest) (x, z)) : Wk g X nL pc loc (.int i :: .ref (g_a g (o + 6)) :: rest) (x, z) := k_aald C (f := fun i => g_a g (22 + 7 * (o + 6 - 16) + i)) 3 rfl (by omega) (sh_sa ho) hi hd (by rw [show 22 + 7 * (o + 6 - 16) + i.toNatClampNeg = sid o i from by unfold sid; omega]; exact h)
theorem k_aald_kd (C : Cx g X cc nL own lvl) (hi : vp_in i 8) (hd : decode cc pc = .ok (.aaload, 1)) (h : Wk g X nL (pc + 1) loc (.ref (g_a g (2 + i.toNatClampNeg)) :: rest) (x, z)) : Wk g X nL pc loc (.int i :: .ref (g_a g 1) :: rest) (x, z) := k_aald C (f := fun i => g_a g (2 + i)) 2 rfl (by decide) sh_ka hi hd h
theorem k_aald_La (C : Cx g X cc nL own lvl) (hi : vp_in i 4) (hd : decode cc pc = .ok (.aaload, 1)) (h : Wk g X nL (pc + 1) loc (.ref (g_a g (lid i)) :: rest) (x, z)) : Wk g X nL pc loc (.int i :: .ref (g_a g 65) :: rest) (x, z) := k_aald C (f := fun i => g_a g (12 + i)) 4 rfl (by decide) sh_mi hi hd h
theorem k_aald_L0 (C : Cx g X cc nL own lvl) (hd : decode cc pc = .ok (.aaload, 1)) (h : Wk g X nL (pc + 1) loc (.ref (g_a g 12) :: rest) (x, z)) : Wk g X nL pc loc (.int 0 :: .ref (g_a g 65) :: rest) (x, z) := k_aald C (f := fun i => g_a g (12 + i)) 4 rfl (by decide) sh_mi (by unfold vp_in; decide) hd h
theorem k_aald_Sh (C : Cx g X cc nL own lvl) (hi : vp_in i 8) (hd : decode cc pc = .ok (.aaload, 1)) (h : Wk g X nL (pc + 1) loc (.ref (g_a g (hid i)) :: rest) (x, z)) : Wk g X nL pc loc (.int i :: .ref (g_a g 66) :: rest) (x, z) := k_aald C (f := fun i => g_a g (67 + i)) 5 rfl (by decide) sh_sv hi hd h
theorem k_ialdE (C : Cx g X cc nL own lvl) (ho : 67 ≤ o ∧ o < 75) (hi : vp_in i 100) (hd : decode cc pc = .ok (.iaload, 1)) (h : Wk g X nL (pc + 1) loc (.int (x (o + 8) i.toNatClampNeg) :: rest) (x, z)) : Wk g X nL pc loc (.int i :: .ref (g_a g (o + 8)) :: rest) (x, z) := k_iald C (by omega) (sh_el ho) hi hd h
theorem k_iastE (C : Cx g X cc nL own lvl) {v : Int32} {x1 : XD} (ho : 67 ≤ o ∧ o < 75) (hi : vp_in i 100) (e : x1 = x_up x (o + 8) i.toNatClampNeg v) (hd : decode cc pc = .ok (.iastore, 1)) (h : Wk g X nL (pc + 1) loc rest (x1, z)) : Wk g X nL pc loc (.int v :: .int i :: .ref (g_a g (o + 8)) :: rest) (x, z) := by
  subst e
  refine k_iast C (by omega) (sh_el ho) hi ?_ oth_x hd h
  rw [sh_el ho, x_up_eq]
  rfl
theorem k_ialdM (C : Cx g X cc nL own lvl) (ho : 84 ≤ o ∧ o < 103) (h9 : ¬ o = 94) (hi : vp_in i (shN o)) (hd : decode cc pc = .ok (.iaload, 1)) (h : Wk g X nL (pc + 1) loc (.int (m.1 o i.toNatClampNeg) :: rest) (xx, m, oo)) : Wk g X nL pc loc (.int i :: .ref (g_a g o) :: rest) (xx, m, oo) := k_iald C (by omega) (sm_i ho h9) hi hd h
theorem k_iastM (C : Cx g X cc nL own lvl) {v : Int32} (ho : 84 ≤ o ∧ o < 103) (h9 : ¬ o = 94) (hi : vp_in i (shN o)) (e : m1 = (x_up m.1 o i.toNatClampNeg v, m.2)) (hd : decode cc pc = .ok (.iastore, 1)) (h : Wk g X nL (pc + 1) loc rest (xx, m1, oo)) : Wk g X nL pc loc (.int v :: .int i :: .ref (g_a g o) :: rest) (xx, m, oo) := by
  subst e
  refine k_iast C (by omega) (sm_i ho h9) hi ?_ oth_m hd h
  rw [sm_i ho h9]
  dsimp only
  rw [x_up_eq]
  rfl
theorem k_lald94 (C : Cx g X cc nL own lvl) (hi : vp_in i 800) (hd : decode cc pc = .ok (.laload, 1)) (h : Wk g X nL (pc + 1) loc (.long (m.2.1 94 i.toNatClampNeg) :: rest) (xx, m, oo)) : Wk g X nL pc loc (.int i :: .ref (g_a g 94) :: rest) (xx, m, oo) := k_lald C (by decide) sm_94 hi hd h
theorem k_lald103 (C : Cx g X cc nL own lvl) (hi : vp_in i 100) (hd : decode cc pc = .ok (.laload, 1)) (h : Wk g X nL (pc + 1) loc (.long (m.2.1 103 i.toNatClampNeg) :: rest) (xx, m, oo)) : Wk g X nL pc loc (.int i :: .ref (g_a g 103) :: rest) (xx, m, oo) := k_lald C (by decide) sm_103 hi hd h
theorem k_last94 (C : Cx g X cc nL own lvl) {v : Int64} (hi : vp_in i 800) (e : m1 = (m.1, x_up m.2.1 94 i.toNatClampNeg v, m.2.2)) (hd : decode cc pc = .ok (.lastore, 1)) (h : Wk g X nL (pc + 1) loc rest (xx, m1, oo)) : Wk g X nL pc loc (.long v :: .int i :: .ref (g_a g 94) :: rest) (xx, m, oo) := by
  subst e
  refine k_last C (by decide) sm_94 hi ?_ oth_l hd h
  rw [sm_94]
  dsimp only
  rw [x_up_eq]
  rfl
theorem k_last103 (C : Cx g X cc nL own lvl) {v : Int64} (hi : vp_in i 100) (e : m1 = (m.1, x_up m.2.1 103 i.toNatClampNeg v, m.2.2)) (hd : decode cc pc = .ok (.lastore, 1)) (h : Wk g X nL (pc + 1) loc rest (xx, m1, oo)) : Wk g X nL pc loc (.long v :: .int i :: .ref (g_a g 103) :: rest) (xx, m, oo) := by
  subst e
  refine k_last C (by decide) sm_103 hi ?_ oth_l hd h
  rw [sm_103]
  dsimp only
  rw [x_up_eq]
  rfl
/-- System.arraycopy between two shelves' rows -/
def x_cp (x : XD) (a b : Nat) (sp dp n : Nat) : XD := fun k => if k = b then va_cpy (x a) (x b) sp dp n else x k
def gC {α : Type} (i j n : Int32) (v : Option α) : Option α := if i < 0 ∨ j < 0 ∨ n < 0 ∨ 100 < i.toNatClampNeg + n.toNatClampNeg ∨ 100 < j.toNatClampNeg + n.toNatClampNeg then none else v
theorem gC_some {α : Type} {i j n : Int32} {v : Option α} {r : α} (h : gC i j n v = some r) : (¬ i < 0 ∧ ¬ j < 0 ∧ ¬ n < 0 ∧ i.toNatClampNeg + n.toNatClampNeg ≤ 100 ∧ j.toNatClampNeg + n.toNatClampNeg ≤ 100) ∧ v = some r := by
  unfold gC at h
  by_cases c : i < 0 ∨ j < 0 ∨ n < 0 ∨ 100 < i.toNatClampNeg + n.toNatClampNeg ∨ 100 < j.toNatClampNeg + n.toNatClampNeg
  · rw [if_pos c] at h; cases h
  · rw [if_neg c] at h
    simp only [not_or, Nat.not_lt] at c
    exact ⟨c, h⟩
theorem k_acopy (C : Cx g X cc nL own lvl) {idx a b : Nat} {sp dp n : Int32} {x1 : XD} (hlink : Cond.methodLink own idx arraycopyName ∈ TW) (hnat : Cond.native arraycopyName ∈ TW) (hstat : Cond.static arraycopyName ∈ TW) (hini : Cond.initialized "java/lang/System" ∈ TW) (ha : 67 ≤ a ∧ a < 75) (hb2 : 67 ≤ b ∧ b < 75) (hq : ¬ sp < 0 ∧ ¬ dp < 0 ∧ ¬ n < 0 ∧ sp.toNatClampNeg + n.toNatClampNeg ≤ 100 ∧ dp.toNatClampNeg + n.toNatClampNeg ≤ 100) (hlv : Nat.ble 1 lvl = true) (hcs : Nat.ble (rest.map fun v => v.category).sum 8 = true) (e : x1 = x_cp x (a + 8) (b + 8) sp.toNatClampNeg dp.toNatClampNeg n.toNatClampNeg) (hd : decode cc pc = .ok (.invokestatic idx, 3)) (h : Wk g X nL (pc + 3) loc rest (x1, z)) : Wk g X nL pc loc (.int n :: .int dp :: .ref (g_a g (b + 8)) :: .int sp :: .ref (g_a g (a + 8)) :: rest) (x, z) := by
  subst e
  obtain ⟨p, l, e, R, s, m, args, below, meth, c, Q, cells, slots⟩ := X
  obtain ⟨hx, hb, hml, hown, hts, hK, hg, hbs, hfr, hlo, hnw⟩ := C
  obtain ⟨q1, q2, q3, q4, q5⟩ := hq
  have h1 := Nat.le_of_ble_eq_true hlv
  have h2 := Nat.le_of_ble_eq_true hcs
  have h3 : nativeFrameWords "java/lang/System" "arraycopy" 5 ≤ 16 := by decide +kernel
  refine fun H locs ls hP hS hl => va_copyi hx hb (hml.trans hl.1.symm) hown (hts _ hlink) (hts _ hnat) (hts _ hstat) (hts _ hini) hK hP (hg.d _) hS (a + 8) (b + 8) 0 0 (ty := .int) (f := x (a + 8)) (g := x (b + 8)) (by rw [wl_at (by omega), sh_el ha]) (by rw [wl_at (by omega), sh_el hb2]) rfl rfl rfl q1 q2 q3 q4 q5 (fun _ _ => rfl) (Nat.le_trans h1 hfr) (by omega) hd (fun H1 locs1 hP1 hD1 hS1 => ?_)
  rw [wl_set (w' := (x_cp x (a + 8) (b + 8) sp.toNatClampNeg dp.toNatClampNeg n.toNatClampNeg, z)) (by omega) (by rw [sh_el hb2]; simp [x_cp]) (fun j hj => by unfold shW; dsimp only; rw [show x_cp x (a + 8) (b + 8) sp.toNatClampNeg dp.toNatClampNeg n.toNatClampNeg j = x j from by simp [x_cp, hj]])] at hP1
  exact h H1 locs1 ls hP1 hS1 hl
end BR

/-! super.m(..) where the class above inherits m -/
section QI
variable {g : GC} {X : MX} {cc cc2 : ByteArray} {nL nL2 n idx lv2 : Nat} {own owner : String} {lvl : Nat} {pc : Nat} {loc : List (Nat × Value)} {rest st As : List Value} {w w' : WD} {x y : MethodName} {ret2 : Option FieldType}
theorem k_callQi (C : Cx g X cc nL own lvl) {o ci N : Nat} {T : u_T} {fs : List Value} {r : Int32} {Cn : String} (h1 : Cond.methodLink own idx x ∈ TW) (h2 : Cond.sameMethod x.cls owner x.name x.desc ∈ TW) (h3 : Cond.superclass own x.cls ∈ TW) (h4 : Cond.superclass x.cls owner ∈ TW) (h5 : Cond.instanceMethod y ∈ TW) (h6 : Cond.initialized y.cls ∈ TW) (h7 : Cond.code y cc2 nL2 ret2 ∈ TW) (hyx : y = ⟨owner, x.name, x.desc⟩) (hdd : x.name ≠ "<init>" ∧ (parseMethodDescriptor x.desc).map (fun d => d.parameters.length) = some n) (hM : ∀ l, Mi g l y cc2 nL2 ret2 lv2 (.ref (g_a g o) :: As) w r w') (hlv : Nat.ble (lv2 + 1) lvl = true) (hnl : Nat.ble nL2 21 = true) (hcell : X.2.2.2.2.2.2.2.2.2.2.2.1 ≤ X.2.2.2.1.cells ∧ X.2.2.2.2.2.2.2.2.2.2.2.2 ≤ X.2.2.2.1.slots) (ho : o < 105) (he : shW g w o = .inr (ci, fs)) (hc : vcls[ci]? = some (Cn, T, N)) (hst : st = As.reverse ++ .ref (g_a g o) :: rest) (hn : As.length = n) (hcat : Nat.ble (rest.map fun v => v.category).sum 8 = true) (hd : decode cc pc = .ok (.invokespecial idx, 3)) (h : Wk g X nL (pc + 3) loc (.int r :: rest) w') : Wk g X nL pc loc st w := by
  obtain ⟨p, l, e, R, s, m, args, below, meth, c, Q, cells, slots⟩ := X
  obtain ⟨hx, hb, hml, hown, hts, hK, hg, hbs, hfr, hlo, hnw⟩ := C
  subst hst
  have hR := lv_need (lv2 := lv2) (nL2 := nL2) hlv hnl hfr hlo
  have hG : GoodIn TW (.code y cc2 nL2 ret2 :: TW) := tw_gi (ex := []) h7 (by simp)
  refine fun H locs ls hP hS hl => va_calli (rest := rest) (?_ : va_Run p l e R s m args below meth c H locs cells slots 0 0 (F0 m pc ls (As.reverse ++ .ref (g_a g o) :: rest)) rest (va_Qi (fun (r2 : Int32) (_ : Unit) => r2 = r) (fun _ t => Wat g w' t) (AB g) (Value.ref (g_a g o) :: As).toArray) (AB g)) hS (fun _ _ h => h) (fun _ h => h) (fun r1 _ t H1 locs1 ht hvm hw hB hz1 hk1 hS1 => ?_)
  · have hK2 : Back l R p e below s args y 3 8 (PreOf R 0 0 (va_Pc (.ref (g_a g o) :: As) (fun U => Wpr g w U))) (PostOf (va_Qi (fun (r2 : Int32) (_ : Unit) => r2 = r) (fun _ t => Wat g w' t) (AB g)) 0 0 (AB g)) := back_of (bytes := cc2) (maxL := nL2) (ret := ret2) (hM l) wat_blind rfl rfl hR.1 hR.2 (pay_in hts hG) List.mem_cons_self (fun a' U hW => word_at hW (Or.inl (by first | rfl | simp [Cond.onTables, Cond.keeps, Cond.steady])) (hts _ h6))
    obtain ⟨cellB, hcB, hoB, hclB⟩ := va_recv (q := (Cn, T, N)) hK hP hc (q0 := o) (by rw [wl_at ho, he])
    obtain ⟨-, hfc, kB, hkB, -⟩ := hK.1 ci _ hc
    have hce := Option.some.inj (hfc.symm.trans hclB)
    rw [hce] at hkB
    obtain ⟨mk, methM, hnamed, hmethM, hstM, habM⟩ := Cond.instanceMethod_spec (hts _ h5)
    obtain ⟨methM', cM, hmethM', -, -, -, -, -, -, hsigM⟩ := Cond.code_spec hnamed (hts _ h7)
    cases hmethM.symm.trans hmethM'
    obtain ⟨ps, dk, kp, hps, hdk, hkp, hsuper, -, -, hnid⟩ := Cond.superclass_spec hown (hts _ h3)
    obtain ⟨po, dk2, kp2, hpo, hdk2, hkp2, hsuper2, -, -, -⟩ := Cond.superclass_spec hps (hts _ h4)
    have hpm : po = mk.cls := Option.some.inj (hpo.symm.trans (by rw [hyx] at hnamed; exact findClass_of_methodNamed hnamed))
    have hsz : ps < s.vm.classes.size := (Array.getElem?_eq_some_iff.mp hdk2).1
    have hsub : s.vm.isSubclass ps mk.cls = true := by
      rw [← hpm]
      obtain ⟨k, hk⟩ : ∃ k, s.vm.classes.size = k + 1 := ⟨_, (Nat.succ_pred_eq_of_pos (Nat.lt_of_le_of_lt (Nat.zero_le _) hsz)).symm⟩
      simp only [Vm.isSubclass, Vm.isSubclassAux, hdk2, hsuper2, hk]
      simp
    have hn2 : s.methodNamed? ⟨owner, x.name, x.desc⟩ = some mk := by rw [← hyx]; exact hnamed
    have hsl : ∀ sig, parseMethodDescriptor y.desc = some sig → As.length = sig.parameters.length := by
      intro sig hsig
      have h9 := hdd.2
      rw [hyx] at hsig
      dsimp only at hsig
      rw [hsig] at h9
      exact hn.trans (Option.some.inj h9).symm
    intro T hT X
    obtain ⟨vm₁, X₁, hstep₁⟩ := X.invokespecialUp hx hown (hts _ h1) (hts _ h2) hn2 hmethM hstM habM hdd.1 hdk hnid hps hsuper hsub (a := g_a g o) (cell := cellB) (by rw [hT]; exact hcB)
      (fun z h => by rw [h] at hoB; cases hoB) hkB (g := F0 m pc ls (As.reverse ++ .ref (g_a g o) :: rest)) rfl (argsL := As) (rest := rest) (hsl _ hsigM) rfl (by rw [hb]; exact hd)
    obtain ⟨v, ⟨U', l2, c2, s2⟩, X', ⟨g', mk2, t, L, e1, e2, hq, q1, hL, q2, q3⟩, hsteps⟩ := hK2 m meth c ⟨T.setVm vm₁, locs, cells, slots⟩ { (F0 m pc ls (As.reverse ++ .ref (g_a g o) :: rest)) with stack := rest } (.invokespecial idx) mk (Value.ref (g_a g o) :: As).toArray X₁ rfl (hl.1.trans hml.symm) (by rw [hb]; exact hd) (lv_room (pc := pc) (ls := ls) (rest := rest) (Nat.le_of_ble_eq_true hcat)) (X₁.named hnamed) ⟨hcell.1, hcell.2, rfl, ⟨by show va_P g.1 vcls (wl g w) T.heap; rw [hT]; exact hP, va_K.moved (U := T.setVm vm₁) X₁.warmed.alike hK, by show g_b g ≤ T.heap.size; rw [hT]; exact Nat.le_trans hbs hS.1⟩, hnw.warm X₁.warmed⟩
    dsimp only [Pt.U, Pt.locs, Pt.cells, Pt.slots] at X' e1 e2 q1 q2 q3 hsteps
    subst q1; subst q2; subst q3
    exact ⟨v, (T.setVm vm₁).calling g' mk2 (Value.ref (g_a g o) :: As).toArray, t, U', L, hT, X', hL, e1, e2, hq, fun target h => hstep₁ _ (by rw [doInvoke_state]; exact hsteps.trans h)⟩
  · cases hw
    obtain ⟨hB1, -, -⟩ := hB
    rw [ht] at hB1
    exact h H1 locs1 ls hB1 hS1 hl
end QI

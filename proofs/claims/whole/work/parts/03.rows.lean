/-! MINI-ROWS: an instruction each, over Wk. -/
def x_rem (x y : Int32) : Int32 := x - x / y * y
def l_rem (x y : Int64) : Int64 := x - x / y * y
def x_abs (x : Int32) : Int32 := if 0 ≤ x then x else 0 - x
def x_min (x y : Int32) : Int32 := if y < x then y else x
def x_max (x y : Int32) : Int32 := if x < y then y else x
/-- guards of the pure functions: an index within, a 0 or 1, not 0 -/
def gI {α : Type} (i : Int32) (n : Nat) (v : Option α) : Option α := if i < 0 ∨ n ≤ i.toNatClampNeg then none else v
def gB {α : Type} (i : Int32) (v : Option α) : Option α := if i = 0 ∨ i = 1 then v else none
theorem gI_some {α : Type} {i : Int32} {n : Nat} {v : Option α} {r : α} (h : gI i n v = some r) : vp_in i n ∧ v = some r := by
  unfold gI at h
  by_cases c : i < 0 ∨ n ≤ i.toNatClampNeg
  · rw [if_pos c] at h; cases h
  · rw [if_neg c] at h; exact ⟨c, h⟩
theorem gB_some {α : Type} {i : Int32} {v : Option α} {r : α} (h : gB i v = some r) : (i = 0 ∨ i = 1) ∧ v = some r := by
  unfold gB at h
  by_cases c : i = 0 ∨ i = 1
  · rw [if_pos c] at h; exact ⟨c, h⟩
  · rw [if_neg c] at h; cases h
theorem bd_some {α β : Type} {v : Option α} {k : α → Option β} {r : β} (h : v.bind k = some r) : ∃ a, v = some a ∧ k a = some r := by
  cases v with
  | none => cases h
  | some a => exact ⟨a, rfl, h⟩
theorem vin_lt {i : Int32} {n : Nat} (h : vp_in i n) : i.toNatClampNeg < n := Nat.not_le.mp fun q => h (Or.inr q)
section MR
variable {g : GC} {X : MX} {cc : ByteArray} {nL : Nat} {own : String} {lvl : Nat} {pc : Nat} {loc lv' : List (Nat × Value)} {rest : List Value} {w : WD}

theorem k_iload_n (C : Cx g X cc nL own lvl) {k : Fin 4} {x : Int32} (hd : decode cc pc = .ok (.iload_n k, 1)) (i : Nat) (hi : loc[i]? = some ((k : Nat), .int x)) (h : Wk g X nL (pc + 1) loc (.int x :: rest) w) : Wk g X nL pc loc (rest) w := by
  obtain ⟨p, l, e, R, s, m, args, below, meth, c, Q, cells, slots⟩ := X
  obtain ⟨hx, hb, hml, hown, hts, hK, hg, hbs, hfr, hlo, hnw⟩ := C
  exact fun H locs ls hP hS hl => lv_iload_n hx hb hd rfl (lv_at hl i hi) (h H locs ls hP hS hl)

theorem k_iload (C : Cx g X cc nL own lvl) {k : Nat} {x : Int32} (hd : decode cc pc = .ok (.iload k, 2)) (i : Nat) (hi : loc[i]? = some (k, .int x)) (h : Wk g X nL (pc + 2) loc (.int x :: rest) w) : Wk g X nL pc loc (rest) w := by
  obtain ⟨p, l, e, R, s, m, args, below, meth, c, Q, cells, slots⟩ := X
  obtain ⟨hx, hb, hml, hown, hts, hK, hg, hbs, hfr, hlo, hnw⟩ := C
  exact fun H locs ls hP hS hl => lv_iload hx hb hd (lv_at hl i hi) (h H locs ls hP hS hl)

theorem k_istore_n (C : Cx g X cc nL own lvl) {k : Fin 4} {x : Int32} (hd : decode cc pc = .ok (.istore_n k, 1)) (hn : Nat.ble ((k : Nat) + 1) nL = true) (hl' : ((k : Nat), Value.int x) :: loc.filter (fun q => !(q.1 == (k : Nat)) && !(q.1 + 1 == (k : Nat) && q.2.category == 2)) = lv') (h : Wk g X nL (pc + 1) lv' rest w) : Wk g X nL pc loc (.int x :: rest) w := by
  obtain ⟨p, l, e, R, s, m, args, below, meth, c, Q, cells, slots⟩ := X
  obtain ⟨hx, hb, hml, hown, hts, hK, hg, hbs, hfr, hlo, hnw⟩ := C
  exact fun H locs ls hP hS hl => lv_istore_n hx hb hd rfl hl (Nat.le_of_ble_eq_true hn) hl' (fun ls' hl2 => h H locs ls' hP hS hl2)

theorem k_istore (C : Cx g X cc nL own lvl) {k : Nat} {x : Int32} (hd : decode cc pc = .ok (.istore k, 2)) (hn : Nat.ble (k + 1) nL = true) (hl' : (k, Value.int x) :: loc.filter (fun q => !(q.1 == k) && !(q.1 + 1 == k && q.2.category == 2)) = lv') (h : Wk g X nL (pc + 2) lv' rest w) : Wk g X nL pc loc (.int x :: rest) w := by
  obtain ⟨p, l, e, R, s, m, args, below, meth, c, Q, cells, slots⟩ := X
  obtain ⟨hx, hb, hml, hown, hts, hK, hg, hbs, hfr, hlo, hnw⟩ := C
  exact fun H locs ls hP hS hl => lv_istore hx hb hd hl (Nat.le_of_ble_eq_true hn) hl' (fun ls' hl2 => h H locs ls' hP hS hl2)

theorem k_aload_n (C : Cx g X cc nL own lvl) {k : Fin 4} {x : Nat} (hd : decode cc pc = .ok (.aload_n k, 1)) (i : Nat) (hi : loc[i]? = some ((k : Nat), .ref x)) (h : Wk g X nL (pc + 1) loc (.ref x :: rest) w) : Wk g X nL pc loc (rest) w := by
  obtain ⟨p, l, e, R, s, m, args, below, meth, c, Q, cells, slots⟩ := X
  obtain ⟨hx, hb, hml, hown, hts, hK, hg, hbs, hfr, hlo, hnw⟩ := C
  exact fun H locs ls hP hS hl => lv_aload_n hx hb hd rfl (lv_at hl i hi) (h H locs ls hP hS hl)

theorem k_aload (C : Cx g X cc nL own lvl) {k : Nat} {x : Nat} (hd : decode cc pc = .ok (.aload k, 2)) (i : Nat) (hi : loc[i]? = some (k, .ref x)) (h : Wk g X nL (pc + 2) loc (.ref x :: rest) w) : Wk g X nL pc loc (rest) w := by
  obtain ⟨p, l, e, R, s, m, args, below, meth, c, Q, cells, slots⟩ := X
  obtain ⟨hx, hb, hml, hown, hts, hK, hg, hbs, hfr, hlo, hnw⟩ := C
  exact fun H locs ls hP hS hl => lv_aload hx hb hd (lv_at hl i hi) (h H locs ls hP hS hl)

theorem k_astore_n (C : Cx g X cc nL own lvl) {k : Fin 4} {x : Nat} (hd : decode cc pc = .ok (.astore_n k, 1)) (hn : Nat.ble ((k : Nat) + 1) nL = true) (hl' : ((k : Nat), Value.ref x) :: loc.filter (fun q => !(q.1 == (k : Nat)) && !(q.1 + 1 == (k : Nat) && q.2.category == 2)) = lv') (h : Wk g X nL (pc + 1) lv' rest w) : Wk g X nL pc loc (.ref x :: rest) w := by
  obtain ⟨p, l, e, R, s, m, args, below, meth, c, Q, cells, slots⟩ := X
  obtain ⟨hx, hb, hml, hown, hts, hK, hg, hbs, hfr, hlo, hnw⟩ := C
  exact fun H locs ls hP hS hl => lv_astore_n hx hb hd rfl hl (Nat.le_of_ble_eq_true hn) hl' (fun ls' hl2 => h H locs ls' hP hS hl2)

theorem k_astore (C : Cx g X cc nL own lvl) {k : Nat} {x : Nat} (hd : decode cc pc = .ok (.astore k, 2)) (hn : Nat.ble (k + 1) nL = true) (hl' : (k, Value.ref x) :: loc.filter (fun q => !(q.1 == k) && !(q.1 + 1 == k && q.2.category == 2)) = lv') (h : Wk g X nL (pc + 2) lv' rest w) : Wk g X nL pc loc (.ref x :: rest) w := by
  obtain ⟨p, l, e, R, s, m, args, below, meth, c, Q, cells, slots⟩ := X
  obtain ⟨hx, hb, hml, hown, hts, hK, hg, hbs, hfr, hlo, hnw⟩ := C
  exact fun H locs ls hP hS hl => lv_astore hx hb hd hl (Nat.le_of_ble_eq_true hn) hl' (fun ls' hl2 => h H locs ls' hP hS hl2)

theorem k_lload_n (C : Cx g X cc nL own lvl) {k : Fin 4} {x : Int64} (hd : decode cc pc = .ok (.lload_n k, 1)) (i : Nat) (hi : loc[i]? = some ((k : Nat), .long x)) (h : Wk g X nL (pc + 1) loc (.long x :: rest) w) : Wk g X nL pc loc (rest) w := by
  obtain ⟨p, l, e, R, s, m, args, below, meth, c, Q, cells, slots⟩ := X
  obtain ⟨hx, hb, hml, hown, hts, hK, hg, hbs, hfr, hlo, hnw⟩ := C
  exact fun H locs ls hP hS hl => lv_lload_n hx hb hd rfl (lv_at hl i hi) (h H locs ls hP hS hl)

theorem k_lload (C : Cx g X cc nL own lvl) {k : Nat} {x : Int64} (hd : decode cc pc = .ok (.lload k, 2)) (i : Nat) (hi : loc[i]? = some (k, .long x)) (h : Wk g X nL (pc + 2) loc (.long x :: rest) w) : Wk g X nL pc loc (rest) w := by
  obtain ⟨p, l, e, R, s, m, args, below, meth, c, Q, cells, slots⟩ := X
  obtain ⟨hx, hb, hml, hown, hts, hK, hg, hbs, hfr, hlo, hnw⟩ := C
  exact fun H locs ls hP hS hl => lv_lload hx hb hd (lv_at hl i hi) (h H locs ls hP hS hl)

theorem k_lstore_n (C : Cx g X cc nL own lvl) {k : Fin 4} {x : Int64} (hd : decode cc pc = .ok (.lstore_n k, 1)) (hn : Nat.ble ((k : Nat) + 2) nL = true) (hl' : ((k : Nat), Value.long x) :: loc.filter (fun q => !(q.1 == (k : Nat)) && (!(q.1 == (k : Nat) + 1) && !(q.1 + 1 == (k : Nat) && q.2.category == 2))) = lv') (h : Wk g X nL (pc + 1) lv' rest w) : Wk g X nL pc loc (.long x :: rest) w := by
  obtain ⟨p, l, e, R, s, m, args, below, meth, c, Q, cells, slots⟩ := X
  obtain ⟨hx, hb, hml, hown, hts, hK, hg, hbs, hfr, hlo, hnw⟩ := C
  exact fun H locs ls hP hS hl => lv_lstore_n hx hb hd rfl hl (Nat.le_of_ble_eq_true hn) hl' (fun ls' hl2 => h H locs ls' hP hS hl2)

theorem k_lstore (C : Cx g X cc nL own lvl) {k : Nat} {x : Int64} (hd : decode cc pc = .ok (.lstore k, 2)) (hn : Nat.ble (k + 2) nL = true) (hl' : (k, Value.long x) :: loc.filter (fun q => !(q.1 == k) && (!(q.1 == k + 1) && !(q.1 + 1 == k && q.2.category == 2))) = lv') (h : Wk g X nL (pc + 2) lv' rest w) : Wk g X nL pc loc (.long x :: rest) w := by
  obtain ⟨p, l, e, R, s, m, args, below, meth, c, Q, cells, slots⟩ := X
  obtain ⟨hx, hb, hml, hown, hts, hK, hg, hbs, hfr, hlo, hnw⟩ := C
  exact fun H locs ls hP hS hl => lv_lstore hx hb hd hl (Nat.le_of_ble_eq_true hn) hl' (fun ls' hl2 => h H locs ls' hP hS hl2)

theorem k_iinc (C : Cx g X cc nL own lvl) {k : Nat} {n : Int} {x : Int32} (v : Int32) (hd : decode cc pc = .ok (.iinc k n, 3)) (i : Nat) (hi : loc[i]? = some (k, .int x)) (hv : x + Int32.ofInt n = v) (hn : Nat.ble (k + 1) nL = true) (hl' : (k, Value.int v) :: loc.filter (fun q => !(q.1 == k) && !(q.1 + 1 == k && q.2.category == 2)) = lv') (h : Wk g X nL (pc + 3) lv' rest w) : Wk g X nL pc loc (rest) w := by
  obtain ⟨p, l, e, R, s, m, args, below, meth, c, Q, cells, slots⟩ := X
  obtain ⟨hx, hb, hml, hown, hts, hK, hg, hbs, hfr, hlo, hnw⟩ := C
  exact fun H locs ls hP hS hl => lv_iinc hx hb hd hl hi hv (Nat.le_of_ble_eq_true hn) hl' (fun ls' hl2 => h H locs ls' hP hS hl2)

theorem k_iconst (C : Cx g X cc nL own lvl) {n : Int} (v : Int32) (hd : decode cc pc = .ok (.iconst n, 1)) (hv : Int32.ofInt n = v) (h : Wk g X nL (pc + 1) loc (.int v :: rest) w) : Wk g X nL pc loc (rest) w := by
  obtain ⟨p, l, e, R, s, m, args, below, meth, c, Q, cells, slots⟩ := X
  obtain ⟨hx, hb, hml, hown, hts, hK, hg, hbs, hfr, hlo, hnw⟩ := C
  exact fun H locs ls hP hS hl => lv_iconst hx hb hd hv (h H locs ls hP hS hl)

theorem k_bipush (C : Cx g X cc nL own lvl) {n : Int} (v : Int32) (hd : decode cc pc = .ok (.bipush n, 2)) (hv : (Int8.ofInt n).toInt32 = v) (h : Wk g X nL (pc + 2) loc (.int v :: rest) w) : Wk g X nL pc loc (rest) w := by
  obtain ⟨p, l, e, R, s, m, args, below, meth, c, Q, cells, slots⟩ := X
  obtain ⟨hx, hb, hml, hown, hts, hK, hg, hbs, hfr, hlo, hnw⟩ := C
  exact fun H locs ls hP hS hl => lv_bipush hx hb hd hv (h H locs ls hP hS hl)

theorem k_sipush (C : Cx g X cc nL own lvl) {n : Int} (v : Int32) (hd : decode cc pc = .ok (.sipush n, 3)) (hv : (Int16.ofInt n).toInt32 = v) (h : Wk g X nL (pc + 3) loc (.int v :: rest) w) : Wk g X nL pc loc (rest) w := by
  obtain ⟨p, l, e, R, s, m, args, below, meth, c, Q, cells, slots⟩ := X
  obtain ⟨hx, hb, hml, hown, hts, hK, hg, hbs, hfr, hlo, hnw⟩ := C
  exact fun H locs ls hP hS hl => lv_sipush hx hb hd hv (h H locs ls hP hS hl)

theorem k_lconst (C : Cx g X cc nL own lvl) {n : Fin 2} (v : Int64) (hd : decode cc pc = .ok (.lconst n, 1)) (hv : Int64.ofNat (n : Nat) = v) (h : Wk g X nL (pc + 1) loc (.long v :: rest) w) : Wk g X nL pc loc (rest) w := by
  obtain ⟨p, l, e, R, s, m, args, below, meth, c, Q, cells, slots⟩ := X
  obtain ⟨hx, hb, hml, hown, hts, hK, hg, hbs, hfr, hlo, hnw⟩ := C
  exact fun H locs ls hP hS hl => lv_lconst hx hb hd hv (h H locs ls hP hS hl)

theorem k_ldc (C : Cx g X cc nL own lvl) {idx : Nat} (v : Int32) (hw : Cond.constant own idx v ∈ TW) (hd : decode cc pc = .ok (.ldc idx, 2)) (h : Wk g X nL (pc + 2) loc (.int v :: rest) w) : Wk g X nL pc loc (rest) w := by
  obtain ⟨p, l, e, R, s, m, args, below, meth, c, Q, cells, slots⟩ := X
  obtain ⟨hx, hb, hml, hown, hts, hK, hg, hbs, hfr, hlo, hnw⟩ := C
  exact fun H locs ls hP hS hl => lv_ldc hx hb hown (hts _ hw) hd (h H locs ls hP hS hl)

theorem k_ldcw (C : Cx g X cc nL own lvl) {idx : Nat} (v : Int32) (hw : Cond.constant own idx v ∈ TW) (hd : decode cc pc = .ok (.ldc_w idx, 3)) (h : Wk g X nL (pc + 3) loc (.int v :: rest) w) : Wk g X nL pc loc (rest) w := by
  obtain ⟨p, l, e, R, s, m, args, below, meth, c, Q, cells, slots⟩ := X
  obtain ⟨hx, hb, hml, hown, hts, hK, hg, hbs, hfr, hlo, hnw⟩ := C
  exact fun H locs ls hP hS hl => lv_ldcw hx hb hown (hts _ hw) hd (h H locs ls hP hS hl)

theorem k_ldc2 (C : Cx g X cc nL own lvl) {idx : Nat} (v : Int64) (hw : Cond.constantLong own idx v ∈ TW) (hd : decode cc pc = .ok (.ldc2_w idx, 3)) (h : Wk g X nL (pc + 3) loc (.long v :: rest) w) : Wk g X nL pc loc (rest) w := by
  obtain ⟨p, l, e, R, s, m, args, below, meth, c, Q, cells, slots⟩ := X
  obtain ⟨hx, hb, hml, hown, hts, hK, hg, hbs, hfr, hlo, hnw⟩ := C
  exact fun H locs ls hP hS hl => lv_ldc2 hx hb hown (hts _ hw) hd (h H locs ls hP hS hl)

theorem k_iadd (C : Cx g X cc nL own lvl) {x y : Int32} (hd : decode cc pc = .ok (.iadd, 1)) (h : Wk g X nL (pc + 1) loc (.int (x + y) :: rest) w) : Wk g X nL pc loc (.int y :: .int x :: rest) w := by
  obtain ⟨p, l, e, R, s, m, args, below, meth, c, Q, cells, slots⟩ := X
  obtain ⟨hx, hb, hml, hown, hts, hK, hg, hbs, hfr, hlo, hnw⟩ := C
  exact fun H locs ls hP hS hl => lv_iadd hx hb hd (h H locs ls hP hS hl)

theorem k_isub (C : Cx g X cc nL own lvl) {x y : Int32} (hd : decode cc pc = .ok (.isub, 1)) (h : Wk g X nL (pc + 1) loc (.int (x - y) :: rest) w) : Wk g X nL pc loc (.int y :: .int x :: rest) w := by
  obtain ⟨p, l, e, R, s, m, args, below, meth, c, Q, cells, slots⟩ := X
  obtain ⟨hx, hb, hml, hown, hts, hK, hg, hbs, hfr, hlo, hnw⟩ := C
  exact fun H locs ls hP hS hl => lv_isub hx hb hd (h H locs ls hP hS hl)

theorem k_imul (C : Cx g X cc nL own lvl) {x y : Int32} (hd : decode cc pc = .ok (.imul, 1)) (h : Wk g X nL (pc + 1) loc (.int (x * y) :: rest) w) : Wk g X nL pc loc (.int y :: .int x :: rest) w := by
  obtain ⟨p, l, e, R, s, m, args, below, meth, c, Q, cells, slots⟩ := X
  obtain ⟨hx, hb, hml, hown, hts, hK, hg, hbs, hfr, hlo, hnw⟩ := C
  exact fun H locs ls hP hS hl => lv_imul hx hb hd (h H locs ls hP hS hl)

theorem k_iand (C : Cx g X cc nL own lvl) {x y : Int32} (hd : decode cc pc = .ok (.iand, 1)) (h : Wk g X nL (pc + 1) loc (.int (x &&& y) :: rest) w) : Wk g X nL pc loc (.int y :: .int x :: rest) w := by
  obtain ⟨p, l, e, R, s, m, args, below, meth, c, Q, cells, slots⟩ := X
  obtain ⟨hx, hb, hml, hown, hts, hK, hg, hbs, hfr, hlo, hnw⟩ := C
  exact fun H locs ls hP hS hl => lv_iand hx hb hd (h H locs ls hP hS hl)

theorem k_ior (C : Cx g X cc nL own lvl) {x y : Int32} (hd : decode cc pc = .ok (.ior, 1)) (h : Wk g X nL (pc + 1) loc (.int (x ||| y) :: rest) w) : Wk g X nL pc loc (.int y :: .int x :: rest) w := by
  obtain ⟨p, l, e, R, s, m, args, below, meth, c, Q, cells, slots⟩ := X
  obtain ⟨hx, hb, hml, hown, hts, hK, hg, hbs, hfr, hlo, hnw⟩ := C
  exact fun H locs ls hP hS hl => lv_ior hx hb hd (h H locs ls hP hS hl)

theorem k_ishl (C : Cx g X cc nL own lvl) {x y : Int32} (hd : decode cc pc = .ok (.ishl, 1)) (h : Wk g X nL (pc + 1) loc (.int (x <<< (y &&& 31)) :: rest) w) : Wk g X nL pc loc (.int y :: .int x :: rest) w := by
  obtain ⟨p, l, e, R, s, m, args, below, meth, c, Q, cells, slots⟩ := X
  obtain ⟨hx, hb, hml, hown, hts, hK, hg, hbs, hfr, hlo, hnw⟩ := C
  exact fun H locs ls hP hS hl => lv_ishl hx hb hd (h H locs ls hP hS hl)

theorem k_ishr (C : Cx g X cc nL own lvl) {x y : Int32} (hd : decode cc pc = .ok (.ishr, 1)) (h : Wk g X nL (pc + 1) loc (.int (x >>> (y &&& 31)) :: rest) w) : Wk g X nL pc loc (.int y :: .int x :: rest) w := by
  obtain ⟨p, l, e, R, s, m, args, below, meth, c, Q, cells, slots⟩ := X
  obtain ⟨hx, hb, hml, hown, hts, hK, hg, hbs, hfr, hlo, hnw⟩ := C
  exact fun H locs ls hP hS hl => lv_ishr hx hb hd (h H locs ls hP hS hl)

theorem k_idiv (C : Cx g X cc nL own lvl) {x y : Int32} (hne : ¬ y = 0) (hd : decode cc pc = .ok (.idiv, 1)) (h : Wk g X nL (pc + 1) loc (.int (x / y) :: rest) w) : Wk g X nL pc loc (.int y :: .int x :: rest) w := by
  obtain ⟨p, l, e, R, s, m, args, below, meth, c, Q, cells, slots⟩ := X
  obtain ⟨hx, hb, hml, hown, hts, hK, hg, hbs, hfr, hlo, hnw⟩ := C
  exact fun H locs ls hP hS hl => lv_idiv hx hb hd hne (h H locs ls hP hS hl)

theorem k_irem (C : Cx g X cc nL own lvl) {x y : Int32} (hne : ¬ y = 0) (hd : decode cc pc = .ok (.irem, 1)) (h : Wk g X nL (pc + 1) loc (.int (x_rem x y) :: rest) w) : Wk g X nL pc loc (.int y :: .int x :: rest) w := by
  obtain ⟨p, l, e, R, s, m, args, below, meth, c, Q, cells, slots⟩ := X
  obtain ⟨hx, hb, hml, hown, hts, hK, hg, hbs, hfr, hlo, hnw⟩ := C
  exact fun H locs ls hP hS hl => lv_irem hx hb hd hne (h H locs ls hP hS hl)

theorem k_ladd (C : Cx g X cc nL own lvl) {x y : Int64} (hd : decode cc pc = .ok (.ladd, 1)) (h : Wk g X nL (pc + 1) loc (.long (x + y) :: rest) w) : Wk g X nL pc loc (.long y :: .long x :: rest) w := by
  obtain ⟨p, l, e, R, s, m, args, below, meth, c, Q, cells, slots⟩ := X
  obtain ⟨hx, hb, hml, hown, hts, hK, hg, hbs, hfr, hlo, hnw⟩ := C
  exact fun H locs ls hP hS hl => lv_ladd hx hb hd (h H locs ls hP hS hl)

theorem k_lmul (C : Cx g X cc nL own lvl) {x y : Int64} (hd : decode cc pc = .ok (.lmul, 1)) (h : Wk g X nL (pc + 1) loc (.long (x * y) :: rest) w) : Wk g X nL pc loc (.long y :: .long x :: rest) w := by
  obtain ⟨p, l, e, R, s, m, args, below, meth, c, Q, cells, slots⟩ := X
  obtain ⟨hx, hb, hml, hown, hts, hK, hg, hbs, hfr, hlo, hnw⟩ := C
  exact fun H locs ls hP hS hl => lv_lmul hx hb hd (h H locs ls hP hS hl)

theorem k_lsub (C : Cx g X cc nL own lvl) {x y : Int64} (hd : decode cc pc = .ok (.lsub, 1)) (h : Wk g X nL (pc + 1) loc (.long (x - y) :: rest) w) : Wk g X nL pc loc (.long y :: .long x :: rest) w := by
  obtain ⟨p, l, e, R, s, m, args, below, meth, c, Q, cells, slots⟩ := X
  obtain ⟨hx, hb, hml, hown, hts, hK, hg, hbs, hfr, hlo, hnw⟩ := C
  exact fun H locs ls hP hS hl => lv_lsub hx hb hd (h H locs ls hP hS hl)

theorem k_ldiv (C : Cx g X cc nL own lvl) {x y : Int64} (hne : ¬ y = 0) (hd : decode cc pc = .ok (.ldiv, 1)) (h : Wk g X nL (pc + 1) loc (.long (x / y) :: rest) w) : Wk g X nL pc loc (.long y :: .long x :: rest) w := by
  obtain ⟨p, l, e, R, s, m, args, below, meth, c, Q, cells, slots⟩ := X
  obtain ⟨hx, hb, hml, hown, hts, hK, hg, hbs, hfr, hlo, hnw⟩ := C
  exact fun H locs ls hP hS hl => lv_ldiv hx hb hd hne (h H locs ls hP hS hl)

theorem k_lrem (C : Cx g X cc nL own lvl) {x y : Int64} (hne : ¬ y = 0) (hd : decode cc pc = .ok (.lrem, 1)) (h : Wk g X nL (pc + 1) loc (.long (l_rem x y) :: rest) w) : Wk g X nL pc loc (.long y :: .long x :: rest) w := by
  obtain ⟨p, l, e, R, s, m, args, below, meth, c, Q, cells, slots⟩ := X
  obtain ⟨hx, hb, hml, hown, hts, hK, hg, hbs, hfr, hlo, hnw⟩ := C
  exact fun H locs ls hP hS hl => lv_lrem hx hb hd hne (h H locs ls hP hS hl)

theorem k_lcmp (C : Cx g X cc nL own lvl) {x y : Int64} (hd : decode cc pc = .ok (.lcmp, 1)) (h : Wk g X nL (pc + 1) loc (.int (lg_cmp x y) :: rest) w) : Wk g X nL pc loc (.long y :: .long x :: rest) w := by
  obtain ⟨p, l, e, R, s, m, args, below, meth, c, Q, cells, slots⟩ := X
  obtain ⟨hx, hb, hml, hown, hts, hK, hg, hbs, hfr, hlo, hnw⟩ := C
  exact fun H locs ls hP hS hl => W.lcmp hx hb hd (h H locs ls hP hS hl)

theorem k_i2l (C : Cx g X cc nL own lvl) {x : Int32} (hd : decode cc pc = .ok (.i2l, 1)) (h : Wk g X nL (pc + 1) loc (.long x.toInt64 :: rest) w) : Wk g X nL pc loc (.int x :: rest) w := by
  obtain ⟨p, l, e, R, s, m, args, below, meth, c, Q, cells, slots⟩ := X
  obtain ⟨hx, hb, hml, hown, hts, hK, hg, hbs, hfr, hlo, hnw⟩ := C
  exact fun H locs ls hP hS hl => lv_i2l hx hb hd rfl (h H locs ls hP hS hl)

theorem k_l2i (C : Cx g X cc nL own lvl) {x : Int64} (hd : decode cc pc = .ok (.l2i, 1)) (h : Wk g X nL (pc + 1) loc (.int x.toInt32 :: rest) w) : Wk g X nL pc loc (.long x :: rest) w := by
  obtain ⟨p, l, e, R, s, m, args, below, meth, c, Q, cells, slots⟩ := X
  obtain ⟨hx, hb, hml, hown, hts, hK, hg, hbs, hfr, hlo, hnw⟩ := C
  exact fun H locs ls hP hS hl => lv_l2i hx hb hd rfl (h H locs ls hP hS hl)

theorem k_i2b (C : Cx g X cc nL own lvl) {x : Int32} (hd : decode cc pc = .ok (.i2b, 1)) (h : Wk g X nL (pc + 1) loc (.int x.toInt8.toInt32 :: rest) w) : Wk g X nL pc loc (.int x :: rest) w := by
  obtain ⟨p, l, e, R, s, m, args, below, meth, c, Q, cells, slots⟩ := X
  obtain ⟨hx, hb, hml, hown, hts, hK, hg, hbs, hfr, hlo, hnw⟩ := C
  exact fun H locs ls hP hS hl => lv_i2b hx hb hd rfl (h H locs ls hP hS hl)

theorem k_i2s (C : Cx g X cc nL own lvl) {x : Int32} (hd : decode cc pc = .ok (.i2s, 1)) (h : Wk g X nL (pc + 1) loc (.int x.toInt16.toInt32 :: rest) w) : Wk g X nL pc loc (.int x :: rest) w := by
  obtain ⟨p, l, e, R, s, m, args, below, meth, c, Q, cells, slots⟩ := X
  obtain ⟨hx, hb, hml, hown, hts, hK, hg, hbs, hfr, hlo, hnw⟩ := C
  exact fun H locs ls hP hS hl => lv_i2s hx hb hd rfl (h H locs ls hP hS hl)

theorem k_dup (C : Cx g X cc nL own lvl) {v : Value} (hd : decode cc pc = .ok (.dup, 1)) (hv : v.category = 1) (h : Wk g X nL (pc + 1) loc (v :: v :: rest) w) : Wk g X nL pc loc (v :: rest) w := by
  obtain ⟨p, l, e, R, s, m, args, below, meth, c, Q, cells, slots⟩ := X
  obtain ⟨hx, hb, hml, hown, hts, hK, hg, hbs, hfr, hlo, hnw⟩ := C
  exact fun H locs ls hP hS hl => lv_dup hx hb hd hv (h H locs ls hP hS hl)

theorem k_dup2 (C : Cx g X cc nL own lvl) {va vb : Value} (hd : decode cc pc = .ok (.dup2, 1)) (hva : va.category = 1) (hvb : vb.category = 1) (h : Wk g X nL (pc + 1) loc (va :: vb :: va :: vb :: rest) w) : Wk g X nL pc loc (va :: vb :: rest) w := by
  obtain ⟨p, l, e, R, s, m, args, below, meth, c, Q, cells, slots⟩ := X
  obtain ⟨hx, hb, hml, hown, hts, hK, hg, hbs, hfr, hlo, hnw⟩ := C
  exact fun H locs ls hP hS hl => lv_dup2_11 hx hb hd hva hvb (h H locs ls hP hS hl)

theorem k_dup_x1 (C : Cx g X cc nL own lvl) {va vb : Value} (hd : decode cc pc = .ok (.dup_x1, 1)) (hva : va.category = 1) (hvb : vb.category = 1) (h : Wk g X nL (pc + 1) loc (va :: vb :: va :: rest) w) : Wk g X nL pc loc (va :: vb :: rest) w := by
  obtain ⟨p, l, e, R, s, m, args, below, meth, c, Q, cells, slots⟩ := X
  obtain ⟨hx, hb, hml, hown, hts, hK, hg, hbs, hfr, hlo, hnw⟩ := C
  exact fun H locs ls hP hS hl => lv_dup_x1 hx hb hd hva hvb (h H locs ls hP hS hl)

theorem k_pop (C : Cx g X cc nL own lvl) {v : Value} (hd : decode cc pc = .ok (.pop, 1)) (hv : v.category = 1) (h : Wk g X nL (pc + 1) loc rest w) : Wk g X nL pc loc (v :: rest) w := by
  obtain ⟨p, l, e, R, s, m, args, below, meth, c, Q, cells, slots⟩ := X
  obtain ⟨hx, hb, hml, hown, hts, hK, hg, hbs, hfr, hlo, hnw⟩ := C
  exact fun H locs ls hP hS hl => lv_pop hx hb hd hv (h H locs ls hP hS hl)

theorem k_if_eq (C : Cx g X cc nL own lvl) {x : Int32} {off : Int} (tgt : Nat) (hd : decode cc pc = .ok (.ifCond .eq off, 3)) (ht : (pc : Int) + off = (tgt : Int)) (kt : x = 0 → Wk g X nL tgt loc rest w) (kf : ¬ x = 0 → Wk g X nL (pc + 3) loc rest w) : Wk g X nL pc loc (.int x :: rest) w := by
  obtain ⟨p, l, e, R, s, m, args, below, meth, c, Q, cells, slots⟩ := X
  obtain ⟨hx, hb, hml, hown, hts, hK, hg, hbs, hfr, hlo, hnw⟩ := C
  exact fun H locs ls hP hS hl => lv_if_eq hx hb hd ht (fun q => kt q H locs ls hP hS hl) (fun q => kf q H locs ls hP hS hl)

theorem k_if_ne (C : Cx g X cc nL own lvl) {x : Int32} {off : Int} (tgt : Nat) (hd : decode cc pc = .ok (.ifCond .ne off, 3)) (ht : (pc : Int) + off = (tgt : Int)) (kt : ¬ x = 0 → Wk g X nL tgt loc rest w) (kf : x = 0 → Wk g X nL (pc + 3) loc rest w) : Wk g X nL pc loc (.int x :: rest) w := by
  obtain ⟨p, l, e, R, s, m, args, below, meth, c, Q, cells, slots⟩ := X
  obtain ⟨hx, hb, hml, hown, hts, hK, hg, hbs, hfr, hlo, hnw⟩ := C
  exact fun H locs ls hP hS hl => lv_if_ne hx hb hd ht (fun q => kt q H locs ls hP hS hl) (fun q => kf q H locs ls hP hS hl)

theorem k_if_lt (C : Cx g X cc nL own lvl) {x : Int32} {off : Int} (tgt : Nat) (hd : decode cc pc = .ok (.ifCond .lt off, 3)) (ht : (pc : Int) + off = (tgt : Int)) (kt : x < 0 → Wk g X nL tgt loc rest w) (kf : ¬ x < 0 → Wk g X nL (pc + 3) loc rest w) : Wk g X nL pc loc (.int x :: rest) w := by
  obtain ⟨p, l, e, R, s, m, args, below, meth, c, Q, cells, slots⟩ := X
  obtain ⟨hx, hb, hml, hown, hts, hK, hg, hbs, hfr, hlo, hnw⟩ := C
  exact fun H locs ls hP hS hl => lv_if_lt hx hb hd ht (fun q => kt q H locs ls hP hS hl) (fun q => kf q H locs ls hP hS hl)

theorem k_if_ge (C : Cx g X cc nL own lvl) {x : Int32} {off : Int} (tgt : Nat) (hd : decode cc pc = .ok (.ifCond .ge off, 3)) (ht : (pc : Int) + off = (tgt : Int)) (kt : 0 ≤ x → Wk g X nL tgt loc rest w) (kf : ¬ 0 ≤ x → Wk g X nL (pc + 3) loc rest w) : Wk g X nL pc loc (.int x :: rest) w := by
  obtain ⟨p, l, e, R, s, m, args, below, meth, c, Q, cells, slots⟩ := X
  obtain ⟨hx, hb, hml, hown, hts, hK, hg, hbs, hfr, hlo, hnw⟩ := C
  exact fun H locs ls hP hS hl => lv_if_ge hx hb hd ht (fun q => kt q H locs ls hP hS hl) (fun q => kf q H locs ls hP hS hl)

theorem k_if_gt (C : Cx g X cc nL own lvl) {x : Int32} {off : Int} (tgt : Nat) (hd : decode cc pc = .ok (.ifCond .gt off, 3)) (ht : (pc : Int) + off = (tgt : Int)) (kt : 0 < x → Wk g X nL tgt loc rest w) (kf : ¬ 0 < x → Wk g X nL (pc + 3) loc rest w) : Wk g X nL pc loc (.int x :: rest) w := by
  obtain ⟨p, l, e, R, s, m, args, below, meth, c, Q, cells, slots⟩ := X
  obtain ⟨hx, hb, hml, hown, hts, hK, hg, hbs, hfr, hlo, hnw⟩ := C
  exact fun H locs ls hP hS hl => lv_if_gt hx hb hd ht (fun q => kt q H locs ls hP hS hl) (fun q => kf q H locs ls hP hS hl)

theorem k_if_le (C : Cx g X cc nL own lvl) {x : Int32} {off : Int} (tgt : Nat) (hd : decode cc pc = .ok (.ifCond .le off, 3)) (ht : (pc : Int) + off = (tgt : Int)) (kt : x ≤ 0 → Wk g X nL tgt loc rest w) (kf : ¬ x ≤ 0 → Wk g X nL (pc + 3) loc rest w) : Wk g X nL pc loc (.int x :: rest) w := by
  obtain ⟨p, l, e, R, s, m, args, below, meth, c, Q, cells, slots⟩ := X
  obtain ⟨hx, hb, hml, hown, hts, hK, hg, hbs, hfr, hlo, hnw⟩ := C
  exact fun H locs ls hP hS hl => lv_if_le hx hb hd ht (fun q => kt q H locs ls hP hS hl) (fun q => kf q H locs ls hP hS hl)

theorem k_icmp_eq (C : Cx g X cc nL own lvl) {x y : Int32} {off : Int} (tgt : Nat) (hd : decode cc pc = .ok (.if_icmp .eq off, 3)) (ht : (pc : Int) + off = (tgt : Int)) (kt : x = y → Wk g X nL tgt loc rest w) (kf : ¬ x = y → Wk g X nL (pc + 3) loc rest w) : Wk g X nL pc loc (.int y :: .int x :: rest) w := by
  obtain ⟨p, l, e, R, s, m, args, below, meth, c, Q, cells, slots⟩ := X
  obtain ⟨hx, hb, hml, hown, hts, hK, hg, hbs, hfr, hlo, hnw⟩ := C
  exact fun H locs ls hP hS hl => lv_icmp_eq hx hb hd ht (fun q => kt q H locs ls hP hS hl) (fun q => kf q H locs ls hP hS hl)

theorem k_icmp_ne (C : Cx g X cc nL own lvl) {x y : Int32} {off : Int} (tgt : Nat) (hd : decode cc pc = .ok (.if_icmp .ne off, 3)) (ht : (pc : Int) + off = (tgt : Int)) (kt : ¬ x = y → Wk g X nL tgt loc rest w) (kf : x = y → Wk g X nL (pc + 3) loc rest w) : Wk g X nL pc loc (.int y :: .int x :: rest) w := by
  obtain ⟨p, l, e, R, s, m, args, below, meth, c, Q, cells, slots⟩ := X
  obtain ⟨hx, hb, hml, hown, hts, hK, hg, hbs, hfr, hlo, hnw⟩ := C
  exact fun H locs ls hP hS hl => lv_icmp_ne hx hb hd ht (fun q => kt q H locs ls hP hS hl) (fun q => kf q H locs ls hP hS hl)

theorem k_icmp_lt (C : Cx g X cc nL own lvl) {x y : Int32} {off : Int} (tgt : Nat) (hd : decode cc pc = .ok (.if_icmp .lt off, 3)) (ht : (pc : Int) + off = (tgt : Int)) (kt : x < y → Wk g X nL tgt loc rest w) (kf : ¬ x < y → Wk g X nL (pc + 3) loc rest w) : Wk g X nL pc loc (.int y :: .int x :: rest) w := by
  obtain ⟨p, l, e, R, s, m, args, below, meth, c, Q, cells, slots⟩ := X
  obtain ⟨hx, hb, hml, hown, hts, hK, hg, hbs, hfr, hlo, hnw⟩ := C
  exact fun H locs ls hP hS hl => lv_icmp_lt hx hb hd ht (fun q => kt q H locs ls hP hS hl) (fun q => kf q H locs ls hP hS hl)

theorem k_icmp_ge (C : Cx g X cc nL own lvl) {x y : Int32} {off : Int} (tgt : Nat) (hd : decode cc pc = .ok (.if_icmp .ge off, 3)) (ht : (pc : Int) + off = (tgt : Int)) (kt : y ≤ x → Wk g X nL tgt loc rest w) (kf : ¬ y ≤ x → Wk g X nL (pc + 3) loc rest w) : Wk g X nL pc loc (.int y :: .int x :: rest) w := by
  obtain ⟨p, l, e, R, s, m, args, below, meth, c, Q, cells, slots⟩ := X
  obtain ⟨hx, hb, hml, hown, hts, hK, hg, hbs, hfr, hlo, hnw⟩ := C
  exact fun H locs ls hP hS hl => lv_icmp_ge hx hb hd ht (fun q => kt q H locs ls hP hS hl) (fun q => kf q H locs ls hP hS hl)

theorem k_icmp_gt (C : Cx g X cc nL own lvl) {x y : Int32} {off : Int} (tgt : Nat) (hd : decode cc pc = .ok (.if_icmp .gt off, 3)) (ht : (pc : Int) + off = (tgt : Int)) (kt : y < x → Wk g X nL tgt loc rest w) (kf : ¬ y < x → Wk g X nL (pc + 3) loc rest w) : Wk g X nL pc loc (.int y :: .int x :: rest) w := by
  obtain ⟨p, l, e, R, s, m, args, below, meth, c, Q, cells, slots⟩ := X
  obtain ⟨hx, hb, hml, hown, hts, hK, hg, hbs, hfr, hlo, hnw⟩ := C
  exact fun H locs ls hP hS hl => lv_icmp_gt hx hb hd ht (fun q => kt q H locs ls hP hS hl) (fun q => kf q H locs ls hP hS hl)

theorem k_icmp_le (C : Cx g X cc nL own lvl) {x y : Int32} {off : Int} (tgt : Nat) (hd : decode cc pc = .ok (.if_icmp .le off, 3)) (ht : (pc : Int) + off = (tgt : Int)) (kt : x ≤ y → Wk g X nL tgt loc rest w) (kf : ¬ x ≤ y → Wk g X nL (pc + 3) loc rest w) : Wk g X nL pc loc (.int y :: .int x :: rest) w := by
  obtain ⟨p, l, e, R, s, m, args, below, meth, c, Q, cells, slots⟩ := X
  obtain ⟨hx, hb, hml, hown, hts, hK, hg, hbs, hfr, hlo, hnw⟩ := C
  exact fun H locs ls hP hS hl => lv_icmp_le hx hb hd ht (fun q => kt q H locs ls hP hS hl) (fun q => kf q H locs ls hP hS hl)

theorem k_goto (C : Cx g X cc nL own lvl) {off : Int} (tgt : Nat) (hd : decode cc pc = .ok (.goto off, 3)) (ht : (pc : Int) + off = (tgt : Int)) (h : Wk g X nL tgt loc rest w) : Wk g X nL pc loc (rest) w := by
  obtain ⟨p, l, e, R, s, m, args, below, meth, c, Q, cells, slots⟩ := X
  obtain ⟨hx, hb, hml, hown, hts, hK, hg, hbs, hfr, hlo, hnw⟩ := C
  exact fun H locs ls hP hS hl => lv_goto hx hb hd ht (h H locs ls hP hS hl)

theorem k_lookup (C : Cx g X cc nL own lvl) {dflt : Int} {ps : Array (Int × Int)} {len : Nat} {x : Int32} (off : Int) (tgt : Nat) (hd : decode cc pc = .ok (.lookupswitch dflt ps, len)) (hp : (ps.toList.zip (ps.toList.drop 1)).all (fun (a, next) => a.1 < next.1) = true) (ho : Op.lookupswitch.offset ps.toList dflt x.toInt = off) (ht : (pc : Int) + off = (tgt : Int)) (h : Wk g X nL tgt loc rest w) : Wk g X nL pc loc (.int x :: rest) w := by
  obtain ⟨p, l, e, R, s, m, args, below, meth, c, Q, cells, slots⟩ := X
  obtain ⟨hx, hb, hml, hown, hts, hK, hg, hbs, hfr, hlo, hnw⟩ := C
  exact fun H locs ls hP hS hl => lv_lookup hx hb hd hp ho ht (h H locs ls hP hS hl)

theorem k_tabin (C : Cx g X cc nL own lvl) {dflt lo hi : Int} {offs : Array Int} {len : Nat} {x : Int32} (off : Int) (tgt : Nat) (hd : decode cc pc = .ok (.tableswitch dflt lo hi offs, len)) (h1 : ¬ x.toInt < lo) (h2 : ¬ hi < x.toInt) (ho : offs[(x.toInt - lo).toNat]? = some off) (ht : (pc : Int) + off = (tgt : Int)) (h : Wk g X nL tgt loc rest w) : Wk g X nL pc loc (.int x :: rest) w := by
  obtain ⟨p, l, e, R, s, m, args, below, meth, c, Q, cells, slots⟩ := X
  obtain ⟨hx, hb, hml, hown, hts, hK, hg, hbs, hfr, hlo, hnw⟩ := C
  exact fun H locs ls hP hS hl => lv_tableIn hx hb hd h1 h2 ho ht (h H locs ls hP hS hl)

theorem k_tabout (C : Cx g X cc nL own lvl) {dflt lo hi : Int} {offs : Array Int} {len : Nat} {x : Int32} (tgt : Nat) (hd : decode cc pc = .ok (.tableswitch dflt lo hi offs, len)) (h1 : x.toInt < lo ∨ hi < x.toInt) (ht : (pc : Int) + dflt = (tgt : Int)) (h : Wk g X nL tgt loc rest w) : Wk g X nL pc loc (.int x :: rest) w := by
  obtain ⟨p, l, e, R, s, m, args, below, meth, c, Q, cells, slots⟩ := X
  obtain ⟨hx, hb, hml, hown, hts, hK, hg, hbs, hfr, hlo, hnw⟩ := C
  exact fun H locs ls hP hS hl => lv_tableOut hx hb hd h1 ht (h H locs ls hP hS hl)

theorem k_sub (ks : List Nat) (hl' : lv_pick loc ks = lv') (h : Wk g X nL pc lv' rest w) : Wk g X nL pc loc rest w := by
  obtain ⟨p, l, e, R, s, m, args, below, meth, c, Q, cells, slots⟩ := X
  exact fun H locs ls hP hS hl => h H locs ls hP hS (lv_sub hl ks hl')
theorem nti {x v : Int32} (h : ¬ x = v) : ¬ x.toInt = v.toInt := fun e => h (Int32.toInt_inj.mp e)

theorem k_get (C : Cx g X cc nL own lvl) {idx o ci k N : Nat} {Cn : String} {T : u_T} {fs : List Value} {v : Value} (hlink : Cond.fieldLink own idx Cn (T k).2.1 (T k).2.2.1 ∈ TW) (hdecl : (T k).1 = Cn) (hin : ∀ q ∈ u_ws Cn T N, q ∈ TW) (hc : vcls[ci]? = some (Cn, T, N)) (hk : k < N) (ho : o < 105) (he : shW g w o = .inr (ci, fs)) (hv : fs[k]? = some v) (hd : decode cc pc = .ok (.getfield idx, 3)) (h : Wk g X nL (pc + 3) loc (v :: rest) w) : Wk g X nL pc loc (.ref (g_a g o) :: rest) w := by
  obtain ⟨p, l, e, R, s, m, args, below, meth, c, Q, cells, slots⟩ := X
  obtain ⟨hx, hb, hml, hown, hts, hK, hg, hbs, hfr, hlo, hnw⟩ := C
  exact fun H locs ls hP hS hl => va_get hx hb hts hin hown hK hP o (by rw [wl_at ho, he]) hc k hk (hts _ hlink) (fun x hx1 => by rw [hdecl] at hx1; exact hx1) hv hd (h H locs ls hP hS hl)

theorem k_put (C : Cx g X cc nL own lvl) {idx o ci k N : Nat} {Cn : String} {T : u_T} {fs : List Value} {v : Value} {w' : WD} {ty : FieldType} (hlink : Cond.fieldLink own idx Cn (T k).2.1 (T k).2.2.1 ∈ TW) (hdecl : (T k).1 = Cn) (hin : ∀ q ∈ u_ws Cn T N, q ∈ TW) (ty0 : Nat → FieldType) (hty : ∀ k, k < N → parseFieldDescriptor (T k).2.2.1 = some (ty0 k)) (hnm : ∀ a, a < N → ∀ b, b < N → a ≠ b → (T a).2.1 ≠ (T b).2.1) (hc : vcls[ci]? = some (Cn, T, N)) (hk : k < N) (hfin : (T k).2.2.2 = false) (ht : parseFieldDescriptor (T k).2.2.1 = some ty) (hn : narrow ty v = v) (hfit : fits ty v = true) (hlen : k < fs.length) (ho : o < 105) (he : shW g w o = .inr (ci, fs)) (hw : shW g w' o = .inr (ci, fs.set k v)) (hoth : ∀ j, j ≠ o → shW g w' j = shW g w j) (hd : decode cc pc = .ok (.putfield idx, 3)) (h : Wk g X nL (pc + 3) loc rest w') : Wk g X nL pc loc (v :: .ref (g_a g o) :: rest) w := by
  obtain ⟨p, l, e, R, s, m, args, below, meth, c, Q, cells, slots⟩ := X
  obtain ⟨hx, hb, hml, hown, hts, hK, hg, hbs, hfr, hlo, hnw⟩ := C
  refine fun H locs ls hP hS hl => va_put hx hb hts hin ty0 hty hnm hown hK hP (hg.d w) hS o (by rw [wl_at ho, he]) hc k hk (hts _ hlink) (fun x hx1 => by rw [hdecl] at hx1; exact hx1) hfin ht hn hfit hlen hd (fun H1 locs1 hP1 hD1 hS1 => ?_)
  rw [wl_set ho hw hoth] at hP1
  exact h H1 locs1 ls hP1 hS1 hl

theorem k_getN (C : Cx g X cc nL own lvl) {idx o ci k N : Nat} {Cn : String} {T : u_T} {fs : List Value} {v : Value} {host : String} (hlink : Cond.fieldLinkNest own idx Cn (T k).2.1 (T k).2.2.1 host ∈ NW) (hdecl : (T k).1 = Cn) (hin : ∀ q ∈ u_ws Cn T N, q ∈ TW) (hc : vcls[ci]? = some (Cn, T, N)) (hk : k < N) (ho : o < 105) (he : shW g w o = .inr (ci, fs)) (hv : fs[k]? = some v) (hd : decode cc pc = .ok (.getfield idx, 3)) (h : Wk g X nL (pc + 3) loc (v :: rest) w) : Wk g X nL pc loc (.ref (g_a g o) :: rest) w := by
  obtain ⟨p, l, e, R, s, m, args, below, meth, c, Q, cells, slots⟩ := X
  obtain ⟨hx, hb, hml, hown, hts, hK, hg, hbs, hfr, hlo, hnw⟩ := C
  exact fun H locs ls hP hS hl => va_getN hx hb hts hin hown hK hP o (by rw [wl_at ho, he]) hc k hk (hnw.use hlink) (fun x hx1 => by rw [hdecl] at hx1; exact hx1) hv hd (h H locs ls hP hS hl)

theorem k_putN (C : Cx g X cc nL own lvl) {idx o ci k N : Nat} {Cn : String} {T : u_T} {fs : List Value} {v : Value} {host : String} {w' : WD} {ty : FieldType} (hlink : Cond.fieldLinkNest own idx Cn (T k).2.1 (T k).2.2.1 host ∈ NW) (hdecl : (T k).1 = Cn) (hin : ∀ q ∈ u_ws Cn T N, q ∈ TW) (ty0 : Nat → FieldType) (hty : ∀ k, k < N → parseFieldDescriptor (T k).2.2.1 = some (ty0 k)) (hnm : ∀ a, a < N → ∀ b, b < N → a ≠ b → (T a).2.1 ≠ (T b).2.1) (hc : vcls[ci]? = some (Cn, T, N)) (hk : k < N) (hfin : (T k).2.2.2 = false) (ht : parseFieldDescriptor (T k).2.2.1 = some ty) (hn : narrow ty v = v) (hfit : fits ty v = true) (hlen : k < fs.length) (ho : o < 105) (he : shW g w o = .inr (ci, fs)) (hw : shW g w' o = .inr (ci, fs.set k v)) (hoth : ∀ j, j ≠ o → shW g w' j = shW g w j) (hd : decode cc pc = .ok (.putfield idx, 3)) (h : Wk g X nL (pc + 3) loc rest w') : Wk g X nL pc loc (v :: .ref (g_a g o) :: rest) w := by
  obtain ⟨p, l, e, R, s, m, args, below, meth, c, Q, cells, slots⟩ := X
  obtain ⟨hx, hb, hml, hown, hts, hK, hg, hbs, hfr, hlo, hnw⟩ := C
  refine fun H locs ls hP hS hl => va_putN hx hb hts hin ty0 hty hnm hown hK hP (hg.d w) hS o (by rw [wl_at ho, he]) hc k hk (hnw.use hlink) (fun x hx1 => by rw [hdecl] at hx1; exact hx1) hfin ht hn hfit hlen hd (fun H1 locs1 hP1 hD1 hS1 => ?_)
  rw [wl_set ho hw hoth] at hP1
  exact h H1 locs1 ls hP1 hS1 hl

theorem k_iald (C : Cx g X cc nL own lvl) {o n : Nat} {f : Nat → Int32} {i : Int32} (ho : o < 105) (he : shW g w o = .inl (g_c g 0, n, .inl f)) (hi : vp_in i n) (hd : decode cc pc = .ok (.iaload, 1)) (h : Wk g X nL (pc + 1) loc (.int (f i.toNatClampNeg) :: rest) w) : Wk g X nL pc loc (.int i :: .ref (g_a g o) :: rest) w := by
  obtain ⟨p, l, e, R, s, m, args, below, meth, c, Q, cells, slots⟩ := X
  obtain ⟨hx, hb, hml, hown, hts, hK, hg, hbs, hfr, hlo, hnw⟩ := C
  exact fun H locs ls hP hS hl => va_iald hx hb hK hP o 0 (by rw [wl_at ho, he]) rfl hi hd (h H locs ls hP hS hl)

theorem k_lald (C : Cx g X cc nL own lvl) {o n : Nat} {f : Nat → Int64} {i : Int32} (ho : o < 105) (he : shW g w o = .inl (g_c g 1, n, .inr (.inl f))) (hi : vp_in i n) (hd : decode cc pc = .ok (.laload, 1)) (h : Wk g X nL (pc + 1) loc (.long (f i.toNatClampNeg) :: rest) w) : Wk g X nL pc loc (.int i :: .ref (g_a g o) :: rest) w := by
  obtain ⟨p, l, e, R, s, m, args, below, meth, c, Q, cells, slots⟩ := X
  obtain ⟨hx, hb, hml, hown, hts, hK, hg, hbs, hfr, hlo, hnw⟩ := C
  exact fun H locs ls hP hS hl => va_lald hx hb hK hP o 1 (by rw [wl_at ho, he]) rfl hi hd (h H locs ls hP hS hl)

theorem k_iast (C : Cx g X cc nL own lvl) {o n : Nat} {f : Nat → Int32} {i : Int32} {x : Int32} {w' : WD} (ho : o < 105) (he : shW g w o = .inl (g_c g 0, n, .inl f)) (hi : vp_in i n) (hw : shW g w' o = .inl (g_c g 0, n, .inl (upd f i.toNatClampNeg x))) (hoth : ∀ j, j ≠ o → shW g w' j = shW g w j) (hd : decode cc pc = .ok (.iastore, 1)) (h : Wk g X nL (pc + 1) loc rest w') : Wk g X nL pc loc (.int x :: .int i :: .ref (g_a g o) :: rest) w := by
  obtain ⟨p, l, e, R, s, m, args, below, meth, c, Q, cells, slots⟩ := X
  obtain ⟨hx, hb, hml, hown, hts, hK, hg, hbs, hfr, hlo, hnw⟩ := C
  refine fun H locs ls hP hS hl => va_iast hx hb hK hP (hg.d w) hS o 0 (by rw [wl_at ho, he]) rfl hi hd (fun H1 locs1 hP1 hD1 hS1 => ?_)
  rw [wl_set ho hw hoth] at hP1
  exact h H1 locs1 ls hP1 hS1 hl

theorem k_last (C : Cx g X cc nL own lvl) {o n : Nat} {f : Nat → Int64} {i : Int32} {x : Int64} {w' : WD} (ho : o < 105) (he : shW g w o = .inl (g_c g 1, n, .inr (.inl f))) (hi : vp_in i n) (hw : shW g w' o = .inl (g_c g 1, n, .inr (.inl (vp_updL f i.toNatClampNeg x)))) (hoth : ∀ j, j ≠ o → shW g w' j = shW g w j) (hd : decode cc pc = .ok (.lastore, 1)) (h : Wk g X nL (pc + 1) loc rest w') : Wk g X nL pc loc (.long x :: .int i :: .ref (g_a g o) :: rest) w := by
  obtain ⟨p, l, e, R, s, m, args, below, meth, c, Q, cells, slots⟩ := X
  obtain ⟨hx, hb, hml, hown, hts, hK, hg, hbs, hfr, hlo, hnw⟩ := C
  refine fun H locs ls hP hS hl => va_last hx hb hK hP (hg.d w) hS o 1 (by rw [wl_at ho, he]) rfl hi hd (fun H1 locs1 hP1 hD1 hS1 => ?_)
  rw [wl_set ho hw hoth] at hP1
  exact h H1 locs1 ls hP1 hS1 hl

theorem k_aald (C : Cx g X cc nL own lvl) {o n : Nat} {f : Nat → Nat} {i : Int32} {cA : ClassId} {Cn : String} (t0 : Nat) (ht0 : (gtys g)[t0]? = some (cA, .object Cn)) (ho : o < 105) (he : shW g w o = .inl (cA, n, rfs f)) (hi : vp_in i n) (hd : decode cc pc = .ok (.aaload, 1)) (h : Wk g X nL (pc + 1) loc (.ref (f i.toNatClampNeg) :: rest) w) : Wk g X nL pc loc (.int i :: .ref (g_a g o) :: rest) w := by
  obtain ⟨p, l, e, R, s, m, args, below, meth, c, Q, cells, slots⟩ := X
  obtain ⟨hx, hb, hml, hown, hts, hK, hg, hbs, hfr, hlo, hnw⟩ := C
  exact fun H locs ls hP hS hl => va_aldq (f := fun i => some (f i)) hx hb hK hP o t0 (by rw [wl_at ho, he]) ht0 hi hd (h H locs ls hP hS hl)

theorem k_mabs (C : Cx g X cc nL own lvl) {idx : Nat} {x : Int32} (hlink : Cond.methodLink own idx Lib.Math.abs.name ∈ TW) (hstat : Cond.static Lib.Math.abs.name ∈ TW) (hini : Cond.initialized "java/lang/Math" ∈ TW) (hcode : Cond.code Lib.Math.abs.name Lib.Math.abs.code 1 (some .int) ∈ TW) (hlv : Nat.ble 1 lvl = true) (hcs : Nat.ble (rest.map fun v => v.category).sum 20 = true) (hcell : X.2.2.2.2.2.2.2.2.2.2.2.1 ≤ X.2.2.2.1.cells ∧ X.2.2.2.2.2.2.2.2.2.2.2.2 ≤ X.2.2.2.1.slots) (hd : decode cc pc = .ok (.invokestatic idx, 3)) (h : Wk g X nL (pc + 3) loc (.int (x_abs x) :: rest) w) : Wk g X nL pc loc (.int x :: rest) w := by
  obtain ⟨p, l, e, R, s, m, args, below, meth, c, Q, cells, slots⟩ := X
  obtain ⟨hx, hb, hml, hown, hts, hK, hg, hbs, hfr, hlo, hnw⟩ := C
  exact fun H locs ls hP hS hl => va_mabs hx hb (hml.trans hl.1.symm) hown (hts _ hlink) (hts _ hstat) (hts _ hini) (hts _ hcode) (Nat.le_trans (Nat.le_of_ble_eq_true hlv) hfr) (by have h1 := Nat.le_of_ble_eq_true hlv; have h2 := Nat.le_of_ble_eq_true hcs; omega) hcell.1 hcell.2 hd (h H locs ls hP hS hl)

theorem k_mmin (C : Cx g X cc nL own lvl) {idx : Nat} {x y : Int32} (hlink : Cond.methodLink own idx Lib.Math.min.name ∈ TW) (hstat : Cond.static Lib.Math.min.name ∈ TW) (hini : Cond.initialized "java/lang/Math" ∈ TW) (hcode : Cond.code Lib.Math.min.name Lib.Math.min.code 2 (some .int) ∈ TW) (hlv : Nat.ble 1 lvl = true) (hcs : Nat.ble (rest.map fun v => v.category).sum 20 = true) (hcell : X.2.2.2.2.2.2.2.2.2.2.2.1 ≤ X.2.2.2.1.cells ∧ X.2.2.2.2.2.2.2.2.2.2.2.2 ≤ X.2.2.2.1.slots) (hd : decode cc pc = .ok (.invokestatic idx, 3)) (h : Wk g X nL (pc + 3) loc (.int (x_min x y) :: rest) w) : Wk g X nL pc loc (.int y :: .int x :: rest) w := by
  obtain ⟨p, l, e, R, s, m, args, below, meth, c, Q, cells, slots⟩ := X
  obtain ⟨hx, hb, hml, hown, hts, hK, hg, hbs, hfr, hlo, hnw⟩ := C
  exact fun H locs ls hP hS hl => va_mmin hx hb (hml.trans hl.1.symm) hown (hts _ hlink) (hts _ hstat) (hts _ hini) (hts _ hcode) (Nat.le_trans (Nat.le_of_ble_eq_true hlv) hfr) (by have h1 := Nat.le_of_ble_eq_true hlv; have h2 := Nat.le_of_ble_eq_true hcs; omega) hcell.1 hcell.2 hd (h H locs ls hP hS hl)

theorem k_mmax (C : Cx g X cc nL own lvl) {idx : Nat} {x y : Int32} (hlink : Cond.methodLink own idx Lib.Math.max.name ∈ TW) (hstat : Cond.static Lib.Math.max.name ∈ TW) (hini : Cond.initialized "java/lang/Math" ∈ TW) (hcode : Cond.code Lib.Math.max.name Lib.Math.max.code 2 (some .int) ∈ TW) (hlv : Nat.ble 1 lvl = true) (hcs : Nat.ble (rest.map fun v => v.category).sum 20 = true) (hcell : X.2.2.2.2.2.2.2.2.2.2.2.1 ≤ X.2.2.2.1.cells ∧ X.2.2.2.2.2.2.2.2.2.2.2.2 ≤ X.2.2.2.1.slots) (hd : decode cc pc = .ok (.invokestatic idx, 3)) (h : Wk g X nL (pc + 3) loc (.int (x_max x y) :: rest) w) : Wk g X nL pc loc (.int y :: .int x :: rest) w := by
  obtain ⟨p, l, e, R, s, m, args, below, meth, c, Q, cells, slots⟩ := X
  obtain ⟨hx, hb, hml, hown, hts, hK, hg, hbs, hfr, hlo, hnw⟩ := C
  exact fun H locs ls hP hS hl => va_mmax hx hb (hml.trans hl.1.symm) hown (hts _ hlink) (hts _ hstat) (hts _ hini) (hts _ hcode) (Nat.le_trans (Nat.le_of_ble_eq_true hlv) hfr) (by have h1 := Nat.le_of_ble_eq_true hlv; have h2 := Nat.le_of_ble_eq_true hcs; omega) hcell.1 hcell.2 hd (h H locs ls hP hS hl)

end MR

/-- where a walk goes: this answer, this world -/
def RtI (g : GC) (X : MX) (ret : Option FieldType) (r : Int32) (w : WD) : Prop := match X with
  | (_, _, _, R, s, _, args, below, meth, _, Q, cells, slots) => Q = MQ below (va_Qi (fun (r2 : Int32) (_ : Unit) => r2 = r) (fun _ t => Wat g w t) (AB g)) args s cells slots (AB g) ∧ meth.sig.returnType = ret ∧ meth.locks = false ∧ cells ≤ R.cells ∧ slots ≤ R.slots
def RtL (g : GC) (X : MX) (ret : Option FieldType) (r : Int64) (w : WD) : Prop := match X with
  | (_, _, _, R, s, _, args, below, meth, _, Q, cells, slots) => Q = MQ below (va_Ql (fun (r2 : Int64) (_ : Unit) => r2 = r) (fun _ t => Wat g w t) (AB g)) args s cells slots (AB g) ∧ meth.sig.returnType = ret ∧ meth.locks = false ∧ cells ≤ R.cells ∧ slots ≤ R.slots
def RtV (g : GC) (X : MX) (ret : Option FieldType) (w : WD) : Prop := match X with
  | (_, _, _, R, s, _, args, below, meth, _, Q, cells, slots) => Q = MQ below (va_Qv (fun (_ : Unit) => True) (fun _ t => Wat g w t) (AB g)) args s cells slots (AB g) ∧ meth.sig.returnType = ret ∧ meth.locks = false ∧ cells ≤ R.cells ∧ slots ≤ R.slots
section RT
variable {g : GC} {X : MX} {cc : ByteArray} {nL : Nat} {own : String} {lvl : Nat} {pc : Nat} {loc : List (Nat × Value)} {rest : List Value} {w : WD}

theorem k_iret (C : Cx g X cc nL own lvl) {r : Int32} (q : RtI g X (some .int) r w) (hd : decode cc pc = .ok (.ireturn, 1)) : Wk g X nL pc loc [.int r] w := by
  obtain ⟨p, l, e, R, s, m, args, below, meth, c, Q, cells, slots⟩ := X
  obtain ⟨hx, hb, hml, hown, hts, hK, hg, hbs, hfr, hlo, hnw⟩ := C
  obtain ⟨rfl, hr, hlk, hce, hsl⟩ := q
  exact fun H locs ls hP hS hl => W.iret hx hb hr (fun t ht hW => ⟨⟨r, (), rfl, rfl, ⟨by rw [ht]; exact hP, va_K.moved hW.alike hK, by rw [ht]; exact Nat.le_trans hbs hS.1⟩⟩, hS.F ht⟩) hS.2.2 hd hlk

theorem k_zret (C : Cx g X cc nL own lvl) {r : Int32} (q : RtI g X (some .boolean) r w) (hz : r = 0 ∨ r = 1) (hd : decode cc pc = .ok (.ireturn, 1)) : Wk g X nL pc loc [.int r] w := by
  obtain ⟨p, l, e, R, s, m, args, below, meth, c, Q, cells, slots⟩ := X
  obtain ⟨hx, hb, hml, hown, hts, hK, hg, hbs, hfr, hlo, hnw⟩ := C
  obtain ⟨rfl, hr, hlk, hce, hsl⟩ := q
  exact fun H locs ls hP hS hl => W.zret hx hb hr (by rcases hz with rfl | rfl <;> rfl) (fun t ht hW => ⟨⟨r, (), rfl, rfl, ⟨by rw [ht]; exact hP, va_K.moved hW.alike hK, by rw [ht]; exact Nat.le_trans hbs hS.1⟩⟩, hS.F ht⟩) hS.2.2 hd hlk

theorem k_lret (C : Cx g X cc nL own lvl) {r : Int64} (q : RtL g X (some .long) r w) (hd : decode cc pc = .ok (.lreturn, 1)) : Wk g X nL pc loc [.long r] w := by
  obtain ⟨p, l, e, R, s, m, args, below, meth, c, Q, cells, slots⟩ := X
  obtain ⟨hx, hb, hml, hown, hts, hK, hg, hbs, hfr, hlo, hnw⟩ := C
  obtain ⟨rfl, hr, hlk, hce, hsl⟩ := q
  exact fun H locs ls hP hS hl => W.lret hx hb hr (fun t ht hW => ⟨⟨r, (), rfl, rfl, ⟨by rw [ht]; exact hP, va_K.moved hW.alike hK, by rw [ht]; exact Nat.le_trans hbs hS.1⟩⟩, hS.F ht⟩) hS.2.2 hd hlk

theorem k_vret (C : Cx g X cc nL own lvl) (q : RtV g X none w) (hd : decode cc pc = .ok (.return_, 1)) : Wk g X nL pc loc [] w := by
  obtain ⟨p, l, e, R, s, m, args, below, meth, c, Q, cells, slots⟩ := X
  obtain ⟨hx, hb, hml, hown, hts, hK, hg, hbs, hfr, hlo, hnw⟩ := C
  obtain ⟨rfl, hr, hlk, hce, hsl⟩ := q
  exact fun H locs ls hP hS hl => W.vret hx hb hr (fun t ht hW => ⟨⟨(), rfl, trivial, ⟨by rw [ht]; exact hP, va_K.moved hW.alike hK, by rw [ht]; exact Nat.le_trans hbs hS.1⟩⟩, hS.F ht⟩) hS.2.2 hd hlk

theorem rtI_c {ret : Option FieldType} {r : Int32} (q : RtI g X ret r w) : X.2.2.2.2.2.2.2.2.2.2.2.1 ≤ X.2.2.2.1.cells ∧ X.2.2.2.2.2.2.2.2.2.2.2.2 ≤ X.2.2.2.1.slots := by
  obtain ⟨p, l, e, R, s, m, args, below, meth, c, Q, cells, slots⟩ := X
  exact q.2.2.2
theorem rtL_c {ret : Option FieldType} {r : Int64} (q : RtL g X ret r w) : X.2.2.2.2.2.2.2.2.2.2.2.1 ≤ X.2.2.2.1.cells ∧ X.2.2.2.2.2.2.2.2.2.2.2.2 ≤ X.2.2.2.1.slots := by
  obtain ⟨p, l, e, R, s, m, args, below, meth, c, Q, cells, slots⟩ := X
  exact q.2.2.2
theorem rtV_c {ret : Option FieldType} (q : RtV g X ret w) : X.2.2.2.2.2.2.2.2.2.2.2.1 ≤ X.2.2.2.1.cells ∧ X.2.2.2.2.2.2.2.2.2.2.2.2 ≤ X.2.2.2.1.slots := by
  obtain ⟨p, l, e, R, s, m, args, below, meth, c, Q, cells, slots⟩ := X
  exact q.2.2.2
end RT
section ME
variable {g : GC} {l : Launch} {y : MethodName} {cc : ByteArray} {nL : Nat} {ret : Option FieldType} {lvl : Nat} {av : List Value} {w w' : WD}

theorem m_i (hg : gOk g) {r : Int32} (hy : plainName y.cls = true) (hn : Nat.ble (lg_sl av).length nL = true) (body : ∀ (X : MX), RtI g X ret r w' → Cx g X cc nL y.cls lvl → Wk g X nL 0 (lv_args 0 av) [] w) : Mi g l y cc nL ret lvl av w r w' := by
  refine m_entry hg hy (Nat.le_of_ble_eq_true hn) fun X h1 h2 h3 h4 C => ?_
  obtain ⟨p, l, e, R, s, m, args, below, meth, c, Q, cells, slots⟩ := X
  cases h4
  exact body _ ⟨h1, h2, h3, Nat.zero_le _, Nat.zero_le _⟩ C

theorem m_l (hg : gOk g) {r : Int64} (hy : plainName y.cls = true) (hn : Nat.ble (lg_sl av).length nL = true) (body : ∀ (X : MX), RtL g X ret r w' → Cx g X cc nL y.cls lvl → Wk g X nL 0 (lv_args 0 av) [] w) : Ml g l y cc nL ret lvl av w r w' := by
  refine m_entry hg hy (Nat.le_of_ble_eq_true hn) fun X h1 h2 h3 h4 C => ?_
  obtain ⟨p, l, e, R, s, m, args, below, meth, c, Q, cells, slots⟩ := X
  cases h4
  exact body _ ⟨h1, h2, h3, Nat.zero_le _, Nat.zero_le _⟩ C

theorem m_v (hg : gOk g) (hy : plainName y.cls = true) (hn : Nat.ble (lg_sl av).length nL = true) (body : ∀ (X : MX), RtV g X ret w' → Cx g X cc nL y.cls lvl → Wk g X nL 0 (lv_args 0 av) [] w) : Mv g l y cc nL ret lvl av w w' := by
  refine m_entry hg hy (Nat.le_of_ble_eq_true hn) fun X h1 h2 h3 h4 C => ?_
  obtain ⟨p, l, e, R, s, m, args, below, meth, c, Q, cells, slots⟩ := X
  cases h4
  exact body _ ⟨h1, h2, h3, Nat.zero_le _, Nat.zero_le _⟩ C

end ME

section CL
/-- what a call's tables say: providers of the kit's call words -/
def LkS (own : String) (idx : Nat) (y : MethodName) (cc : ByteArray) (nL : Nat) (ret : Option FieldType) (n : Nat) : Prop := ∀ (R : Room) (s : State) (args : Array Value) (lv : Nat), (∀ w ∈ TW, w.before args s = true) → (rmd lv).frames + 1 ≤ R.frames ∧ 8 + (nL + 11) + (rmd lv).locals ≤ R.locals → CallB R s args own idx y cc nL ret (.code y cc nL ret :: TW) (rmd lv) 0 0 n ∧ (Cond.static y).before args s = true
def LkT (own : String) (idx : Nat) (y : MethodName) (host : String) (cc : ByteArray) (nL : Nat) (ret : Option FieldType) (n : Nat) : Prop := ∀ (R : Room) (s : State) (args : Array Value) (lv : Nat), (∀ w ∈ TW, w.before args s = true) → NWs s → (rmd lv).frames + 1 ≤ R.frames ∧ 8 + (nL + 11) + (rmd lv).locals ≤ R.locals → va_CN R s args own idx y host cc nL ret (.code y cc nL ret :: TW) (rmd lv) 0 0 n ∧ (Cond.static y).before args s = true ∧ True
def LkV (own C : String) (idx : Nat) (y : MethodName) (cc : ByteArray) (nL : Nat) (ret : Option FieldType) (n : Nat) : Prop := ∀ (R : Room) (s : State) (args : Array Value) (lv : Nat), (∀ w ∈ TW, w.before args s = true) → (rmd lv).frames + 1 ≤ R.frames ∧ 8 + (nL + 11) + (rmd lv).locals ≤ R.locals → CallW R s args own C idx y cc nL ret (.code y cc nL ret :: TW) (rmd lv) 0 0 n
def LkU (own C owner : String) (idx : Nat) (x y : MethodName) (cc : ByteArray) (nL : Nat) (ret : Option FieldType) (n : Nat) : Prop := ∀ (R : Room) (s : State) (args : Array Value) (lv : Nat), (∀ w ∈ TW, w.before args s = true) → (rmd lv).frames + 1 ≤ R.frames ∧ 8 + (nL + 11) + (rmd lv).locals ≤ R.locals → va_CU R s args own C owner idx x y cc nL ret (.code y cc nL ret :: TW) (rmd lv) 0 0 n
def LkP (own : String) (idx : Nat) (y : MethodName) (cc : ByteArray) (nL : Nat) (ret : Option FieldType) (n : Nat) : Prop := ∀ (R : Room) (s : State) (args : Array Value) (lv : Nat), (∀ w ∈ TW, w.before args s = true) → (rmd lv).frames + 1 ≤ R.frames ∧ 8 + (nL + 11) + (rmd lv).locals ≤ R.locals → va_CS R s args own idx y cc nL ret (.code y cc nL ret :: TW) (rmd lv) 0 0 n
theorem tw_gi {b : Cond} {ex : List Cond} (hb : b ∈ TW) (he : ∀ w ∈ ex, w ∈ TW) : GoodIn TW (ex ++ b :: TW) := tw_in0 hb he
theorem lkS {own : String} {idx : Nat} {y : MethodName} {cc : ByteArray} {nL : Nat} {ret : Option FieldType} (n : Nat) (h1 : Cond.methodLink own idx y ∈ TW) (h2 : Cond.static y ∈ TW) (h3 : Cond.initialized y.cls ∈ TW) (h4 : Cond.code y cc nL ret ∈ TW) (hd : y.cls ≠ "java/lang/invoke/MethodHandle" ∧ y.cls ≠ "java/lang/invoke/VarHandle" ∧ (parseMethodDescriptor y.desc).map (fun d => d.parameters.length) = some n) : LkS own idx y cc nL ret n := fun R s args lv ht hR => ⟨callB_of n ht (tw_gi (ex := []) h4 (by simp)) rfl rfl rfl (ht _ h3) (ht _ h1) hd hR, ht _ h2⟩
theorem lkT {own host : String} {idx : Nat} {y : MethodName} {cc : ByteArray} {nL : Nat} {ret : Option FieldType} (n : Nat) (h1 : Cond.methodLinkNest own idx y host ∈ NW) (h2 : Cond.static y ∈ TW) (h3 : Cond.initialized y.cls ∈ TW) (h4 : Cond.code y cc nL ret ∈ TW) (hd : y.cls ≠ "java/lang/invoke/MethodHandle" ∧ y.cls ≠ "java/lang/invoke/VarHandle" ∧ (parseMethodDescriptor y.desc).map (fun d => d.parameters.length) = some n) : LkT own idx y host cc nL ret n := fun R s args lv ht hnw hR => ⟨va_cnB n ht (tw_gi (ex := []) h4 (by simp)) rfl rfl rfl (hnw _ h1) (ht _ h3) hd hR, ht _ h2, trivial⟩
theorem lkV {own C : String} {idx : Nat} {y : MethodName} {cc : ByteArray} {nL : Nat} {ret : Option FieldType} (n : Nat) (h1 : Cond.methodLink own idx y ∈ TW) (h2 : Cond.instanceMethod y ∈ TW) (h3 : Cond.selects C y y ∈ TW) (h5 : Cond.initialized C ∈ TW) (h4 : Cond.code y cc nL ret ∈ TW) (hd : y.cls = C ∧ y.cls ≠ "java/lang/invoke/MethodHandle" ∧ y.cls ≠ "java/lang/invoke/VarHandle" ∧ (parseMethodDescriptor y.desc).map (fun d => d.parameters.length) = some n) : LkV own C idx y cc nL ret n := fun R s args lv ht hR => cwV n ht (tw_gi h4 (by simp [h1, h2, h3, h5])) rfl rfl rfl hd hR
theorem lkU {own C owner : String} {idx : Nat} {x y : MethodName} {cc : ByteArray} {nL : Nat} {ret : Option FieldType} (n : Nat) (h1 : Cond.methodLink own idx x ∈ TW) (h6 : Cond.sameMethod x.cls owner x.name x.desc ∈ TW) (h3 : Cond.selects C x y ∈ TW) (h2 : Cond.instanceMethod y ∈ TW) (h5 : Cond.initialized y.cls ∈ TW) (h4 : Cond.code y cc nL ret ∈ TW) (hyx : y = ⟨owner, x.name, x.desc⟩) (hd : owner ≠ "java/lang/invoke/MethodHandle" ∧ owner ≠ "java/lang/invoke/VarHandle" ∧ (parseMethodDescriptor x.desc).map (fun d => d.parameters.length) = some n) : LkU own C owner idx x y cc nL ret n := fun R s args lv ht hR => va_cwU n ht (tw_gi h4 (by simp [h1, h2, h3, h5, h6])) rfl rfl rfl hyx hd hR
theorem lkO {own C owner : String} {idx : Nat} {x y : MethodName} {cc : ByteArray} {nL : Nat} {ret : Option FieldType} (n : Nat) (h1 : Cond.methodLink own idx x ∈ TW) (h6 : Cond.sameMethod x.cls owner x.name x.desc ∈ TW) (h7 : Cond.instanceMethod ⟨owner, x.name, x.desc⟩ ∈ TW) (h3 : Cond.selects C x y ∈ TW) (h2 : Cond.instanceMethod y ∈ TW) (h5 : Cond.initialized y.cls ∈ TW) (h4 : Cond.code y cc nL ret ∈ TW) {b0 : ByteArray} {m0 : Nat} {r0 : Option FieldType} (h0 : Cond.code ⟨owner, x.name, x.desc⟩ b0 m0 r0 ∈ TW) (hd : owner ≠ "java/lang/invoke/MethodHandle" ∧ owner ≠ "java/lang/invoke/VarHandle" ∧ (parseMethodDescriptor x.desc).map (fun d => d.parameters.length) = some n) : LkU own C owner idx x y cc nL ret n := fun R s args lv ht hR => va_cwO n ht (tw_gi h4 (by simp [h1, h2, h3, h5, h6, h7])) rfl rfl rfl h0 hd hR
theorem lkP {own : String} {idx : Nat} {y : MethodName} {cc : ByteArray} {nL : Nat} {ret : Option FieldType} (n : Nat) (h1 : Cond.methodLink own idx y ∈ TW) (h6 : Cond.sameMethod y.cls y.cls y.name y.desc ∈ TW) (h7 : Cond.superclass own y.cls ∈ TW) (h2 : Cond.instanceMethod y ∈ TW) (h5 : Cond.initialized y.cls ∈ TW) (h4 : Cond.code y cc nL ret ∈ TW) (hd : y.name ≠ "<init>" ∧ (parseMethodDescriptor y.desc).map (fun d => d.parameters.length) = some n) : LkP own idx y cc nL ret n := fun R s args lv ht hR => va_cwSU n ht (tw_gi h4 (by simp [h1, h2, h5, h6, h7])) rfl rfl rfl hd hR
variable {g : GC} {X : MX} {cc cc2 : ByteArray} {nL nL2 n idx lv2 : Nat} {own : String} {lvl : Nat} {pc : Nat} {loc : List (Nat × Value)} {rest st As : List Value} {w w' : WD} {y : MethodName} {ret2 : Option FieldType}
theorem lv_need {R : Room} (h1 : Nat.ble (lv2 + 1) lvl = true) (h2 : Nat.ble nL2 21 = true) (hfr : lvl ≤ R.frames) (hlo : 40 * lvl ≤ R.locals) : (rmd lv2).frames + 1 ≤ R.frames ∧ 8 + (nL2 + 11) + (rmd lv2).locals ≤ R.locals := by
  have a := Nat.le_of_ble_eq_true h1
  have b := Nat.le_of_ble_eq_true h2
  refine ⟨Nat.le_trans a hfr, ?_⟩
  show 8 + (nL2 + 11) + 40 * lv2 ≤ R.locals
  omega

theorem k_callSi (C : Cx g X cc nL own lvl)  {r : Int32} (lk : LkS own idx y cc2 nL2 ret2 n) (hM : ∀ l, Mi g l y cc2 nL2 ret2 lv2 (As) w r w') (hlv : Nat.ble (lv2 + 1) lvl = true) (hnl : Nat.ble nL2 21 = true) (hcell : X.2.2.2.2.2.2.2.2.2.2.2.1 ≤ X.2.2.2.1.cells ∧ X.2.2.2.2.2.2.2.2.2.2.2.2 ≤ X.2.2.2.1.slots) (hst : st = As.reverse ++ rest) (hn : As.length = n) (hcat : Nat.ble (rest.map fun v => v.category).sum 8 = true) (hd : decode cc pc = .ok (.invokestatic idx, 3)) (h : Wk g X nL (pc + 3) loc (.int r :: rest) w') : Wk g X nL pc loc st w := by
  obtain ⟨p, l, e, R, s, m, args, below, meth, c, Q, cells, slots⟩ := X
  obtain ⟨hx, hb, hml, hown, hts, hK, hg, hbs, hfr, hlo, hnw⟩ := C
  subst hst
  refine fun H locs ls hP hS hl => va_calli (va_runS (As := As) (rest := rest) ⟨hx, hb, hml, hown, hts⟩ (hM l) (lk R s args lv2 hts (lv_need hlv hnl hfr hlo)) ⟨wat_blind, fun U hU hW => ⟨rfl, ⟨by rw [hU]; exact hP, va_K.moved hW.alike hK, by rw [hU]; exact Nat.le_trans hbs hS.1⟩, hnw.warm hW⟩⟩ rfl hn hl.1 rfl (lv_room (Nat.le_of_ble_eq_true hcat)) hd hcell) hS (fun _ _ h => h) (fun _ h => h) (fun r1 _ t H1 locs1 ht hvm hw hB hz1 hk1 hS1 => ?_)
  cases hw
  obtain ⟨hB1, -, -⟩ := hB
  rw [ht] at hB1
  exact h H1 locs1 ls hB1 hS1 hl

theorem k_callTi (C : Cx g X cc nL own lvl)  {r : Int32} {host : String} (lk : LkT own idx y host cc2 nL2 ret2 n) (hM : ∀ l, Mi g l y cc2 nL2 ret2 lv2 (As) w r w') (hlv : Nat.ble (lv2 + 1) lvl = true) (hnl : Nat.ble nL2 21 = true) (hcell : X.2.2.2.2.2.2.2.2.2.2.2.1 ≤ X.2.2.2.1.cells ∧ X.2.2.2.2.2.2.2.2.2.2.2.2 ≤ X.2.2.2.1.slots) (hst : st = As.reverse ++ rest) (hn : As.length = n) (hcat : Nat.ble (rest.map fun v => v.category).sum 8 = true) (hd : decode cc pc = .ok (.invokestatic idx, 3)) (h : Wk g X nL (pc + 3) loc (.int r :: rest) w') : Wk g X nL pc loc st w := by
  obtain ⟨p, l, e, R, s, m, args, below, meth, c, Q, cells, slots⟩ := X
  obtain ⟨hx, hb, hml, hown, hts, hK, hg, hbs, hfr, hlo, hnw⟩ := C
  subst hst
  refine fun H locs ls hP hS hl => va_calli (va_runSN (As := As) (rest := rest) ⟨hx, hb, hml, hown, hts⟩ (hM l) (lk R s args lv2 hts hnw (lv_need hlv hnl hfr hlo)) ⟨wat_blind, fun U hU hW => ⟨rfl, ⟨by rw [hU]; exact hP, va_K.moved hW.alike hK, by rw [hU]; exact Nat.le_trans hbs hS.1⟩, hnw.warm hW⟩⟩ rfl hn hl.1 rfl (lv_room (Nat.le_of_ble_eq_true hcat)) hd hcell) hS (fun _ _ h => h) (fun _ h => h) (fun r1 _ t H1 locs1 ht hvm hw hB hz1 hk1 hS1 => ?_)
  cases hw
  obtain ⟨hB1, -, -⟩ := hB
  rw [ht] at hB1
  exact h H1 locs1 ls hB1 hS1 hl

theorem k_callVi (C : Cx g X cc nL own lvl) {o ci N : Nat} {T : u_T} {fs : List Value}  {r : Int32} {Cn : String} (lk : LkV own Cn idx y cc2 nL2 ret2 n) (hM : ∀ l, Mi g l y cc2 nL2 ret2 lv2 (.ref (g_a g o) :: As) w r w') (hlv : Nat.ble (lv2 + 1) lvl = true) (hnl : Nat.ble nL2 21 = true) (hcell : X.2.2.2.2.2.2.2.2.2.2.2.1 ≤ X.2.2.2.1.cells ∧ X.2.2.2.2.2.2.2.2.2.2.2.2 ≤ X.2.2.2.1.slots) (ho : o < 105) (he : shW g w o = .inr (ci, fs)) (hc : vcls[ci]? = some (Cn, T, N)) (hst : st = As.reverse ++ .ref (g_a g o) :: rest) (hn : As.length = n) (hcat : Nat.ble (rest.map fun v => v.category).sum 8 = true) (hd : decode cc pc = .ok (.invokevirtual idx, 3)) (h : Wk g X nL (pc + 3) loc (.int r :: rest) w') : Wk g X nL pc loc st w := by
  obtain ⟨p, l, e, R, s, m, args, below, meth, c, Q, cells, slots⟩ := X
  obtain ⟨hx, hb, hml, hown, hts, hK, hg, hbs, hfr, hlo, hnw⟩ := C
  subst hst
  refine fun H locs ls hP hS hl => va_calli (va_runV (As := As) (rest := rest) ⟨hx, hb, hml, hown, hts⟩ (hM l) (lk R s args lv2 hts (lv_need hlv hnl hfr hlo)) ⟨wat_blind, va_recv (q := (Cn, T, N)) hK hP hc (q0 := o) (by rw [wl_at ho, he]), fun U hU hW => ⟨rfl, ⟨by rw [hU]; exact hP, va_K.moved hW.alike hK, by rw [hU]; exact Nat.le_trans hbs hS.1⟩, hnw.warm hW⟩⟩ rfl hn hl.1 rfl (lv_room (Nat.le_of_ble_eq_true hcat)) hd hcell) hS (fun _ _ h => h) (fun _ h => h) (fun r1 _ t H1 locs1 ht hvm hw hB hz1 hk1 hS1 => ?_)
  cases hw
  obtain ⟨hB1, -, -⟩ := hB
  rw [ht] at hB1
  exact h H1 locs1 ls hB1 hS1 hl

theorem k_callUi (C : Cx g X cc nL own lvl) {o ci N : Nat} {T : u_T} {fs : List Value}  {r : Int32} {Cn owner : String} {x : MethodName} (lk : LkU own Cn owner idx x y cc2 nL2 ret2 n) (hM : ∀ l, Mi g l y cc2 nL2 ret2 lv2 (.ref (g_a g o) :: As) w r w') (hlv : Nat.ble (lv2 + 1) lvl = true) (hnl : Nat.ble nL2 21 = true) (hcell : X.2.2.2.2.2.2.2.2.2.2.2.1 ≤ X.2.2.2.1.cells ∧ X.2.2.2.2.2.2.2.2.2.2.2.2 ≤ X.2.2.2.1.slots) (ho : o < 105) (he : shW g w o = .inr (ci, fs)) (hc : vcls[ci]? = some (Cn, T, N)) (hst : st = As.reverse ++ .ref (g_a g o) :: rest) (hn : As.length = n) (hcat : Nat.ble (rest.map fun v => v.category).sum 8 = true) (hd : decode cc pc = .ok (.invokevirtual idx, 3)) (h : Wk g X nL (pc + 3) loc (.int r :: rest) w') : Wk g X nL pc loc st w := by
  obtain ⟨p, l, e, R, s, m, args, below, meth, c, Q, cells, slots⟩ := X
  obtain ⟨hx, hb, hml, hown, hts, hK, hg, hbs, hfr, hlo, hnw⟩ := C
  subst hst
  refine fun H locs ls hP hS hl => va_calli (va_runU (As := As) (rest := rest) ⟨hx, hb, hml, hown, hts⟩ (hM l) (lk R s args lv2 hts (lv_need hlv hnl hfr hlo)) ⟨wat_blind, va_recv (q := (Cn, T, N)) hK hP hc (q0 := o) (by rw [wl_at ho, he]), fun U hU hW => ⟨rfl, ⟨by rw [hU]; exact hP, va_K.moved hW.alike hK, by rw [hU]; exact Nat.le_trans hbs hS.1⟩, hnw.warm hW⟩⟩ rfl hn hl.1 rfl (lv_room (Nat.le_of_ble_eq_true hcat)) hd hcell) hS (fun _ _ h => h) (fun _ h => h) (fun r1 _ t H1 locs1 ht hvm hw hB hz1 hk1 hS1 => ?_)
  cases hw
  obtain ⟨hB1, -, -⟩ := hB
  rw [ht] at hB1
  exact h H1 locs1 ls hB1 hS1 hl

theorem k_callPi (C : Cx g X cc nL own lvl) {o ci N : Nat} {T : u_T} {fs : List Value}  {r : Int32} {Cn : String} (lk : LkP own idx y cc2 nL2 ret2 n) (hM : ∀ l, Mi g l y cc2 nL2 ret2 lv2 (.ref (g_a g o) :: As) w r w') (hlv : Nat.ble (lv2 + 1) lvl = true) (hnl : Nat.ble nL2 21 = true) (hcell : X.2.2.2.2.2.2.2.2.2.2.2.1 ≤ X.2.2.2.1.cells ∧ X.2.2.2.2.2.2.2.2.2.2.2.2 ≤ X.2.2.2.1.slots) (ho : o < 105) (he : shW g w o = .inr (ci, fs)) (hc : vcls[ci]? = some (Cn, T, N)) (hst : st = As.reverse ++ .ref (g_a g o) :: rest) (hn : As.length = n) (hcat : Nat.ble (rest.map fun v => v.category).sum 8 = true) (hd : decode cc pc = .ok (.invokespecial idx, 3)) (h : Wk g X nL (pc + 3) loc (.int r :: rest) w') : Wk g X nL pc loc st w := by
  obtain ⟨p, l, e, R, s, m, args, below, meth, c, Q, cells, slots⟩ := X
  obtain ⟨hx, hb, hml, hown, hts, hK, hg, hbs, hfr, hlo, hnw⟩ := C
  subst hst
  refine fun H locs ls hP hS hl => va_calli (va_runSU (As := As) (rest := rest) (hK.1 ci _ hc).2 ⟨hx, hb, hml, hown, hts⟩ (hM l) (lk R s args lv2 hts (lv_need hlv hnl hfr hlo)) ⟨wat_blind, va_recv (q := (Cn, T, N)) hK hP hc (q0 := o) (by rw [wl_at ho, he]), fun U hU hW => ⟨rfl, ⟨by rw [hU]; exact hP, va_K.moved hW.alike hK, by rw [hU]; exact Nat.le_trans hbs hS.1⟩, hnw.warm hW⟩⟩ rfl hn hl.1 rfl (lv_room (Nat.le_of_ble_eq_true hcat)) hd hcell) hS (fun _ _ h => h) (fun _ h => h) (fun r1 _ t H1 locs1 ht hvm hw hB hz1 hk1 hS1 => ?_)
  cases hw
  obtain ⟨hB1, -, -⟩ := hB
  rw [ht] at hB1
  exact h H1 locs1 ls hB1 hS1 hl

theorem k_callSl (C : Cx g X cc nL own lvl)  {r : Int64} (lk : LkS own idx y cc2 nL2 ret2 n) (hM : ∀ l, Ml g l y cc2 nL2 ret2 lv2 (As) w r w') (hlv : Nat.ble (lv2 + 1) lvl = true) (hnl : Nat.ble nL2 21 = true) (hcell : X.2.2.2.2.2.2.2.2.2.2.2.1 ≤ X.2.2.2.1.cells ∧ X.2.2.2.2.2.2.2.2.2.2.2.2 ≤ X.2.2.2.1.slots) (hst : st = As.reverse ++ rest) (hn : As.length = n) (hcat : Nat.ble (rest.map fun v => v.category).sum 8 = true) (hd : decode cc pc = .ok (.invokestatic idx, 3)) (h : Wk g X nL (pc + 3) loc (.long r :: rest) w') : Wk g X nL pc loc st w := by
  obtain ⟨p, l, e, R, s, m, args, below, meth, c, Q, cells, slots⟩ := X
  obtain ⟨hx, hb, hml, hown, hts, hK, hg, hbs, hfr, hlo, hnw⟩ := C
  subst hst
  refine fun H locs ls hP hS hl => va_calll (va_runS (As := As) (rest := rest) ⟨hx, hb, hml, hown, hts⟩ (hM l) (lk R s args lv2 hts (lv_need hlv hnl hfr hlo)) ⟨wat_blind, fun U hU hW => ⟨rfl, ⟨by rw [hU]; exact hP, va_K.moved hW.alike hK, by rw [hU]; exact Nat.le_trans hbs hS.1⟩, hnw.warm hW⟩⟩ rfl hn hl.1 rfl (lv_room (Nat.le_of_ble_eq_true hcat)) hd hcell) hS (fun _ _ h => h) (fun _ h => h) (fun r1 _ t H1 locs1 ht hvm hw hB hz1 hk1 hS1 => ?_)
  cases hw
  obtain ⟨hB1, -, -⟩ := hB
  rw [ht] at hB1
  exact h H1 locs1 ls hB1 hS1 hl

theorem k_callTl (C : Cx g X cc nL own lvl)  {r : Int64} {host : String} (lk : LkT own idx y host cc2 nL2 ret2 n) (hM : ∀ l, Ml g l y cc2 nL2 ret2 lv2 (As) w r w') (hlv : Nat.ble (lv2 + 1) lvl = true) (hnl : Nat.ble nL2 21 = true) (hcell : X.2.2.2.2.2.2.2.2.2.2.2.1 ≤ X.2.2.2.1.cells ∧ X.2.2.2.2.2.2.2.2.2.2.2.2 ≤ X.2.2.2.1.slots) (hst : st = As.reverse ++ rest) (hn : As.length = n) (hcat : Nat.ble (rest.map fun v => v.category).sum 8 = true) (hd : decode cc pc = .ok (.invokestatic idx, 3)) (h : Wk g X nL (pc + 3) loc (.long r :: rest) w') : Wk g X nL pc loc st w := by
  obtain ⟨p, l, e, R, s, m, args, below, meth, c, Q, cells, slots⟩ := X
  obtain ⟨hx, hb, hml, hown, hts, hK, hg, hbs, hfr, hlo, hnw⟩ := C
  subst hst
  refine fun H locs ls hP hS hl => va_calll (va_runSN (As := As) (rest := rest) ⟨hx, hb, hml, hown, hts⟩ (hM l) (lk R s args lv2 hts hnw (lv_need hlv hnl hfr hlo)) ⟨wat_blind, fun U hU hW => ⟨rfl, ⟨by rw [hU]; exact hP, va_K.moved hW.alike hK, by rw [hU]; exact Nat.le_trans hbs hS.1⟩, hnw.warm hW⟩⟩ rfl hn hl.1 rfl (lv_room (Nat.le_of_ble_eq_true hcat)) hd hcell) hS (fun _ _ h => h) (fun _ h => h) (fun r1 _ t H1 locs1 ht hvm hw hB hz1 hk1 hS1 => ?_)
  cases hw
  obtain ⟨hB1, -, -⟩ := hB
  rw [ht] at hB1
  exact h H1 locs1 ls hB1 hS1 hl

theorem k_callVl (C : Cx g X cc nL own lvl) {o ci N : Nat} {T : u_T} {fs : List Value}  {r : Int64} {Cn : String} (lk : LkV own Cn idx y cc2 nL2 ret2 n) (hM : ∀ l, Ml g l y cc2 nL2 ret2 lv2 (.ref (g_a g o) :: As) w r w') (hlv : Nat.ble (lv2 + 1) lvl = true) (hnl : Nat.ble nL2 21 = true) (hcell : X.2.2.2.2.2.2.2.2.2.2.2.1 ≤ X.2.2.2.1.cells ∧ X.2.2.2.2.2.2.2.2.2.2.2.2 ≤ X.2.2.2.1.slots) (ho : o < 105) (he : shW g w o = .inr (ci, fs)) (hc : vcls[ci]? = some (Cn, T, N)) (hst : st = As.reverse ++ .ref (g_a g o) :: rest) (hn : As.length = n) (hcat : Nat.ble (rest.map fun v => v.category).sum 8 = true) (hd : decode cc pc = .ok (.invokevirtual idx, 3)) (h : Wk g X nL (pc + 3) loc (.long r :: rest) w') : Wk g X nL pc loc st w := by
  obtain ⟨p, l, e, R, s, m, args, below, meth, c, Q, cells, slots⟩ := X
  obtain ⟨hx, hb, hml, hown, hts, hK, hg, hbs, hfr, hlo, hnw⟩ := C
  subst hst
  refine fun H locs ls hP hS hl => va_calll (va_runV (As := As) (rest := rest) ⟨hx, hb, hml, hown, hts⟩ (hM l) (lk R s args lv2 hts (lv_need hlv hnl hfr hlo)) ⟨wat_blind, va_recv (q := (Cn, T, N)) hK hP hc (q0 := o) (by rw [wl_at ho, he]), fun U hU hW => ⟨rfl, ⟨by rw [hU]; exact hP, va_K.moved hW.alike hK, by rw [hU]; exact Nat.le_trans hbs hS.1⟩, hnw.warm hW⟩⟩ rfl hn hl.1 rfl (lv_room (Nat.le_of_ble_eq_true hcat)) hd hcell) hS (fun _ _ h => h) (fun _ h => h) (fun r1 _ t H1 locs1 ht hvm hw hB hz1 hk1 hS1 => ?_)
  cases hw
  obtain ⟨hB1, -, -⟩ := hB
  rw [ht] at hB1
  exact h H1 locs1 ls hB1 hS1 hl

theorem k_callUl (C : Cx g X cc nL own lvl) {o ci N : Nat} {T : u_T} {fs : List Value}  {r : Int64} {Cn owner : String} {x : MethodName} (lk : LkU own Cn owner idx x y cc2 nL2 ret2 n) (hM : ∀ l, Ml g l y cc2 nL2 ret2 lv2 (.ref (g_a g o) :: As) w r w') (hlv : Nat.ble (lv2 + 1) lvl = true) (hnl : Nat.ble nL2 21 = true) (hcell : X.2.2.2.2.2.2.2.2.2.2.2.1 ≤ X.2.2.2.1.cells ∧ X.2.2.2.2.2.2.2.2.2.2.2.2 ≤ X.2.2.2.1.slots) (ho : o < 105) (he : shW g w o = .inr (ci, fs)) (hc : vcls[ci]? = some (Cn, T, N)) (hst : st = As.reverse ++ .ref (g_a g o) :: rest) (hn : As.length = n) (hcat : Nat.ble (rest.map fun v => v.category).sum 8 = true) (hd : decode cc pc = .ok (.invokevirtual idx, 3)) (h : Wk g X nL (pc + 3) loc (.long r :: rest) w') : Wk g X nL pc loc st w := by
  obtain ⟨p, l, e, R, s, m, args, below, meth, c, Q, cells, slots⟩ := X
  obtain ⟨hx, hb, hml, hown, hts, hK, hg, hbs, hfr, hlo, hnw⟩ := C
  subst hst
  refine fun H locs ls hP hS hl => va_calll (va_runU (As := As) (rest := rest) ⟨hx, hb, hml, hown, hts⟩ (hM l) (lk R s args lv2 hts (lv_need hlv hnl hfr hlo)) ⟨wat_blind, va_recv (q := (Cn, T, N)) hK hP hc (q0 := o) (by rw [wl_at ho, he]), fun U hU hW => ⟨rfl, ⟨by rw [hU]; exact hP, va_K.moved hW.alike hK, by rw [hU]; exact Nat.le_trans hbs hS.1⟩, hnw.warm hW⟩⟩ rfl hn hl.1 rfl (lv_room (Nat.le_of_ble_eq_true hcat)) hd hcell) hS (fun _ _ h => h) (fun _ h => h) (fun r1 _ t H1 locs1 ht hvm hw hB hz1 hk1 hS1 => ?_)
  cases hw
  obtain ⟨hB1, -, -⟩ := hB
  rw [ht] at hB1
  exact h H1 locs1 ls hB1 hS1 hl

theorem k_callPl (C : Cx g X cc nL own lvl) {o ci N : Nat} {T : u_T} {fs : List Value}  {r : Int64} {Cn : String} (lk : LkP own idx y cc2 nL2 ret2 n) (hM : ∀ l, Ml g l y cc2 nL2 ret2 lv2 (.ref (g_a g o) :: As) w r w') (hlv : Nat.ble (lv2 + 1) lvl = true) (hnl : Nat.ble nL2 21 = true) (hcell : X.2.2.2.2.2.2.2.2.2.2.2.1 ≤ X.2.2.2.1.cells ∧ X.2.2.2.2.2.2.2.2.2.2.2.2 ≤ X.2.2.2.1.slots) (ho : o < 105) (he : shW g w o = .inr (ci, fs)) (hc : vcls[ci]? = some (Cn, T, N)) (hst : st = As.reverse ++ .ref (g_a g o) :: rest) (hn : As.length = n) (hcat : Nat.ble (rest.map fun v => v.category).sum 8 = true) (hd : decode cc pc = .ok (.invokespecial idx, 3)) (h : Wk g X nL (pc + 3) loc (.long r :: rest) w') : Wk g X nL pc loc st w := by
  obtain ⟨p, l, e, R, s, m, args, below, meth, c, Q, cells, slots⟩ := X
  obtain ⟨hx, hb, hml, hown, hts, hK, hg, hbs, hfr, hlo, hnw⟩ := C
  subst hst
  refine fun H locs ls hP hS hl => va_calll (va_runSU (As := As) (rest := rest) (hK.1 ci _ hc).2 ⟨hx, hb, hml, hown, hts⟩ (hM l) (lk R s args lv2 hts (lv_need hlv hnl hfr hlo)) ⟨wat_blind, va_recv (q := (Cn, T, N)) hK hP hc (q0 := o) (by rw [wl_at ho, he]), fun U hU hW => ⟨rfl, ⟨by rw [hU]; exact hP, va_K.moved hW.alike hK, by rw [hU]; exact Nat.le_trans hbs hS.1⟩, hnw.warm hW⟩⟩ rfl hn hl.1 rfl (lv_room (Nat.le_of_ble_eq_true hcat)) hd hcell) hS (fun _ _ h => h) (fun _ h => h) (fun r1 _ t H1 locs1 ht hvm hw hB hz1 hk1 hS1 => ?_)
  cases hw
  obtain ⟨hB1, -, -⟩ := hB
  rw [ht] at hB1
  exact h H1 locs1 ls hB1 hS1 hl

theorem k_callSv (C : Cx g X cc nL own lvl)  (lk : LkS own idx y cc2 nL2 ret2 n) (hM : ∀ l, Mv g l y cc2 nL2 ret2 lv2 (As) w w') (hlv : Nat.ble (lv2 + 1) lvl = true) (hnl : Nat.ble nL2 21 = true) (hcell : X.2.2.2.2.2.2.2.2.2.2.2.1 ≤ X.2.2.2.1.cells ∧ X.2.2.2.2.2.2.2.2.2.2.2.2 ≤ X.2.2.2.1.slots) (hst : st = As.reverse ++ rest) (hn : As.length = n) (hcat : Nat.ble (rest.map fun v => v.category).sum 8 = true) (hd : decode cc pc = .ok (.invokestatic idx, 3)) (h : Wk g X nL (pc + 3) loc (rest) w') : Wk g X nL pc loc st w := by
  obtain ⟨p, l, e, R, s, m, args, below, meth, c, Q, cells, slots⟩ := X
  obtain ⟨hx, hb, hml, hown, hts, hK, hg, hbs, hfr, hlo, hnw⟩ := C
  subst hst
  refine fun H locs ls hP hS hl => va_callv (va_runS (As := As) (rest := rest) ⟨hx, hb, hml, hown, hts⟩ (hM l) (lk R s args lv2 hts (lv_need hlv hnl hfr hlo)) ⟨wat_blind, fun U hU hW => ⟨rfl, ⟨by rw [hU]; exact hP, va_K.moved hW.alike hK, by rw [hU]; exact Nat.le_trans hbs hS.1⟩, hnw.warm hW⟩⟩ rfl hn hl.1 rfl (lv_room (Nat.le_of_ble_eq_true hcat)) hd hcell) hS (fun _ _ h => h) (fun _ h => h) (fun _ t H1 locs1 ht hvm hw hB hz1 hk1 hS1 => ?_)
  obtain ⟨hB1, -, -⟩ := hB
  rw [ht] at hB1
  exact h H1 locs1 ls hB1 hS1 hl

theorem k_callTv (C : Cx g X cc nL own lvl)  {host : String} (lk : LkT own idx y host cc2 nL2 ret2 n) (hM : ∀ l, Mv g l y cc2 nL2 ret2 lv2 (As) w w') (hlv : Nat.ble (lv2 + 1) lvl = true) (hnl : Nat.ble nL2 21 = true) (hcell : X.2.2.2.2.2.2.2.2.2.2.2.1 ≤ X.2.2.2.1.cells ∧ X.2.2.2.2.2.2.2.2.2.2.2.2 ≤ X.2.2.2.1.slots) (hst : st = As.reverse ++ rest) (hn : As.length = n) (hcat : Nat.ble (rest.map fun v => v.category).sum 8 = true) (hd : decode cc pc = .ok (.invokestatic idx, 3)) (h : Wk g X nL (pc + 3) loc (rest) w') : Wk g X nL pc loc st w := by
  obtain ⟨p, l, e, R, s, m, args, below, meth, c, Q, cells, slots⟩ := X
  obtain ⟨hx, hb, hml, hown, hts, hK, hg, hbs, hfr, hlo, hnw⟩ := C
  subst hst
  refine fun H locs ls hP hS hl => va_callv (va_runSN (As := As) (rest := rest) ⟨hx, hb, hml, hown, hts⟩ (hM l) (lk R s args lv2 hts hnw (lv_need hlv hnl hfr hlo)) ⟨wat_blind, fun U hU hW => ⟨rfl, ⟨by rw [hU]; exact hP, va_K.moved hW.alike hK, by rw [hU]; exact Nat.le_trans hbs hS.1⟩, hnw.warm hW⟩⟩ rfl hn hl.1 rfl (lv_room (Nat.le_of_ble_eq_true hcat)) hd hcell) hS (fun _ _ h => h) (fun _ h => h) (fun _ t H1 locs1 ht hvm hw hB hz1 hk1 hS1 => ?_)
  obtain ⟨hB1, -, -⟩ := hB
  rw [ht] at hB1
  exact h H1 locs1 ls hB1 hS1 hl

theorem k_callVv (C : Cx g X cc nL own lvl) {o ci N : Nat} {T : u_T} {fs : List Value}  {Cn : String} (lk : LkV own Cn idx y cc2 nL2 ret2 n) (hM : ∀ l, Mv g l y cc2 nL2 ret2 lv2 (.ref (g_a g o) :: As) w w') (hlv : Nat.ble (lv2 + 1) lvl = true) (hnl : Nat.ble nL2 21 = true) (hcell : X.2.2.2.2.2.2.2.2.2.2.2.1 ≤ X.2.2.2.1.cells ∧ X.2.2.2.2.2.2.2.2.2.2.2.2 ≤ X.2.2.2.1.slots) (ho : o < 105) (he : shW g w o = .inr (ci, fs)) (hc : vcls[ci]? = some (Cn, T, N)) (hst : st = As.reverse ++ .ref (g_a g o) :: rest) (hn : As.length = n) (hcat : Nat.ble (rest.map fun v => v.category).sum 8 = true) (hd : decode cc pc = .ok (.invokevirtual idx, 3)) (h : Wk g X nL (pc + 3) loc (rest) w') : Wk g X nL pc loc st w := by
  obtain ⟨p, l, e, R, s, m, args, below, meth, c, Q, cells, slots⟩ := X
  obtain ⟨hx, hb, hml, hown, hts, hK, hg, hbs, hfr, hlo, hnw⟩ := C
  subst hst
  refine fun H locs ls hP hS hl => va_callv (va_runV (As := As) (rest := rest) ⟨hx, hb, hml, hown, hts⟩ (hM l) (lk R s args lv2 hts (lv_need hlv hnl hfr hlo)) ⟨wat_blind, va_recv (q := (Cn, T, N)) hK hP hc (q0 := o) (by rw [wl_at ho, he]), fun U hU hW => ⟨rfl, ⟨by rw [hU]; exact hP, va_K.moved hW.alike hK, by rw [hU]; exact Nat.le_trans hbs hS.1⟩, hnw.warm hW⟩⟩ rfl hn hl.1 rfl (lv_room (Nat.le_of_ble_eq_true hcat)) hd hcell) hS (fun _ _ h => h) (fun _ h => h) (fun _ t H1 locs1 ht hvm hw hB hz1 hk1 hS1 => ?_)
  obtain ⟨hB1, -, -⟩ := hB
  rw [ht] at hB1
  exact h H1 locs1 ls hB1 hS1 hl

theorem k_callUv (C : Cx g X cc nL own lvl) {o ci N : Nat} {T : u_T} {fs : List Value}  {Cn owner : String} {x : MethodName} (lk : LkU own Cn owner idx x y cc2 nL2 ret2 n) (hM : ∀ l, Mv g l y cc2 nL2 ret2 lv2 (.ref (g_a g o) :: As) w w') (hlv : Nat.ble (lv2 + 1) lvl = true) (hnl : Nat.ble nL2 21 = true) (hcell : X.2.2.2.2.2.2.2.2.2.2.2.1 ≤ X.2.2.2.1.cells ∧ X.2.2.2.2.2.2.2.2.2.2.2.2 ≤ X.2.2.2.1.slots) (ho : o < 105) (he : shW g w o = .inr (ci, fs)) (hc : vcls[ci]? = some (Cn, T, N)) (hst : st = As.reverse ++ .ref (g_a g o) :: rest) (hn : As.length = n) (hcat : Nat.ble (rest.map fun v => v.category).sum 8 = true) (hd : decode cc pc = .ok (.invokevirtual idx, 3)) (h : Wk g X nL (pc + 3) loc (rest) w') : Wk g X nL pc loc st w := by
  obtain ⟨p, l, e, R, s, m, args, below, meth, c, Q, cells, slots⟩ := X
  obtain ⟨hx, hb, hml, hown, hts, hK, hg, hbs, hfr, hlo, hnw⟩ := C
  subst hst
  refine fun H locs ls hP hS hl => va_callv (va_runU (As := As) (rest := rest) ⟨hx, hb, hml, hown, hts⟩ (hM l) (lk R s args lv2 hts (lv_need hlv hnl hfr hlo)) ⟨wat_blind, va_recv (q := (Cn, T, N)) hK hP hc (q0 := o) (by rw [wl_at ho, he]), fun U hU hW => ⟨rfl, ⟨by rw [hU]; exact hP, va_K.moved hW.alike hK, by rw [hU]; exact Nat.le_trans hbs hS.1⟩, hnw.warm hW⟩⟩ rfl hn hl.1 rfl (lv_room (Nat.le_of_ble_eq_true hcat)) hd hcell) hS (fun _ _ h => h) (fun _ h => h) (fun _ t H1 locs1 ht hvm hw hB hz1 hk1 hS1 => ?_)
  obtain ⟨hB1, -, -⟩ := hB
  rw [ht] at hB1
  exact h H1 locs1 ls hB1 hS1 hl

theorem k_callPv (C : Cx g X cc nL own lvl) {o ci N : Nat} {T : u_T} {fs : List Value}  {Cn : String} (lk : LkP own idx y cc2 nL2 ret2 n) (hM : ∀ l, Mv g l y cc2 nL2 ret2 lv2 (.ref (g_a g o) :: As) w w') (hlv : Nat.ble (lv2 + 1) lvl = true) (hnl : Nat.ble nL2 21 = true) (hcell : X.2.2.2.2.2.2.2.2.2.2.2.1 ≤ X.2.2.2.1.cells ∧ X.2.2.2.2.2.2.2.2.2.2.2.2 ≤ X.2.2.2.1.slots) (ho : o < 105) (he : shW g w o = .inr (ci, fs)) (hc : vcls[ci]? = some (Cn, T, N)) (hst : st = As.reverse ++ .ref (g_a g o) :: rest) (hn : As.length = n) (hcat : Nat.ble (rest.map fun v => v.category).sum 8 = true) (hd : decode cc pc = .ok (.invokespecial idx, 3)) (h : Wk g X nL (pc + 3) loc (rest) w') : Wk g X nL pc loc st w := by
  obtain ⟨p, l, e, R, s, m, args, below, meth, c, Q, cells, slots⟩ := X
  obtain ⟨hx, hb, hml, hown, hts, hK, hg, hbs, hfr, hlo, hnw⟩ := C
  subst hst
  refine fun H locs ls hP hS hl => va_callv (va_runSU (As := As) (rest := rest) (hK.1 ci _ hc).2 ⟨hx, hb, hml, hown, hts⟩ (hM l) (lk R s args lv2 hts (lv_need hlv hnl hfr hlo)) ⟨wat_blind, va_recv (q := (Cn, T, N)) hK hP hc (q0 := o) (by rw [wl_at ho, he]), fun U hU hW => ⟨rfl, ⟨by rw [hU]; exact hP, va_K.moved hW.alike hK, by rw [hU]; exact Nat.le_trans hbs hS.1⟩, hnw.warm hW⟩⟩ rfl hn hl.1 rfl (lv_room (Nat.le_of_ble_eq_true hcat)) hd hcell) hS (fun _ _ h => h) (fun _ h => h) (fun _ t H1 locs1 ht hvm hw hB hz1 hk1 hS1 => ?_)
  obtain ⟨hB1, -, -⟩ := hB
  rw [ht] at hB1
  exact h H1 locs1 ls hB1 hS1 hl

end CL

/-! THE CLAIM OUT OF ONE WALK OF THE LAW'S BODY. Your part is whole_start (and what it stands on); all else here is the same for every law, but numbers. -/
def R_law : String := "HiredByLongingLaw"
def lw_P (b : Addr) (xs : List Int32) (args : Array Value) (s : State) : Prop := args = #[.ref b] ∧ s.IntsAt b xs ∧ xs.length ≤ 3072 ∧ (Jvm.Cond.and given_1 narrow_1).before args s = true
def lw_Q (_ : Array Value) (s : State) (o : Outcome) (t : State) : Prop := o = .returned (some (.int 1)) ∧ Framed s o t [] 601024 7293034
def lw_Z (below : List Frame) (a : Array Value) (s : State) : State → Prop := fun t => ∃ o, t.status = .running ∧ Ended t below o ∧ lw_Q a s o t
/-- the law's own end, with 1 on the stack, nothing written that was there before, its room as the claim has it -/
theorem lw_ret {p : Program} {l : Launch} {e : Env} {s : State} {m : MethodId} {below : List Frame} {meth : Method} {c : Code} {b : Nat} (hx : p.tables.exec = Jvm.exec) (hb : c.code = code) (hr : meth.sig.returnType = ret) (hlocks : meth.locks = false) {pc : Nat} {H : Heap} {ls : Array Slot} (hdg : decode code pc = .ok (.ireturn, 1)) : W p l e room_1 s m #[Value.ref b] below meth c H [] 601024 7293034 (lw_Z below #[Value.ref b] s) (F0 m pc ls [.int 1]) := by
  intro T hT X
  obtain ⟨fs, hret, hrun, hended, hW, hframe⟩ := X.leave (v := some (.int 1)) (hlocks := hlocks) (fun h => by rw [hr] at h; cases h)
  have hmeth' : T.vm.method? m = some meth := X.method'
  refine ⟨T.setFrames fs, ?_, .returned (some (.int 1)), hrun, hended, rfl, ⟨_, rfl⟩, hW, hframe⟩
  jvm_step X.here [X.here.top, hx, hb, hdg, hmeth', hr, ret, narrow_b1]
  (try refine ⟨rfl, ?_⟩); (try refine ⟨rfl, ?_⟩)
  first | (intro acts; rw [hret _ acts rfl rfl rfl]) | rw [hret _ _ rfl rfl rfl]
  exact Steps.refl _
/-- what holds at the law's entry: the machine, the code, the tables' words (any of lw_tbl by 'hts w (by decide +kernel)'), the script of L ints xs at the cell b, what the Statement gives of the start (any of its parts by flat_of_before) -/
def lw_At (p : Program) (s : State) (m : MethodId) (meth : Method) (c : Code) (b L : Nat) (xs : Nat → Int32) : Prop :=
  p.tables.exec = Jvm.exec ∧ c.code = code ∧ meth.sig.returnType = ret ∧ c.maxLocals = 8 ∧ s.vm.findClass R_law = some m.cls ∧ (∀ w ∈ lw_tbl, w.before #[Value.ref b] s = true) ∧ va_X b L xs s s.heap ∧ b < s.heap.size ∧ meth.locks = false ∧ (Jvm.Cond.and given_1 narrow_1).before #[Value.ref b] s = true
/-! THE LAW: the two throwing calls, one round, the loop. -/
theorem xz_t1 : Cond.methodLink n_Lw 194 y_Hb_toss ∈ TW := tw_of 800 (by decide +kernel) (by decide +kernel)
theorem xz_t2 : Cond.instanceMethod y_Hb_toss ∈ TW := tw_of 801 (by decide +kernel) (by decide +kernel)
theorem xz_t3 : Cond.selects n_Hb y_Hb_toss y_Hb_toss ∈ TW := tw_of 802 (by decide +kernel) (by decide +kernel)
theorem xz_t4 : Cond.initialized n_Hb ∈ TW := tw_of 52 (by decide +kernel) (by decide +kernel)
theorem xz_t5 : Cond.codeWith y_Hb_toss c_Hb_toss 6 (some .int) hh_toss ∈ TW := tw_of 803 (by decide +kernel) (by decide +kernel)
theorem xz_e1 : Cond.methodLink n_Lw 176 y_Lw_element ∈ TW := tw_of 925 (by decide +kernel) (by decide +kernel)
theorem xz_e2 : Cond.static y_Lw_element ∈ TW := tw_of 926 (by decide +kernel) (by decide +kernel)
theorem xz_e3 : Cond.initialized n_Lw ∈ TW := tw_of 51 (by decide +kernel) (by decide +kernel)
theorem xz_e4 : Cond.codeWith y_Lw_element c_Lw_element 5 (some .int) hh_elem ∈ TW := tw_of 927 (by decide +kernel) (by decide +kernel)
theorem k_wd2 {g : GC} {p : Program} {l : Launch} {e : Env} {R : Room} {s : State} {m : MethodId} {args : Array Value} {below : List Frame} {meth : Method} {c : Code} {Q : State → Prop} {cells slots nL pc : Nat} {loc : List (Nat × Value)} {st : List Value} {w : WD} (h : Wk g (p, l, e, R, s, m, args, below, meth, c, Q, cells + 1, slots + 6) nL pc loc st w) : Wk g (p, l, e, R, s, m, args, below, meth, c, Q, cells, slots) nL pc loc st w := fun H locs ls hP hS hl => W.widen (by omega) (by omega) (h H locs ls hP hS hl)
section CS
variable {g : GC} {p : Program} {l : Launch} {e : Env} {R : Room} {s : State} {m : MethodId} {args : Array Value} {below : List Frame} {meth : Method} {c : Code} {Q : State → Prop} {cells slots b L : Nat} {xs : Nat → Int32} {v4 : Int32}
theorem lc_40 (hlt : l.stackTraces = false) (hE : Exs g s) (C : Cx g (p, l, e, R, s, m, args, below, meth, c, Q, cells, slots) code 8 n_Lw 100) (hX : XS g (p, l, e, R, s, m, args, below, meth, c, Q, cells, slots) b L xs) (hc : cells + 1 ≤ R.cells ∧ slots + 6 ≤ R.slots) (hi1 : vp_in (v4 + 1) L) {x x' : XD} {m0 m' : MD} {oo : Nat → Int64} {r : Int32} (e1 : f_Hb_toss (xs (v4 + 1).toNatClampNeg) x = some (r, x')) (e2 : f_Mo_toss (xs (v4 + 1).toNatClampNeg) m0 = some (r, m')) (h : Wk g (p, l, e, R, s, m, args, below, meth, c, Q, cells + 1, slots + 6) 8 1829 (lwloc g b v4) [] (x', m', oo)) : Wk g (p, l, e, R, s, m, args, below, meth, c, Q, cells, slots) 8 1804 (lwloc g b v4) [] (x, m0, oo) := by
  have C1 : Cx g (p, l, e, R, s, m, args, below, meth, c, Q, cells + 1, slots + 6) code 8 n_Lw 100 := C
  have hX1 : XS g (p, l, e, R, s, m, args, below, meth, c, Q, cells + 1, slots + 6) b L xs := hX
  refine k_aload_n C d_Lw_law_1804 2 rfl ?_
  refine k_aload_n C d_Lw_law_1805 1 rfl ?_
  refine k_iload C d_Lw_law_1806 0 rfl ?_
  refine k_iconst C 1 d_Lw_law_1808 ic_1 ?_
  refine k_iadd C d_Lw_law_1809 ?_
  refine k_sld C hX hi1 d_Lw_law_1810 ?_
  obtain ⟨hx, hb, hml, hown, hts, hK, hg, hbs, hfr, hlo, hnw⟩ := id C
  intro H locs ls hP hS hl
  refine va_calli (vx_runVW (As := [.int (xs (v4 + 1).toNatClampNeg)]) (rest := []) ⟨hx, hb, hml, hown, hts⟩ (m_Hb_toss hg hlt (xs (v4 + 1).toNatClampNeg) x (m0, oo) (r, x') e1) (vx_cwVW 1 hts (tw_gi xz_t5 (by simp [xz_t1, xz_t2, xz_t3, xz_t4])) rfl rfl rfl (by decide +kernel) ⟨by show 8 + 1 ≤ R.frames; omega, by show 8 + (6 + 11) + 40 * 8 ≤ R.locals; omega⟩) ⟨x_blind, va_recv (q := (n_Hb, T_Hb, 7)) hK hP (ci := 11) rfl (q0 := 0) (by rw [wl_at (by decide), sh_Hb]), fun U hU hW => ⟨rfl, ⟨⟨by rw [hU]; exact hP, va_K.moved hW.alike hK, by rw [hU]; exact Nat.le_trans hbs hS.1⟩, hnw.warm hW⟩, hE.moved hW hU hS⟩⟩ rfl rfl hl.1 rfl (lv_room (Nat.le_of_ble_eq_true rfl)) d_Lw_law_1811 hc) hS (fun _ _ h => h) (fun _ h => h) (fun r1 _ t H1 locs1 ht hvm hw hB hz1 hk1 hS1 => ?_)
  cases hw
  obtain ⟨hB1, -, -⟩ := hB
  rw [ht] at hB1
  refine (?_ : Wk g (p, l, e, R, s, m, args, below, meth, c, Q, cells + 1, slots + 6) 8 1814 (lwloc g b v4) [.int r] (x', m0, oo)) H1 locs1 ls hB1 hS1 hl
  refine k_aload_n C1 d_Lw_law_1814 3 rfl ?_
  refine k_aload_n C1 d_Lw_law_1815 1 rfl ?_
  refine k_iload C1 d_Lw_law_1816 0 rfl ?_
  refine k_iconst C1 1 d_Lw_law_1818 ic_1 ?_
  refine k_iadd C1 d_Lw_law_1819 ?_
  refine k_sld C1 hX1 hi1 d_Lw_law_1820 ?_
  refine k_callVi C1 q_Lw_197 (fun l => m_Mo_toss (cx_g C) l (xs (v4 + 1).toNatClampNeg) m0 x' oo (r, m') e2) rfl rfl hc (by decide) sh_Mo rfl rfl rfl rfl d_Lw_law_1821 ?_
  refine k_icmp_eq C1 1829 d_Lw_law_1824 (by decide) (fun c => ?_) (fun c => ?_)
  · exact h
  · exact absurd rfl c
theorem lc_37 (hlt : l.stackTraces = false) (hE : Exs g s) (C : Cx g (p, l, e, R, s, m, args, below, meth, c, Q, cells, slots) code 8 n_Lw 100) (hX : XS g (p, l, e, R, s, m, args, below, meth, c, Q, cells, slots) b L xs) (hc : cells + 1 ≤ R.cells ∧ slots + 6 ≤ R.slots) (hi1 : vp_in (v4 + 1) L) (hi2 : vp_in (v4 + 2) L) {x x' : XD} {m0 m' : MD} {oo : Nat → Int64} {E : Option String} {v r : Int64} (e1 : f_Hb_element (xs (v4 + 1).toNatClampNeg) (xs (v4 + 2).toNatClampNeg) x = some ((E, v), x')) (hEr : E = none ∨ E = some xE_a ∨ E = some xE_i) (e2 : f_Mo_element (xs (v4 + 1).toNatClampNeg) (xs (v4 + 2).toNatClampNeg) m0 = some (r, m')) (e3 : m'.1 83 14 = x_code E) (e4 : E = none → v = r) (h : ∀ oo', Wk g (p, l, e, R, s, m, args, below, meth, c, Q, cells + 1, slots + 6) 8 1829 (lwloc g b v4) [] (x', m', oo')) : Wk g (p, l, e, R, s, m, args, below, meth, c, Q, cells, slots) 8 1639 (lwloc g b v4) [] (x, m0, oo) := by
  have C1 : Cx g (p, l, e, R, s, m, args, below, meth, c, Q, cells + 1, slots + 6) code 8 n_Lw 100 := C
  have hX1 : XS g (p, l, e, R, s, m, args, below, meth, c, Q, cells + 1, slots + 6) b L xs := hX
  refine k_aload_n C d_Lw_law_1639 2 rfl ?_
  refine k_aload_n C d_Lw_law_1640 1 rfl ?_
  refine k_iload C d_Lw_law_1641 0 rfl ?_
  refine k_iconst C 1 d_Lw_law_1643 ic_1 ?_
  refine k_iadd C d_Lw_law_1644 ?_
  refine k_sld C hX hi1 d_Lw_law_1645 ?_
  refine k_aload_n C d_Lw_law_1646 1 rfl ?_
  refine k_iload C d_Lw_law_1647 0 rfl ?_
  refine k_iconst C 2 d_Lw_law_1649 ic_2 ?_
  refine k_iadd C d_Lw_law_1650 ?_
  refine k_sld C hX hi2 d_Lw_law_1651 ?_
  refine k_aload_n C d_Lw_law_1652 4 rfl ?_
  obtain ⟨hx, hb, hml, hown, hts, hK, hg, hbs, hfr, hlo, hnw⟩ := id C
  intro H locs ls hP hS hl
  refine va_calli (vx_runSW (As := [.ref (g_a g 0), .int (xs (v4 + 1).toNatClampNeg), .int (xs (v4 + 2).toNatClampNeg), .ref (g_a g 104)]) (rest := []) ⟨hx, hb, hml, hown, hts⟩ (m_Lw_element hg hlt (xs (v4 + 1).toNatClampNeg) (xs (v4 + 2).toNatClampNeg) x m0 oo ((E, v), x') e1 hEr) (vx_cwSW 4 hts (tw_gi xz_e4 (by simp [xz_e1, xz_e2]; exact xz_e3)) rfl rfl rfl (by decide +kernel) ⟨by show 10 + 1 ≤ R.frames; omega, by show 8 + (5 + 11) + 40 * 10 ≤ R.locals; omega⟩) ⟨x_blind, fun U hU hW => ⟨rfl, ⟨⟨by rw [hU]; exact hP, va_K.moved hW.alike hK, by rw [hU]; exact Nat.le_trans hbs hS.1⟩, hnw.warm hW⟩, hE.moved hW hU hS⟩⟩ rfl rfl hl.1 rfl (lv_room (Nat.le_of_ble_eq_true rfl)) d_Lw_law_1653 hc) hS (fun _ _ h => h) (fun _ h => h) (fun r1 _ t H1 locs1 ht hvm hw hB hz1 hk1 hS1 => ?_)
  cases hw
  obtain ⟨hB1, -, -⟩ := hB
  rw [ht] at hB1
  generalize hoo : (if (E, v).1 = none then vp_updL oo 0 (E, v).2 else oo) = o1 at hB1
  refine (?_ : Wk g (p, l, e, R, s, m, args, below, meth, c, Q, cells + 1, slots + 6) 8 1656 (lwloc g b v4) [.int (x_code E)] (x', m0, o1)) H1 locs1 ls hB1 hS1 hl
  refine k_istore C1 (lv' := [(5, .int (x_code E)), (4, .int v4), (0, .ref b), (1, .ref (g_a g 0)), (2, .ref (g_a g 83)), (3, .ref (g_a g 104))]) d_Lw_law_1656 rfl rfl ?_
  refine k_aload_n C1 d_Lw_law_1658 4 rfl ?_
  refine k_aload_n C1 d_Lw_law_1659 2 rfl ?_
  refine k_iload C1 d_Lw_law_1660 1 rfl ?_
  refine k_iconst C1 1 d_Lw_law_1662 ic_1 ?_
  refine k_iadd C1 d_Lw_law_1663 ?_
  refine k_sld C1 hX1 hi1 d_Lw_law_1664 ?_
  refine k_aload_n C1 d_Lw_law_1665 2 rfl ?_
  refine k_iload C1 d_Lw_law_1666 1 rfl ?_
  refine k_iconst C1 2 d_Lw_law_1668 ic_2 ?_
  refine k_iadd C1 d_Lw_law_1669 ?_
  refine k_sld C1 hX1 hi2 d_Lw_law_1670 ?_
  refine k_callVl C1 q_Lw_181 (fun l => m_Mo_element (cx_g C) l (xs (v4 + 1).toNatClampNeg) (xs (v4 + 2).toNatClampNeg) m0 x' o1 (r, m') e2) rfl rfl hc (by decide) sh_Mo rfl rfl rfl rfl d_Lw_law_1671 ?_
  refine k_lstore C1 (lv' := [(6, .long r), (5, .int (x_code E)), (4, .int v4), (0, .ref b), (1, .ref (g_a g 0)), (2, .ref (g_a g 83)), (3, .ref (g_a g 104))]) d_Lw_law_1674 rfl rfl ?_
  refine k_aload_n C1 d_Lw_law_1676 5 rfl ?_
  refine k_callVi C1 q_Lw_182 (fun l => m_Mo_thrown (cx_g C) l m' x' o1 (m'.1 83 14, m') rfl) rfl rfl hc (by decide) sh_Mo rfl rfl rfl rfl d_Lw_law_1677 ?_
  refine k_iload C1 d_Lw_law_1680 1 rfl ?_
  refine k_icmp_eq C1 1687 d_Lw_law_1682 (by decide) (fun cq => ?_) (fun cq => ?_)
  rotate_left
  · exact absurd e3 cq
  refine k_iload C1 d_Lw_law_1687 1 rfl ?_
  have hend : Wk g (p, l, e, R, s, m, args, below, meth, c, Q, cells + 1, slots + 6) 8 1703 [(6, .long r), (5, .int (x_code E)), (4, .int v4), (0, .ref b), (1, .ref (g_a g 0)), (2, .ref (g_a g 83)), (3, .ref (g_a g 104))] [] (x', m', o1) := by
    refine k_goto C1 1829 d_Lw_law_1703 (by decide) ?_
    exact k_sub [2, 3, 4, 5, 6] rfl (h o1)
  refine k_if_ne C1 1703 d_Lw_law_1689 (by decide) (fun c2 => ?_) (fun c2 => ?_)
  · exact hend
  · have hn : E = none := by
      rcases hEr with h1 | h1 | h1
      · exact h1
      · rw [h1] at c2; exact absurd c2 (by decide)
      · rw [h1] at c2; exact absurd c2 (by decide)
    have ho1 : o1 (0 : Int32).toNatClampNeg = r := by
      rw [← hoo]
      show (if E = none then vp_updL oo 0 v else oo) _ = r
      rw [if_pos hn, ← e4 hn]
      rfl
    refine k_aload_n C1 d_Lw_law_1692 6 rfl ?_
    refine k_iconst C1 0 d_Lw_law_1693 ic_0 ?_
    refine k_lald C1 (f := o1) (n := 1) (by decide) sh_out (by unfold vp_in; decide) d_Lw_law_1694 ?_
    refine k_lload C1 d_Lw_law_1695 0 rfl ?_
    refine k_lcmp C1 d_Lw_law_1697 ?_
    rw [ho1]
    refine k_if_eq C1 1703 d_Lw_law_1698 (by decide) (fun c3 => ?_) (fun c3 => ?_)
    · exact hend
    · exact absurd (lg_self r) c3
end CS
theorem oN_add (a b : Nat) : Int32.ofNat (a + b) = Int32.ofNat a + Int32.ofNat b := Int32.ofNat_add a b
set_option maxHeartbeats 4000000 in
theorem law_loop {g : GC} {p : Program} {l : Launch} {e : Env} {s : State} {m : MethodId} {below : List Frame} {meth : Method} {c : Code} {b L : Nat} {xs : Nat → Int32} {I : XD → MD → Prop} (hok : LawOk I) (hlt : l.stackTraces = false) (hE : Exs g s) (hL : L ≤ 3072) (C0 : lw_At p s m meth c b L xs) (hgb : g_b g = s.heap.size) (CC : ∀ (Q : State → Prop) (cells slots : Nat), Cx g (p, l, e, room_1, s, m, #[Value.ref b], below, meth, c, Q, cells, slots) code 8 n_Lw 100) : ∀ (n k : Nat) (x : XD) (m0 : MD) (oo : Nat → Int64), 6 * k ≤ L → L < 6 * k + 6 * n → I x m0 → Wk g (p, l, e, room_1, s, m, #[Value.ref b], below, meth, c, lw_Z below #[Value.ref b] s, 105 + k, 2635 + 6 * k) 8 23 (lwloc g b (Int32.ofNat (6 * k))) [] (x, m0, oo) := by
  obtain ⟨hx, hb, hr, hml, hown, hts, hX, hbl, hlocks, hgv⟩ := C0
  have hXS : ∀ (cells slots : Nat), XS g (p, l, e, room_1, s, m, #[Value.ref b], below, meth, c, lw_Z below #[Value.ref b] s, cells, slots) b L xs := fun cells slots => ⟨hX, hbl, by show ¬ g_b g ≤ b; rw [hgb]; exact Nat.not_le.mpr hbl⟩
  intro n
  induction n with
  | zero =>
    intro k x m0 oo h1 h2
    exact absurd h2 (by omega)
  | succ n ih =>
    intro k x m0 oo hk hn hI
    have C := CC (lw_Z below #[Value.ref b] s) (105 + k) (2635 + 6 * k)
    have C1 := CC (lw_Z below #[Value.ref b] s) (105 + k + 1) (2635 + 6 * k + 6)
    have hXk := hXS (105 + k) (2635 + 6 * k)
    have hLt : (Int32.ofNat L - 6).toInt = (L : Int) - 6 := by
      rw [Int32.toInt_sub, show (Int32.ofNat L).toInt = (L : Int) from nI_toInt (by omega), show (6 : Int32).toInt = 6 from by decide]
      simp only [Int.bmod]
      omega
    have hvt : (Int32.ofNat (6 * k)).toInt = 6 * (k : Int) := by
      rw [show (Int32.ofNat (6 * k)).toInt = ((6 * k : Nat) : Int) from nI_toInt (by omega)]
      omega
    refine k_iload C d_Lw_law_23 0 rfl ?_
    refine k_aload_n C d_Lw_law_25 1 rfl ?_
    refine k_slen C hXk d_Lw_law_26 ?_
    refine k_bipush C 6 d_Lw_law_27 (by decide) ?_
    refine k_isub C d_Lw_law_29 ?_
    refine k_icmp_gt C 1835 d_Lw_law_30 (by decide) (fun c1 => ?_) (fun c1 => ?_)
    · intro H locs ls hP hS hl
      refine lv_iconst (v := 1) hx hb d_Lw_law_1835 (by decide) ?_
      refine va_forget (fun q hq => by have := hS.2.2 q hq; rw [← hgb]; exact this) ?_
      refine W.widen (k := 601024) (n := 7293034) (by omega) (by omega) ?_
      exact lw_ret hx hb hr hlocks d_Lw_law_1836
    have hk6 : 6 * k + 6 ≤ L := by
      have h1 : ¬ (Int32.ofNat L - 6).toInt < (Int32.ofNat (6 * k)).toInt := fun h => c1 (Int32.lt_iff_toInt_lt.mpr h)
      rw [hLt, hvt] at h1
      omega
    have hin : ∀ j : Nat, j < 6 → vp_in (Int32.ofNat (6 * k) + Int32.ofNat j) L := fun j hj => by
      rw [← oN_add]
      exact vp_in_nI (by omega) (by omega)
    have hi0 : vp_in (Int32.ofNat (6 * k)) L := vp_in_nI (by omega) (by omega)
    have hi1 := hin 1 (by decide)
    have hi2 := hin 2 (by decide)
    have hi3 := hin 3 (by decide)
    have hi4 := hin 4 (by decide)
    have hi5 := hin 5 (by decide)
    have hc : 105 + k + 1 ≤ room_1.cells ∧ 2635 + 6 * k + 6 ≤ room_1.slots := ⟨by show 105 + k + 1 ≤ 601024; omega, by show 2635 + 6 * k + 6 ≤ 7293034; omega⟩
    have hc0 : 105 + k ≤ room_1.cells ∧ 2635 + 6 * k ≤ room_1.slots := ⟨by omega, by omega⟩
    have hnx : ∀ (x' : XD) (m' : MD) (o' : Nat → Int64), I x' m' → Wk g (p, l, e, room_1, s, m, #[Value.ref b], below, meth, c, lw_Z below #[Value.ref b] s, 105 + k + 1, 2635 + 6 * k + 6) 8 1829 (lwloc g b (Int32.ofNat (6 * k))) [] (x', m', o') := by
      intro x' m' o' hI'
      refine k_inc C1 (lv' := [(4, .int (Int32.ofNat (6 * k) + 6)), (0, .ref b), (1, .ref (g_a g 0)), (2, .ref (g_a g 83)), (3, .ref (g_a g 104))]) d_Lw_law_1829 0 rfl (show Int32.ofInt 6 = 6 by decide) rfl rfl ?_
      refine k_goto C1 23 d_Lw_law_1832 (by decide) ?_
      have h9 := ih (k + 1) x' m' o' (by omega) (by omega) hI'
      rw [show Int32.ofNat (6 * (k + 1)) = Int32.ofNat (6 * k) + 6 from oN_add (6 * k) 6, show 105 + (k + 1) = 105 + k + 1 from rfl, show 2635 + 6 * (k + 1) = 2635 + 6 * k + 6 from by omega] at h9
      exact h9
    refine k_aload_n C d_Lw_law_33 1 rfl ?_
    refine k_iload C d_Lw_law_34 0 rfl ?_
    refine k_sld C hXk hi0 d_Lw_law_36 ?_
    refine k_bipush C 63 d_Lw_law_37 (by decide) ?_
    refine k_iand C d_Lw_law_39 ?_
    obtain ⟨y, hy⟩ : ∃ y, y = xs (Int32.ofNat (6 * k)).toNatClampNeg &&& 63 := ⟨_, rfl⟩
    refine k_nmI hy ?_
    by_cases c_0 : y = 0
    · refine k_tabin C (180) 220 d_Lw_law_40 (by rw [c_0]; decide) (by rw [c_0]; decide) (by rw [c_0]; decide) (by decide) ?_
      obtain ⟨r, x', m', e1, e2, hI'⟩ := hok.1 (xs (Int32.ofNat (6 * k) + 1).toNatClampNeg) x m0 hI
      exact lc_0 C hXk hc0 hi1 hi2 hi3 hi4 hi5 e1 e2 (k_wd2 (hnx x' m' oo hI'))
    by_cases c_1 : y = 1
    · refine k_tabin C (205) 245 d_Lw_law_40 (by rw [c_1]; decide) (by rw [c_1]; decide) (by rw [c_1]; decide) (by decide) ?_
      obtain ⟨r, x', m', e1, e2, hI'⟩ := hok.2.1 (xs (Int32.ofNat (6 * k) + 1).toNatClampNeg) (xs (Int32.ofNat (6 * k) + 2).toNatClampNeg) x m0 hI
      exact lc_1 C hXk hc0 hi1 hi2 hi3 hi4 hi5 e1 e2 (k_wd2 (hnx x' m' oo hI'))
    by_cases c_2 : y = 2
    · refine k_tabin C (242) 282 d_Lw_law_40 (by rw [c_2]; decide) (by rw [c_2]; decide) (by rw [c_2]; decide) (by decide) ?_
      obtain ⟨r, x', m', e1, e2, hI'⟩ := hok.2.2.1 (xs (Int32.ofNat (6 * k) + 1).toNatClampNeg) (xs (Int32.ofNat (6 * k) + 2).toNatClampNeg) (xs (Int32.ofNat (6 * k) + 3).toNatClampNeg) x m0 hI
      exact lc_2 C hXk hc0 hi1 hi2 hi3 hi4 hi5 e1 e2 (k_wd2 (hnx x' m' oo hI'))
    by_cases c_3 : y = 3
    · refine k_tabin C (291) 331 d_Lw_law_40 (by rw [c_3]; decide) (by rw [c_3]; decide) (by rw [c_3]; decide) (by decide) ?_
      obtain ⟨r, x', m', e1, e2, hI'⟩ := hok.2.2.2.1 (xs (Int32.ofNat (6 * k) + 1).toNatClampNeg) (xs (Int32.ofNat (6 * k) + 2).toNatClampNeg) x m0 hI
      exact lc_3 C hXk hc0 hi1 hi2 hi3 hi4 hi5 e1 e2 (k_wd2 (hnx x' m' oo hI'))
    by_cases c_4 : y = 4
    · refine k_tabin C (328) 368 d_Lw_law_40 (by rw [c_4]; decide) (by rw [c_4]; decide) (by rw [c_4]; decide) (by decide) ?_
      obtain ⟨r, x', m', e1, e2, hI'⟩ := hok.2.2.2.2.1 (xs (Int32.ofNat (6 * k) + 1).toNatClampNeg) (xs (Int32.ofNat (6 * k) + 2).toNatClampNeg) x m0 hI
      exact lc_4 C hXk hc0 hi1 hi2 hi3 hi4 hi5 e1 e2 (k_wd2 (hnx x' m' oo hI'))
    by_cases c_5 : y = 5
    · refine k_tabin C (365) 405 d_Lw_law_40 (by rw [c_5]; decide) (by rw [c_5]; decide) (by rw [c_5]; decide) (by decide) ?_
      obtain ⟨r, x', m', e1, e2, hI'⟩ := hok.2.2.2.2.2.1 (xs (Int32.ofNat (6 * k) + 1).toNatClampNeg) (xs (Int32.ofNat (6 * k) + 2).toNatClampNeg) x m0 hI
      exact lc_5 C hXk hc0 hi1 hi2 hi3 hi4 hi5 e1 e2 (k_wd2 (hnx x' m' oo hI'))
    by_cases c_6 : y = 6
    · refine k_tabin C (402) 442 d_Lw_law_40 (by rw [c_6]; decide) (by rw [c_6]; decide) (by rw [c_6]; decide) (by decide) ?_
      obtain ⟨r, x', m', e1, e2, hI'⟩ := hok.2.2.2.2.2.2.1 (xs (Int32.ofNat (6 * k) + 1).toNatClampNeg) x m0 hI
      exact lc_6 C hXk hc0 hi1 hi2 hi3 hi4 hi5 e1 e2 (k_wd2 (hnx x' m' oo hI'))
    by_cases c_7 : y = 7
    · refine k_tabin C (427) 467 d_Lw_law_40 (by rw [c_7]; decide) (by rw [c_7]; decide) (by rw [c_7]; decide) (by decide) ?_
      obtain ⟨r, x', m', e1, e2, hI'⟩ := hok.2.2.2.2.2.2.2.1 (xs (Int32.ofNat (6 * k) + 1).toNatClampNeg) x m0 hI
      exact lc_7 C hXk hc0 hi1 hi2 hi3 hi4 hi5 e1 e2 (k_wd2 (hnx x' m' oo hI'))
    by_cases c_8 : y = 8
    · refine k_tabin C (452) 492 d_Lw_law_40 (by rw [c_8]; decide) (by rw [c_8]; decide) (by rw [c_8]; decide) (by decide) ?_
      obtain ⟨r, x', m', e1, e2, hI'⟩ := hok.2.2.2.2.2.2.2.2.1 (xs (Int32.ofNat (6 * k) + 1).toNatClampNeg) (xs (Int32.ofNat (6 * k) + 2).toNatClampNeg) x m0 hI
      exact lc_8 C hXk hc0 hi1 hi2 hi3 hi4 hi5 e1 e2 (k_wd2 (hnx x' m' oo hI'))
    by_cases c_9 : y = 9
    · refine k_tabin C (489) 529 d_Lw_law_40 (by rw [c_9]; decide) (by rw [c_9]; decide) (by rw [c_9]; decide) (by decide) ?_
      obtain ⟨r, x', m', e1, e2, hI'⟩ := hok.2.2.2.2.2.2.2.2.2.1 (xs (Int32.ofNat (6 * k) + 1).toNatClampNeg) (xs (Int32.ofNat (6 * k) + 2).toNatClampNeg) (xs (Int32.ofNat (6 * k) + 3).toNatClampNeg) x m0 hI
      exact lc_9 C hXk hc0 hi1 hi2 hi3 hi4 hi5 e1 e2 (k_wd2 (hnx x' m' oo hI'))
    by_cases c_10 : y = 10
    · refine k_tabin C (538) 578 d_Lw_law_40 (by rw [c_10]; decide) (by rw [c_10]; decide) (by rw [c_10]; decide) (by decide) ?_
      obtain ⟨r, x', m', e1, e2, hI'⟩ := hok.2.2.2.2.2.2.2.2.2.2.1 (xs (Int32.ofNat (6 * k) + 1).toNatClampNeg) (xs (Int32.ofNat (6 * k) + 2).toNatClampNeg) (xs (Int32.ofNat (6 * k) + 3).toNatClampNeg) x m0 hI
      exact lc_10 C hXk hc0 hi1 hi2 hi3 hi4 hi5 e1 e2 (k_wd2 (hnx x' m' oo hI'))
    by_cases c_11 : y = 11
    · refine k_tabin C (587) 627 d_Lw_law_40 (by rw [c_11]; decide) (by rw [c_11]; decide) (by rw [c_11]; decide) (by decide) ?_
      obtain ⟨r, x', m', e1, e2, hI'⟩ := hok.2.2.2.2.2.2.2.2.2.2.2.1 (xs (Int32.ofNat (6 * k) + 1).toNatClampNeg) (xs (Int32.ofNat (6 * k) + 2).toNatClampNeg) x m0 hI
      exact lc_11 C hXk hc0 hi1 hi2 hi3 hi4 hi5 e1 e2 (k_wd2 (hnx x' m' oo hI'))
    by_cases c_12 : y = 12
    · refine k_tabin C (624) 664 d_Lw_law_40 (by rw [c_12]; decide) (by rw [c_12]; decide) (by rw [c_12]; decide) (by decide) ?_
      obtain ⟨r, x', m', e1, e2, hI'⟩ := hok.2.2.2.2.2.2.2.2.2.2.2.2.1 (xs (Int32.ofNat (6 * k) + 1).toNatClampNeg) x m0 hI
      exact lc_12 C hXk hc0 hi1 hi2 hi3 hi4 hi5 e1 e2 (k_wd2 (hnx x' m' oo hI'))
    by_cases c_13 : y = 13
    · refine k_tabin C (649) 689 d_Lw_law_40 (by rw [c_13]; decide) (by rw [c_13]; decide) (by rw [c_13]; decide) (by decide) ?_
      obtain ⟨r, x', m', e1, e2, hI'⟩ := hok.2.2.2.2.2.2.2.2.2.2.2.2.2.1 x m0 hI
      exact lc_13 C hXk hc0 hi1 hi2 hi3 hi4 hi5 e1 e2 (k_wd2 (hnx x' m' oo hI'))
    by_cases c_14 : y = 14
    · refine k_tabin C (662) 702 d_Lw_law_40 (by rw [c_14]; decide) (by rw [c_14]; decide) (by rw [c_14]; decide) (by decide) ?_
      obtain ⟨r, x', m', e1, e2, hI'⟩ := hok.2.2.2.2.2.2.2.2.2.2.2.2.2.2.1 (xs (Int32.ofNat (6 * k) + 1).toNatClampNeg) (xs (Int32.ofNat (6 * k) + 2).toNatClampNeg) x m0 hI
      exact lc_14 C hXk hc0 hi1 hi2 hi3 hi4 hi5 e1 e2 (k_wd2 (hnx x' m' oo hI'))
    by_cases c_15 : y = 15
    · refine k_tabin C (699) 739 d_Lw_law_40 (by rw [c_15]; decide) (by rw [c_15]; decide) (by rw [c_15]; decide) (by decide) ?_
      obtain ⟨r, x', m', e1, e2, hI'⟩ := hok.2.2.2.2.2.2.2.2.2.2.2.2.2.2.2.1 (xs (Int32.ofNat (6 * k) + 1).toNatClampNeg) (xs (Int32.ofNat (6 * k) + 2).toNatClampNeg) (xs (Int32.ofNat (6 * k) + 3).toNatClampNeg) x m0 hI
      exact lc_15 C hXk hc0 hi1 hi2 hi3 hi4 hi5 e1 e2 (k_wd2 (hnx x' m' oo hI'))
    by_cases c_16 : y = 16
    · refine k_tabin C (748) 788 d_Lw_law_40 (by rw [c_16]; decide) (by rw [c_16]; decide) (by rw [c_16]; decide) (by decide) ?_
      obtain ⟨r, x', m', e1, e2, hI'⟩ := hok.2.2.2.2.2.2.2.2.2.2.2.2.2.2.2.2.1 (xs (Int32.ofNat (6 * k) + 1).toNatClampNeg) (xs (Int32.ofNat (6 * k) + 2).toNatClampNeg) (xs (Int32.ofNat (6 * k) + 3).toNatClampNeg) x m0 hI
      exact lc_16 C hXk hc0 hi1 hi2 hi3 hi4 hi5 e1 e2 (k_wd2 (hnx x' m' oo hI'))
    by_cases c_17 : y = 17
    · refine k_tabin C (797) 837 d_Lw_law_40 (by rw [c_17]; decide) (by rw [c_17]; decide) (by rw [c_17]; decide) (by decide) ?_
      obtain ⟨r, x', m', e1, e2, hI'⟩ := hok.2.2.2.2.2.2.2.2.2.2.2.2.2.2.2.2.2.1 (xs (Int32.ofNat (6 * k) + 1).toNatClampNeg) (xs (Int32.ofNat (6 * k) + 2).toNatClampNeg) (xs (Int32.ofNat (6 * k) + 3).toNatClampNeg) x m0 hI
      exact lc_17 C hXk hc0 hi1 hi2 hi3 hi4 hi5 e1 e2 (k_wd2 (hnx x' m' oo hI'))
    by_cases c_18 : y = 18
    · refine k_tabin C (846) 886 d_Lw_law_40 (by rw [c_18]; decide) (by rw [c_18]; decide) (by rw [c_18]; decide) (by decide) ?_
      obtain ⟨r, x', m', e1, e2, hI'⟩ := hok.2.2.2.2.2.2.2.2.2.2.2.2.2.2.2.2.2.2.1 (xs (Int32.ofNat (6 * k) + 1).toNatClampNeg) (xs (Int32.ofNat (6 * k) + 2).toNatClampNeg) (xs (Int32.ofNat (6 * k) + 3).toNatClampNeg) (xs (Int32.ofNat (6 * k) + 4).toNatClampNeg) x m0 hI
      exact lc_18 C hXk hc0 hi1 hi2 hi3 hi4 hi5 e1 e2 (k_wd2 (hnx x' m' oo hI'))
    by_cases c_19 : y = 19
    · refine k_tabin C (907) 947 d_Lw_law_40 (by rw [c_19]; decide) (by rw [c_19]; decide) (by rw [c_19]; decide) (by decide) ?_
      obtain ⟨r, x', m', e1, e2, hI'⟩ := hok.2.2.2.2.2.2.2.2.2.2.2.2.2.2.2.2.2.2.2.1 (xs (Int32.ofNat (6 * k) + 1).toNatClampNeg) (xs (Int32.ofNat (6 * k) + 2).toNatClampNeg) x m0 hI
      exact lc_19 C hXk hc0 hi1 hi2 hi3 hi4 hi5 e1 e2 (k_wd2 (hnx x' m' oo hI'))
    by_cases c_20 : y = 20
    · refine k_tabin C (944) 984 d_Lw_law_40 (by rw [c_20]; decide) (by rw [c_20]; decide) (by rw [c_20]; decide) (by decide) ?_
      obtain ⟨r, x', m', e1, e2, hI'⟩ := hok.2.2.2.2.2.2.2.2.2.2.2.2.2.2.2.2.2.2.2.2.1 (xs (Int32.ofNat (6 * k) + 1).toNatClampNeg) x m0 hI
      exact lc_20 C hXk hc0 hi1 hi2 hi3 hi4 hi5 e1 e2 (k_wd2 (hnx x' m' oo hI'))
    by_cases c_21 : y = 21
    · refine k_tabin C (969) 1009 d_Lw_law_40 (by rw [c_21]; decide) (by rw [c_21]; decide) (by rw [c_21]; decide) (by decide) ?_
      obtain ⟨r, x', m', e1, e2, hI'⟩ := hok.2.2.2.2.2.2.2.2.2.2.2.2.2.2.2.2.2.2.2.2.2.1 x m0 hI
      exact lc_21 C hXk hc0 hi1 hi2 hi3 hi4 hi5 e1 e2 (k_wd2 (hnx x' m' oo hI'))
    by_cases c_22 : y = 22
    · refine k_tabin C (982) 1022 d_Lw_law_40 (by rw [c_22]; decide) (by rw [c_22]; decide) (by rw [c_22]; decide) (by decide) ?_
      obtain ⟨r, x', m', e1, e2, hI'⟩ := hok.2.2.2.2.2.2.2.2.2.2.2.2.2.2.2.2.2.2.2.2.2.2.1 (xs (Int32.ofNat (6 * k) + 1).toNatClampNeg) (xs (Int32.ofNat (6 * k) + 2).toNatClampNeg) x m0 hI
      exact lc_22 C hXk hc0 hi1 hi2 hi3 hi4 hi5 e1 e2 (k_wd2 (hnx x' m' oo hI'))
    by_cases c_23 : y = 23
    · refine k_tabin C (1019) 1059 d_Lw_law_40 (by rw [c_23]; decide) (by rw [c_23]; decide) (by rw [c_23]; decide) (by decide) ?_
      obtain ⟨r, x', m', e1, e2, hI'⟩ := hok.2.2.2.2.2.2.2.2.2.2.2.2.2.2.2.2.2.2.2.2.2.2.2.1 (xs (Int32.ofNat (6 * k) + 1).toNatClampNeg) (xs (Int32.ofNat (6 * k) + 2).toNatClampNeg) (xs (Int32.ofNat (6 * k) + 3).toNatClampNeg) (xs (Int32.ofNat (6 * k) + 4).toNatClampNeg) x m0 hI
      exact lc_23 C hXk hc0 hi1 hi2 hi3 hi4 hi5 e1 e2 (k_wd2 (hnx x' m' oo hI'))
    by_cases c_24 : y = 24
    · refine k_tabin C (1080) 1120 d_Lw_law_40 (by rw [c_24]; decide) (by rw [c_24]; decide) (by rw [c_24]; decide) (by decide) ?_
      obtain ⟨r, x', m', e1, e2, hI'⟩ := hok.2.2.2.2.2.2.2.2.2.2.2.2.2.2.2.2.2.2.2.2.2.2.2.2.1 (xs (Int32.ofNat (6 * k) + 1).toNatClampNeg) (xs (Int32.ofNat (6 * k) + 2).toNatClampNeg) (xs (Int32.ofNat (6 * k) + 3).toNatClampNeg) (xs (Int32.ofNat (6 * k) + 4).toNatClampNeg) x m0 hI
      exact lc_24 C hXk hc0 hi1 hi2 hi3 hi4 hi5 e1 e2 (k_wd2 (hnx x' m' oo hI'))
    by_cases c_25 : y = 25
    · refine k_tabin C (1141) 1181 d_Lw_law_40 (by rw [c_25]; decide) (by rw [c_25]; decide) (by rw [c_25]; decide) (by decide) ?_
      obtain ⟨r, x', m', e1, e2, hI'⟩ := hok.2.2.2.2.2.2.2.2.2.2.2.2.2.2.2.2.2.2.2.2.2.2.2.2.2.1 (xs (Int32.ofNat (6 * k) + 1).toNatClampNeg) (xs (Int32.ofNat (6 * k) + 2).toNatClampNeg) (xs (Int32.ofNat (6 * k) + 3).toNatClampNeg) x m0 hI
      exact lc_25 C hXk hc0 hi1 hi2 hi3 hi4 hi5 e1 e2 (k_wd2 (hnx x' m' oo hI'))
    by_cases c_26 : y = 26
    · refine k_tabin C (1190) 1230 d_Lw_law_40 (by rw [c_26]; decide) (by rw [c_26]; decide) (by rw [c_26]; decide) (by decide) ?_
      obtain ⟨r, x', m', e1, e2, hI'⟩ := hok.2.2.2.2.2.2.2.2.2.2.2.2.2.2.2.2.2.2.2.2.2.2.2.2.2.2.1 (xs (Int32.ofNat (6 * k) + 1).toNatClampNeg) (xs (Int32.ofNat (6 * k) + 2).toNatClampNeg) (xs (Int32.ofNat (6 * k) + 3).toNatClampNeg) (xs (Int32.ofNat (6 * k) + 4).toNatClampNeg) (xs (Int32.ofNat (6 * k) + 5).toNatClampNeg) x m0 hI
      exact lc_26 C hXk hc0 hi1 hi2 hi3 hi4 hi5 e1 e2 (k_wd2 (hnx x' m' oo hI'))
    by_cases c_27 : y = 27
    · refine k_tabin C (1264) 1304 d_Lw_law_40 (by rw [c_27]; decide) (by rw [c_27]; decide) (by rw [c_27]; decide) (by decide) ?_
      obtain ⟨r, x', m', e1, e2, hI'⟩ := hok.2.2.2.2.2.2.2.2.2.2.2.2.2.2.2.2.2.2.2.2.2.2.2.2.2.2.2.1 (xs (Int32.ofNat (6 * k) + 1).toNatClampNeg) x m0 hI
      exact lc_27 C hXk hc0 hi1 hi2 hi3 hi4 hi5 e1 e2 (k_wd2 (hnx x' m' oo hI'))
    by_cases c_28 : y = 28
    · refine k_tabin C (1290) 1330 d_Lw_law_40 (by rw [c_28]; decide) (by rw [c_28]; decide) (by rw [c_28]; decide) (by decide) ?_
      obtain ⟨r, x', m', e1, e2, hI'⟩ := hok.2.2.2.2.2.2.2.2.2.2.2.2.2.2.2.2.2.2.2.2.2.2.2.2.2.2.2.2.1 (xs (Int32.ofNat (6 * k) + 1).toNatClampNeg) x m0 hI
      exact lc_28 C hXk hc0 hi1 hi2 hi3 hi4 hi5 e1 e2 (k_wd2 (hnx x' m' oo hI'))
    by_cases c_29 : y = 29
    · refine k_tabin C (1315) 1355 d_Lw_law_40 (by rw [c_29]; decide) (by rw [c_29]; decide) (by rw [c_29]; decide) (by decide) ?_
      obtain ⟨r, x', m', e1, e2, hI'⟩ := hok.2.2.2.2.2.2.2.2.2.2.2.2.2.2.2.2.2.2.2.2.2.2.2.2.2.2.2.2.2.1 (xs (Int32.ofNat (6 * k) + 1).toNatClampNeg) x m0 hI
      exact lc_29 C hXk hc0 hi1 hi2 hi3 hi4 hi5 e1 e2 (k_wd2 (hnx x' m' oo hI'))
    by_cases c_30 : y = 30
    · refine k_tabin C (1340) 1380 d_Lw_law_40 (by rw [c_30]; decide) (by rw [c_30]; decide) (by rw [c_30]; decide) (by decide) ?_
      obtain ⟨r, x', m', e1, e2, hI'⟩ := hok.2.2.2.2.2.2.2.2.2.2.2.2.2.2.2.2.2.2.2.2.2.2.2.2.2.2.2.2.2.2.1 (xs (Int32.ofNat (6 * k) + 1).toNatClampNeg) (xs (Int32.ofNat (6 * k) + 2).toNatClampNeg) (xs (Int32.ofNat (6 * k) + 3).toNatClampNeg) x m0 hI
      exact lc_30 C hXk hc0 hi1 hi2 hi3 hi4 hi5 e1 e2 (k_wd2 (hnx x' m' oo hI'))
    by_cases c_31 : y = 31
    · refine k_tabin C (1389) 1429 d_Lw_law_40 (by rw [c_31]; decide) (by rw [c_31]; decide) (by rw [c_31]; decide) (by decide) ?_
      obtain ⟨r, x', m', e1, e2, hI'⟩ := hok.2.2.2.2.2.2.2.2.2.2.2.2.2.2.2.2.2.2.2.2.2.2.2.2.2.2.2.2.2.2.2.1 x m0 hI
      exact lc_31 C hXk hc0 hi1 hi2 hi3 hi4 hi5 e1 e2 (k_wd2 (hnx x' m' oo hI'))
    by_cases c_32 : y = 32
    · refine k_tabin C (1402) 1442 d_Lw_law_40 (by rw [c_32]; decide) (by rw [c_32]; decide) (by rw [c_32]; decide) (by decide) ?_
      obtain ⟨r, x', m', e1, e2, hI'⟩ := hok.2.2.2.2.2.2.2.2.2.2.2.2.2.2.2.2.2.2.2.2.2.2.2.2.2.2.2.2.2.2.2.2.1 x m0 hI
      exact lc_32 C hXk hc0 hi1 hi2 hi3 hi4 hi5 e1 e2 (k_wd2 (hnx x' m' oo hI'))
    by_cases c_33 : y = 33
    · refine k_tabin C (1415) 1455 d_Lw_law_40 (by rw [c_33]; decide) (by rw [c_33]; decide) (by rw [c_33]; decide) (by decide) ?_
      obtain ⟨r, x', m', e1, e2, hI'⟩ := hok.2.2.2.2.2.2.2.2.2.2.2.2.2.2.2.2.2.2.2.2.2.2.2.2.2.2.2.2.2.2.2.2.2.1 (xs (Int32.ofNat (6 * k) + 1).toNatClampNeg) x m0 hI
      exact lc_33 C hXk hc0 hi1 hi2 hi3 hi4 hi5 e1 e2 (k_wd2 (hnx x' m' oo hI'))
    by_cases c_34 : y = 34
    · refine k_tabin C (1440) 1480 d_Lw_law_40 (by rw [c_34]; decide) (by rw [c_34]; decide) (by rw [c_34]; decide) (by decide) ?_
      obtain ⟨r, x', m', e1, e2, hI'⟩ := hok.2.2.2.2.2.2.2.2.2.2.2.2.2.2.2.2.2.2.2.2.2.2.2.2.2.2.2.2.2.2.2.2.2.2.1 (xs (Int32.ofNat (6 * k) + 1).toNatClampNeg) (xs (Int32.ofNat (6 * k) + 2).toNatClampNeg) (xs (Int32.ofNat (6 * k) + 3).toNatClampNeg) (xs (Int32.ofNat (6 * k) + 4).toNatClampNeg) x m0 hI
      exact lc_34 C hXk hc0 hi1 hi2 hi3 hi4 hi5 e1 e2 (k_wd2 (hnx x' m' oo hI'))
    by_cases c_35 : y = 35
    · refine k_tabin C (1501) 1541 d_Lw_law_40 (by rw [c_35]; decide) (by rw [c_35]; decide) (by rw [c_35]; decide) (by decide) ?_
      obtain ⟨r, x', m', e1, e2, hI'⟩ := hok.2.2.2.2.2.2.2.2.2.2.2.2.2.2.2.2.2.2.2.2.2.2.2.2.2.2.2.2.2.2.2.2.2.2.2.1 (xs (Int32.ofNat (6 * k) + 1).toNatClampNeg) (xs (Int32.ofNat (6 * k) + 2).toNatClampNeg) (xs (Int32.ofNat (6 * k) + 3).toNatClampNeg) x m0 hI
      exact lc_35 C hXk hc0 hi1 hi2 hi3 hi4 hi5 e1 e2 (k_wd2 (hnx x' m' oo hI'))
    by_cases c_36 : y = 36
    · refine k_tabin C (1550) 1590 d_Lw_law_40 (by rw [c_36]; decide) (by rw [c_36]; decide) (by rw [c_36]; decide) (by decide) ?_
      obtain ⟨r, x', m', e1, e2, hI'⟩ := hok.2.2.2.2.2.2.2.2.2.2.2.2.2.2.2.2.2.2.2.2.2.2.2.2.2.2.2.2.2.2.2.2.2.2.2.2.1 (xs (Int32.ofNat (6 * k) + 1).toNatClampNeg) (xs (Int32.ofNat (6 * k) + 2).toNatClampNeg) (xs (Int32.ofNat (6 * k) + 3).toNatClampNeg) x m0 hI
      exact lc_36 C hXk hc0 hi1 hi2 hi3 hi4 hi5 e1 e2 (k_wd2 (hnx x' m' oo hI'))
    by_cases c_37 : y = 37
    · refine k_tabin C (1599) 1639 d_Lw_law_40 (by rw [c_37]; decide) (by rw [c_37]; decide) (by rw [c_37]; decide) (by decide) ?_
      obtain ⟨E, v, x', r, m', e1, hEr, e2, e3, e4, hI'⟩ := hok.2.2.2.2.2.2.2.2.2.2.2.2.2.2.2.2.2.2.2.2.2.2.2.2.2.2.2.2.2.2.2.2.2.2.2.2.2.1 (xs (Int32.ofNat (6 * k) + 1).toNatClampNeg) (xs (Int32.ofNat (6 * k) + 2).toNatClampNeg) x m0 hI
      exact lc_37 hlt hE C hXk hc hi1 hi2 e1 hEr e2 e3 e4 (fun o' => hnx x' m' o' hI')
    by_cases c_38 : y = 38
    · refine k_tabin C (1666) 1706 d_Lw_law_40 (by rw [c_38]; decide) (by rw [c_38]; decide) (by rw [c_38]; decide) (by decide) ?_
      obtain ⟨r, x', m', e1, e2, hI'⟩ := hok.2.2.2.2.2.2.2.2.2.2.2.2.2.2.2.2.2.2.2.2.2.2.2.2.2.2.2.2.2.2.2.2.2.2.2.2.2.2.1 (xs (Int32.ofNat (6 * k) + 1).toNatClampNeg) (xs (Int32.ofNat (6 * k) + 2).toNatClampNeg) (xs (Int32.ofNat (6 * k) + 3).toNatClampNeg) (xs (Int32.ofNat (6 * k) + 4).toNatClampNeg) (xs (Int32.ofNat (6 * k) + 5).toNatClampNeg) x m0 hI
      exact lc_38 C hXk hc0 hi1 hi2 hi3 hi4 hi5 e1 e2 (k_wd2 (hnx x' m' oo hI'))
    by_cases c_39 : y = 39
    · refine k_tabin C (1739) 1779 d_Lw_law_40 (by rw [c_39]; decide) (by rw [c_39]; decide) (by rw [c_39]; decide) (by decide) ?_
      obtain ⟨r, x', m', e1, e2, hI'⟩ := hok.2.2.2.2.2.2.2.2.2.2.2.2.2.2.2.2.2.2.2.2.2.2.2.2.2.2.2.2.2.2.2.2.2.2.2.2.2.2.2.1 (xs (Int32.ofNat (6 * k) + 1).toNatClampNeg) x m0 hI
      exact lc_39 C hXk hc0 hi1 hi2 hi3 hi4 hi5 e1 e2 (k_wd2 (hnx x' m' oo hI'))
    by_cases c_40 : y = 40
    · refine k_tabin C (1764) 1804 d_Lw_law_40 (by rw [c_40]; decide) (by rw [c_40]; decide) (by rw [c_40]; decide) (by decide) ?_
      obtain ⟨r, x', m', e1, e2, hI'⟩ := hok.2.2.2.2.2.2.2.2.2.2.2.2.2.2.2.2.2.2.2.2.2.2.2.2.2.2.2.2.2.2.2.2.2.2.2.2.2.2.2.2 (xs (Int32.ofNat (6 * k) + 1).toNatClampNeg) x m0 hI
      exact lc_40 hlt hE C hXk hc hi1 e1 e2 (hnx x' m' oo hI')
    have a_0 : ¬ y.toInt = 0 := nti c_0
    have a_1 : ¬ y.toInt = 1 := nti c_1
    have a_2 : ¬ y.toInt = 2 := nti c_2
    have a_3 : ¬ y.toInt = 3 := nti c_3
    have a_4 : ¬ y.toInt = 4 := nti c_4
    have a_5 : ¬ y.toInt = 5 := nti c_5
    have a_6 : ¬ y.toInt = 6 := nti c_6
    have a_7 : ¬ y.toInt = 7 := nti c_7
    have a_8 : ¬ y.toInt = 8 := nti c_8
    have a_9 : ¬ y.toInt = 9 := nti c_9
    have a_10 : ¬ y.toInt = 10 := nti c_10
    have a_11 : ¬ y.toInt = 11 := nti c_11
    have a_12 : ¬ y.toInt = 12 := nti c_12
    have a_13 : ¬ y.toInt = 13 := nti c_13
    have a_14 : ¬ y.toInt = 14 := nti c_14
    have a_15 : ¬ y.toInt = 15 := nti c_15
    have a_16 : ¬ y.toInt = 16 := nti c_16
    have a_17 : ¬ y.toInt = 17 := nti c_17
    have a_18 : ¬ y.toInt = 18 := nti c_18
    have a_19 : ¬ y.toInt = 19 := nti c_19
    have a_20 : ¬ y.toInt = 20 := nti c_20
    have a_21 : ¬ y.toInt = 21 := nti c_21
    have a_22 : ¬ y.toInt = 22 := nti c_22
    have a_23 : ¬ y.toInt = 23 := nti c_23
    have a_24 : ¬ y.toInt = 24 := nti c_24
    have a_25 : ¬ y.toInt = 25 := nti c_25
    have a_26 : ¬ y.toInt = 26 := nti c_26
    have a_27 : ¬ y.toInt = 27 := nti c_27
    have a_28 : ¬ y.toInt = 28 := nti c_28
    have a_29 : ¬ y.toInt = 29 := nti c_29
    have a_30 : ¬ y.toInt = 30 := nti c_30
    have a_31 : ¬ y.toInt = 31 := nti c_31
    have a_32 : ¬ y.toInt = 32 := nti c_32
    have a_33 : ¬ y.toInt = 33 := nti c_33
    have a_34 : ¬ y.toInt = 34 := nti c_34
    have a_35 : ¬ y.toInt = 35 := nti c_35
    have a_36 : ¬ y.toInt = 36 := nti c_36
    have a_37 : ¬ y.toInt = 37 := nti c_37
    have a_38 : ¬ y.toInt = 38 := nti c_38
    have a_39 : ¬ y.toInt = 39 := nti c_39
    have a_40 : ¬ y.toInt = 40 := nti c_40
    refine k_tabout C 1829 d_Lw_law_40 (by omega) (by decide) ?_
    exact k_wd2 (hnx x m0 oo hI)

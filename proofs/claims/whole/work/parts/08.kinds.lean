def f_Bl_goal (v1 : Int32) (v2 : Int32) (v3 : Int32) (x : XD) : Option (Int32 × XD) := some (20 - v1, x)
theorem m_Bl_goal {g : GC} (hg : gOk g) (l : Launch)  (o0 : Nat) (h_o0 : 2 ≤ o0 ∧ o0 < 10) (v1 : Int32) (v2 : Int32) (v3 : Int32) (x : XD) (z : ZD) (r : Int32 × XD) (h : f_Bl_goal v1 v2 v3 x = some r) : Mi g l y_Bl_goal c_Bl_goal 4 (some .int) 0 [.ref (g_a g o0), .int v1, .int v2, .int v3] (x, z) r.1 (r.2, z) := by
  refine m_i hg pn_Bl rfl fun X q C => ?_
  refine k_sub (lv' := [(0, .ref (g_a g o0)), (1, .int v1), (2, .int v2), (3, .int v3)]) [0, 1, 2, 3] rfl ?_
  unfold f_Bl_goal at h
  refine k_bipush C 20 d_Bl_goal_0 bp_20 ?_
  refine k_iload_n C d_Bl_goal_2 1 rfl ?_
  refine k_isub C d_Bl_goal_3 ?_
  obtain rfl := Option.some.inj h
  exact k_iret C q d_Bl_goal_4

def f_Bl_number (x : XD) : Option (Int32 × XD) := some (2, x)
theorem m_Bl_number {g : GC} (hg : gOk g) (l : Launch)  (o0 : Nat) (h_o0 : 2 ≤ o0 ∧ o0 < 10) (x : XD) (z : ZD) (r : Int32 × XD) (h : f_Bl_number x = some r) : Mi g l y_Bl_number c_Bl_number 1 (some .int) 0 [.ref (g_a g o0)] (x, z) r.1 (r.2, z) := by
  refine m_i hg pn_Bl rfl fun X q C => ?_
  refine k_sub (lv' := [(0, .ref (g_a g o0))]) [0] rfl ?_
  unfold f_Bl_number at h
  refine k_iconst C 2 d_Bl_number_0 ic_2 ?_
  obtain rfl := Option.some.inj h
  exact k_iret C q d_Bl_number_1

def f_Bl_pace (v1 : Int32) (v2 : Int32) (x : XD) : Option (Int32 × XD) := some (1 + (v2 / 2), x)
theorem m_Bl_pace {g : GC} (hg : gOk g) (l : Launch)  (o0 : Nat) (h_o0 : 2 ≤ o0 ∧ o0 < 10) (v1 : Int32) (v2 : Int32) (x : XD) (z : ZD) (r : Int32 × XD) (h : f_Bl_pace v1 v2 x = some r) : Mi g l y_Bl_pace c_Bl_pace 3 (some .int) 0 [.ref (g_a g o0), .int v1, .int v2] (x, z) r.1 (r.2, z) := by
  refine m_i hg pn_Bl rfl fun X q C => ?_
  refine k_sub (lv' := [(0, .ref (g_a g o0)), (1, .int v1), (2, .int v2)]) [0, 1, 2] rfl ?_
  unfold f_Bl_pace at h
  refine k_iconst C 1 d_Bl_pace_0 ic_1 ?_
  refine k_iload_n C d_Bl_pace_1 2 rfl ?_
  refine k_iconst C 2 d_Bl_pace_2 ic_2 ?_
  refine k_idiv C nz_2 d_Bl_pace_3 ?_
  refine k_iadd C d_Bl_pace_4 ?_
  obtain rfl := Option.some.inj h
  exact k_iret C q d_Bl_pace_5

def f_Co_goal (v1 : Int32) (v2 : Int32) (v3 : Int32) (x : XD) : Option (Int32 × XD) := some (v2, x)
theorem m_Co_goal {g : GC} (hg : gOk g) (l : Launch)  (o0 : Nat) (h_o0 : 2 ≤ o0 ∧ o0 < 10) (v1 : Int32) (v2 : Int32) (v3 : Int32) (x : XD) (z : ZD) (r : Int32 × XD) (h : f_Co_goal v1 v2 v3 x = some r) : Mi g l y_Co_goal c_Co_goal 4 (some .int) 0 [.ref (g_a g o0), .int v1, .int v2, .int v3] (x, z) r.1 (r.2, z) := by
  refine m_i hg pn_Co rfl fun X q C => ?_
  refine k_sub (lv' := [(0, .ref (g_a g o0)), (1, .int v1), (2, .int v2), (3, .int v3)]) [0, 1, 2, 3] rfl ?_
  unfold f_Co_goal at h
  refine k_iload_n C d_Co_goal_0 2 rfl ?_
  obtain rfl := Option.some.inj h
  exact k_iret C q d_Co_goal_1

def f_Co_number (x : XD) : Option (Int32 × XD) := some (1, x)
theorem m_Co_number {g : GC} (hg : gOk g) (l : Launch)  (o0 : Nat) (h_o0 : 2 ≤ o0 ∧ o0 < 10) (x : XD) (z : ZD) (r : Int32 × XD) (h : f_Co_number x = some r) : Mi g l y_Co_number c_Co_number 1 (some .int) 0 [.ref (g_a g o0)] (x, z) r.1 (r.2, z) := by
  refine m_i hg pn_Co rfl fun X q C => ?_
  refine k_sub (lv' := [(0, .ref (g_a g o0))]) [0] rfl ?_
  unfold f_Co_number at h
  refine k_iconst C 1 d_Co_number_0 ic_1 ?_
  obtain rfl := Option.some.inj h
  exact k_iret C q d_Co_number_1

def f_Co_pace (v1 : Int32) (v2 : Int32) (x : XD) : Option (Int32 × XD) := some (2, x)
theorem m_Co_pace {g : GC} (hg : gOk g) (l : Launch)  (o0 : Nat) (h_o0 : 2 ≤ o0 ∧ o0 < 10) (v1 : Int32) (v2 : Int32) (x : XD) (z : ZD) (r : Int32 × XD) (h : f_Co_pace v1 v2 x = some r) : Mi g l y_Co_pace c_Co_pace 3 (some .int) 0 [.ref (g_a g o0), .int v1, .int v2] (x, z) r.1 (r.2, z) := by
  refine m_i hg pn_Co rfl fun X q C => ?_
  refine k_sub (lv' := [(0, .ref (g_a g o0)), (1, .int v1), (2, .int v2)]) [0, 1, 2] rfl ?_
  unfold f_Co_pace at h
  refine k_iconst C 2 d_Co_pace_0 ic_2 ?_
  obtain rfl := Option.some.inj h
  exact k_iret C q d_Co_pace_1

def f_Co_pines (v1 : Int32) (v2 : Int32) (x : XD) : Option (Int32 × XD) := some (0, x)
theorem m_Co_pines {g : GC} (hg : gOk g) (l : Launch)  (o0 : Nat) (h_o0 : 2 ≤ o0 ∧ o0 < 10) (v1 : Int32) (v2 : Int32) (x : XD) (z : ZD) (r : Int32 × XD) (h : f_Co_pines v1 v2 x = some r) : Mi g l y_Co_pines c_Co_pines 3 (some .int) 0 [.ref (g_a g o0), .int v1, .int v2] (x, z) r.1 (r.2, z) := by
  refine m_i hg pn_Co rfl fun X q C => ?_
  refine k_sub (lv' := [(0, .ref (g_a g o0)), (1, .int v1), (2, .int v2)]) [0, 1, 2] rfl ?_
  unfold f_Co_pines at h
  refine k_iconst C 0 d_Co_pines_0 ic_0 ?_
  obtain rfl := Option.some.inj h
  exact k_iret C q d_Co_pines_1

def f_Co_price (v1 : Int32) (x : XD) : Option (Int32 × XD) := some (1, x)
theorem m_Co_price {g : GC} (hg : gOk g) (l : Launch)  (o0 : Nat) (h_o0 : 2 ≤ o0 ∧ o0 < 10) (v1 : Int32) (x : XD) (z : ZD) (r : Int32 × XD) (h : f_Co_price v1 x = some r) : Mi g l y_Co_price c_Co_price 2 (some .int) 0 [.ref (g_a g o0), .int v1] (x, z) r.1 (r.2, z) := by
  refine m_i hg pn_Co rfl fun X q C => ?_
  refine k_sub (lv' := [(0, .ref (g_a g o0)), (1, .int v1)]) [0, 1] rfl ?_
  unfold f_Co_price at h
  refine k_iconst C 1 d_Co_price_0 ic_1 ?_
  obtain rfl := Option.some.inj h
  exact k_iret C q d_Co_price_1

def f_Co_walk (x : XD) : Option (Int32 × XD) := some (2, x)
theorem m_Co_walk {g : GC} (hg : gOk g) (l : Launch)  (o0 : Nat) (h_o0 : 2 ≤ o0 ∧ o0 < 10) (x : XD) (z : ZD) (r : Int32 × XD) (h : f_Co_walk x = some r) : Mi g l y_Co_walk c_Co_walk 1 (some .int) 0 [.ref (g_a g o0)] (x, z) r.1 (r.2, z) := by
  refine m_i hg pn_Co rfl fun X q C => ?_
  refine k_sub (lv' := [(0, .ref (g_a g o0))]) [0] rfl ?_
  unfold f_Co_walk at h
  refine k_iconst C 2 d_Co_walk_0 ic_2 ?_
  obtain rfl := Option.some.inj h
  exact k_iret C q d_Co_walk_1

def f_Dr_number (x : XD) : Option (Int32 × XD) := some (4, x)
theorem m_Dr_number {g : GC} (hg : gOk g) (l : Launch)  (o0 : Nat) (h_o0 : 2 ≤ o0 ∧ o0 < 10) (x : XD) (z : ZD) (r : Int32 × XD) (h : f_Dr_number x = some r) : Mi g l y_Dr_number c_Dr_number 1 (some .int) 0 [.ref (g_a g o0)] (x, z) r.1 (r.2, z) := by
  refine m_i hg pn_Dr rfl fun X q C => ?_
  refine k_sub (lv' := [(0, .ref (g_a g o0))]) [0] rfl ?_
  unfold f_Dr_number at h
  refine k_iconst C 4 d_Dr_number_0 ic_4 ?_
  obtain rfl := Option.some.inj h
  exact k_iret C q d_Dr_number_1

def f_Dr_price (v1 : Int32) (x : XD) : Option (Int32 × XD) := some (7, x)
theorem m_Dr_price {g : GC} (hg : gOk g) (l : Launch)  (o0 : Nat) (h_o0 : 2 ≤ o0 ∧ o0 < 10) (v1 : Int32) (x : XD) (z : ZD) (r : Int32 × XD) (h : f_Dr_price v1 x = some r) : Mi g l y_Dr_price c_Dr_price 2 (some .int) 0 [.ref (g_a g o0), .int v1] (x, z) r.1 (r.2, z) := by
  refine m_i hg pn_Dr rfl fun X q C => ?_
  refine k_sub (lv' := [(0, .ref (g_a g o0)), (1, .int v1)]) [0, 1] rfl ?_
  unfold f_Dr_price at h
  refine k_bipush C 7 d_Dr_price_0 bp_7 ?_
  obtain rfl := Option.some.inj h
  exact k_iret C q d_Dr_price_2

def f_Fo_goal (v1 : Int32) (v2 : Int32) (v3 : Int32) (x : XD) : Option (Int32 × XD) := some (v3, x)
theorem m_Fo_goal {g : GC} (hg : gOk g) (l : Launch)  (o0 : Nat) (h_o0 : 2 ≤ o0 ∧ o0 < 10) (v1 : Int32) (v2 : Int32) (v3 : Int32) (x : XD) (z : ZD) (r : Int32 × XD) (h : f_Fo_goal v1 v2 v3 x = some r) : Mi g l y_Fo_goal c_Fo_goal 4 (some .int) 0 [.ref (g_a g o0), .int v1, .int v2, .int v3] (x, z) r.1 (r.2, z) := by
  refine m_i hg pn_Fo rfl fun X q C => ?_
  refine k_sub (lv' := [(0, .ref (g_a g o0)), (1, .int v1), (2, .int v2), (3, .int v3)]) [0, 1, 2, 3] rfl ?_
  unfold f_Fo_goal at h
  refine k_iload_n C d_Fo_goal_0 3 rfl ?_
  obtain rfl := Option.some.inj h
  exact k_iret C q d_Fo_goal_1

def f_Fo_number (x : XD) : Option (Int32 × XD) := some (5, x)
theorem m_Fo_number {g : GC} (hg : gOk g) (l : Launch)  (o0 : Nat) (h_o0 : 2 ≤ o0 ∧ o0 < 10) (x : XD) (z : ZD) (r : Int32 × XD) (h : f_Fo_number x = some r) : Mi g l y_Fo_number c_Fo_number 1 (some .int) 0 [.ref (g_a g o0)] (x, z) r.1 (r.2, z) := by
  refine m_i hg pn_Fo rfl fun X q C => ?_
  refine k_sub (lv' := [(0, .ref (g_a g o0))]) [0] rfl ?_
  unfold f_Fo_number at h
  refine k_iconst C 5 d_Fo_number_0 ic_5 ?_
  obtain rfl := Option.some.inj h
  exact k_iret C q d_Fo_number_1

def f_Ge_number (x : XD) : Option (Int32 × XD) := some (7, x)
theorem m_Ge_number {g : GC} (hg : gOk g) (l : Launch)  (o0 : Nat) (h_o0 : 2 ≤ o0 ∧ o0 < 10) (x : XD) (z : ZD) (r : Int32 × XD) (h : f_Ge_number x = some r) : Mi g l y_Ge_number c_Ge_number 1 (some .int) 0 [.ref (g_a g o0)] (x, z) r.1 (r.2, z) := by
  refine m_i hg pn_Ge rfl fun X q C => ?_
  refine k_sub (lv' := [(0, .ref (g_a g o0))]) [0] rfl ?_
  unfold f_Ge_number at h
  refine k_bipush C 7 d_Ge_number_0 bp_7 ?_
  obtain rfl := Option.some.inj h
  exact k_iret C q d_Ge_number_2

def f_Ge_walk (x : XD) : Option (Int32 × XD) := some (3, x)
theorem m_Ge_walk {g : GC} (hg : gOk g) (l : Launch)  (o0 : Nat) (h_o0 : 2 ≤ o0 ∧ o0 < 10) (x : XD) (z : ZD) (r : Int32 × XD) (h : f_Ge_walk x = some r) : Mi g l y_Ge_walk c_Ge_walk 1 (some .int) 0 [.ref (g_a g o0)] (x, z) r.1 (r.2, z) := by
  refine m_i hg pn_Ge rfl fun X q C => ?_
  refine k_sub (lv' := [(0, .ref (g_a g o0))]) [0] rfl ?_
  unfold f_Ge_walk at h
  refine k_iconst C 3 d_Ge_walk_0 ic_3 ?_
  obtain rfl := Option.some.inj h
  exact k_iret C q d_Ge_walk_1

def f_Ho_goal (v1 : Int32) (v2 : Int32) (v3 : Int32) (x : XD) : Option (Int32 × XD) := some (v1, x)
theorem m_Ho_goal {g : GC} (hg : gOk g) (l : Launch)  (o0 : Nat) (h_o0 : 2 ≤ o0 ∧ o0 < 10) (v1 : Int32) (v2 : Int32) (v3 : Int32) (x : XD) (z : ZD) (r : Int32 × XD) (h : f_Ho_goal v1 v2 v3 x = some r) : Mi g l y_Ho_goal c_Ho_goal 4 (some .int) 0 [.ref (g_a g o0), .int v1, .int v2, .int v3] (x, z) r.1 (r.2, z) := by
  refine m_i hg pn_Ho rfl fun X q C => ?_
  refine k_sub (lv' := [(0, .ref (g_a g o0)), (1, .int v1), (2, .int v2), (3, .int v3)]) [0, 1, 2, 3] rfl ?_
  unfold f_Ho_goal at h
  refine k_iload_n C d_Ho_goal_0 1 rfl ?_
  obtain rfl := Option.some.inj h
  exact k_iret C q d_Ho_goal_1

def f_Ho_number (x : XD) : Option (Int32 × XD) := some (0, x)
theorem m_Ho_number {g : GC} (hg : gOk g) (l : Launch)  (o0 : Nat) (h_o0 : 2 ≤ o0 ∧ o0 < 10) (x : XD) (z : ZD) (r : Int32 × XD) (h : f_Ho_number x = some r) : Mi g l y_Ho_number c_Ho_number 1 (some .int) 0 [.ref (g_a g o0)] (x, z) r.1 (r.2, z) := by
  refine m_i hg pn_Ho rfl fun X q C => ?_
  refine k_sub (lv' := [(0, .ref (g_a g o0))]) [0] rfl ?_
  unfold f_Ho_number at h
  refine k_iconst C 0 d_Ho_number_0 ic_0 ?_
  obtain rfl := Option.some.inj h
  exact k_iret C q d_Ho_number_1

def f_Ho_pace (v1 : Int32) (v2 : Int32) (x : XD) : Option (Int32 × XD) := some (1 + (v2 / 4), x)
theorem m_Ho_pace {g : GC} (hg : gOk g) (l : Launch)  (o0 : Nat) (h_o0 : 2 ≤ o0 ∧ o0 < 10) (v1 : Int32) (v2 : Int32) (x : XD) (z : ZD) (r : Int32 × XD) (h : f_Ho_pace v1 v2 x = some r) : Mi g l y_Ho_pace c_Ho_pace 3 (some .int) 0 [.ref (g_a g o0), .int v1, .int v2] (x, z) r.1 (r.2, z) := by
  refine m_i hg pn_Ho rfl fun X q C => ?_
  refine k_sub (lv' := [(0, .ref (g_a g o0)), (1, .int v1), (2, .int v2)]) [0, 1, 2] rfl ?_
  unfold f_Ho_pace at h
  refine k_iconst C 1 d_Ho_pace_0 ic_1 ?_
  refine k_iload_n C d_Ho_pace_1 2 rfl ?_
  refine k_iconst C 4 d_Ho_pace_2 ic_4 ?_
  refine k_idiv C nz_4 d_Ho_pace_3 ?_
  refine k_iadd C d_Ho_pace_4 ?_
  obtain rfl := Option.some.inj h
  exact k_iret C q d_Ho_pace_5

def f_Ho_pines (v1 : Int32) (v2 : Int32) (x : XD) : Option (Int32 × XD) := some (1 + (v2 / 5), x)
theorem m_Ho_pines {g : GC} (hg : gOk g) (l : Launch)  (o0 : Nat) (h_o0 : 2 ≤ o0 ∧ o0 < 10) (v1 : Int32) (v2 : Int32) (x : XD) (z : ZD) (r : Int32 × XD) (h : f_Ho_pines v1 v2 x = some r) : Mi g l y_Ho_pines c_Ho_pines 3 (some .int) 0 [.ref (g_a g o0), .int v1, .int v2] (x, z) r.1 (r.2, z) := by
  refine m_i hg pn_Ho rfl fun X q C => ?_
  refine k_sub (lv' := [(0, .ref (g_a g o0)), (1, .int v1), (2, .int v2)]) [0, 1, 2] rfl ?_
  unfold f_Ho_pines at h
  refine k_iconst C 1 d_Ho_pines_0 ic_1 ?_
  refine k_iload_n C d_Ho_pines_1 2 rfl ?_
  refine k_iconst C 5 d_Ho_pines_2 ic_5 ?_
  refine k_idiv C nz_5 d_Ho_pines_3 ?_
  refine k_iadd C d_Ho_pines_4 ?_
  obtain rfl := Option.some.inj h
  exact k_iret C q d_Ho_pines_5

def f_Ho_price (v1 : Int32) (x : XD) : Option (Int32 × XD) := some (2, x)
theorem m_Ho_price {g : GC} (hg : gOk g) (l : Launch)  (o0 : Nat) (h_o0 : 2 ≤ o0 ∧ o0 < 10) (v1 : Int32) (x : XD) (z : ZD) (r : Int32 × XD) (h : f_Ho_price v1 x = some r) : Mi g l y_Ho_price c_Ho_price 2 (some .int) 0 [.ref (g_a g o0), .int v1] (x, z) r.1 (r.2, z) := by
  refine m_i hg pn_Ho rfl fun X q C => ?_
  refine k_sub (lv' := [(0, .ref (g_a g o0)), (1, .int v1)]) [0, 1] rfl ?_
  unfold f_Ho_price at h
  refine k_iconst C 2 d_Ho_price_0 ic_2 ?_
  obtain rfl := Option.some.inj h
  exact k_iret C q d_Ho_price_1

def f_Ho_walk (x : XD) : Option (Int32 × XD) := some (1, x)
theorem m_Ho_walk {g : GC} (hg : gOk g) (l : Launch)  (o0 : Nat) (h_o0 : 2 ≤ o0 ∧ o0 < 10) (x : XD) (z : ZD) (r : Int32 × XD) (h : f_Ho_walk x = some r) : Mi g l y_Ho_walk c_Ho_walk 1 (some .int) 0 [.ref (g_a g o0)] (x, z) r.1 (r.2, z) := by
  refine m_i hg pn_Ho rfl fun X q C => ?_
  refine k_sub (lv' := [(0, .ref (g_a g o0))]) [0] rfl ?_
  unfold f_Ho_walk at h
  refine k_iconst C 1 d_Ho_walk_0 ic_1 ?_
  obtain rfl := Option.some.inj h
  exact k_iret C q d_Ho_walk_1

def f_In_bitCount (v0 : Int32) (x : XD) : Option (Int32 × XD) := lt (v0 - (((Int32.toUInt32 v0 >>> (Int32.toUInt32 1 &&& Int32.toUInt32 31)).toInt32) &&& 1431655765)) fun (y1 : Int32) => lt ((y1 &&& 858993459) + (((Int32.toUInt32 y1 >>> (Int32.toUInt32 2 &&& Int32.toUInt32 31)).toInt32) &&& 858993459)) fun (y2 : Int32) => lt ((y2 + ((Int32.toUInt32 y2 >>> (Int32.toUInt32 4 &&& Int32.toUInt32 31)).toInt32)) &&& 252645135) fun (y3 : Int32) => lt (y3 + ((Int32.toUInt32 y3 >>> (Int32.toUInt32 8 &&& Int32.toUInt32 31)).toInt32)) fun (y4 : Int32) => lt (y4 + ((Int32.toUInt32 y4 >>> (Int32.toUInt32 16 &&& Int32.toUInt32 31)).toInt32)) fun (y5 : Int32) => some (y5 &&& 63, x)
theorem m_In_bitCount {g : GC} (hg : gOk g) (l : Launch)  (v0 : Int32) (x : XD) (z : ZD) (r : Int32 × XD) (h : f_In_bitCount v0 x = some r) : Mi g l y_In_bitCount c_In_bitCount 1 (some .int) 0 [.int v0] (x, z) r.1 (r.2, z) := by
  refine m_i hg pn_In rfl fun X q C => ?_
  refine k_sub (lv' := [(0, .int v0)]) [0] rfl ?_
  unfold f_In_bitCount at h
  refine k_iload_n C d_In_bitCount_0 0 rfl ?_
  refine k_iload_n C d_In_bitCount_1 0 rfl ?_
  refine k_iconst C 1 d_In_bitCount_2 ic_1 ?_
  refine k_iushr C d_In_bitCount_3 ?_
  refine k_ldcw C 1431655765 l_690 d_In_bitCount_4 ?_
  refine k_iand C d_In_bitCount_7 ?_
  refine k_isub C d_In_bitCount_8 ?_
  obtain ⟨y1, ey1, h⟩ := lt_some h
  refine k_nmI ey1 ?_
  refine k_istore_n C (lv' := [(0, .int y1)]) d_In_bitCount_9 rfl rfl ?_
  refine k_iload_n C d_In_bitCount_10 0 rfl ?_
  refine k_ldcw C 858993459 l_691 d_In_bitCount_11 ?_
  refine k_iand C d_In_bitCount_14 ?_
  refine k_iload_n C d_In_bitCount_15 0 rfl ?_
  refine k_iconst C 2 d_In_bitCount_16 ic_2 ?_
  refine k_iushr C d_In_bitCount_17 ?_
  refine k_ldcw C 858993459 l_691 d_In_bitCount_18 ?_
  refine k_iand C d_In_bitCount_21 ?_
  refine k_iadd C d_In_bitCount_22 ?_
  obtain ⟨y2, ey2, h⟩ := lt_some h
  refine k_nmI ey2 ?_
  refine k_istore_n C (lv' := [(0, .int y2)]) d_In_bitCount_23 rfl rfl ?_
  refine k_iload_n C d_In_bitCount_24 0 rfl ?_
  refine k_iload_n C d_In_bitCount_25 0 rfl ?_
  refine k_iconst C 4 d_In_bitCount_26 ic_4 ?_
  refine k_iushr C d_In_bitCount_27 ?_
  refine k_iadd C d_In_bitCount_28 ?_
  refine k_ldcw C 252645135 l_692 d_In_bitCount_29 ?_
  refine k_iand C d_In_bitCount_32 ?_
  obtain ⟨y3, ey3, h⟩ := lt_some h
  refine k_nmI ey3 ?_
  refine k_istore_n C (lv' := [(0, .int y3)]) d_In_bitCount_33 rfl rfl ?_
  refine k_iload_n C d_In_bitCount_34 0 rfl ?_
  refine k_iload_n C d_In_bitCount_35 0 rfl ?_
  refine k_bipush C 8 d_In_bitCount_36 bp_8 ?_
  refine k_iushr C d_In_bitCount_38 ?_
  refine k_iadd C d_In_bitCount_39 ?_
  obtain ⟨y4, ey4, h⟩ := lt_some h
  refine k_nmI ey4 ?_
  refine k_istore_n C (lv' := [(0, .int y4)]) d_In_bitCount_40 rfl rfl ?_
  refine k_iload_n C d_In_bitCount_41 0 rfl ?_
  refine k_iload_n C d_In_bitCount_42 0 rfl ?_
  refine k_bipush C 16 d_In_bitCount_43 bp_16 ?_
  refine k_iushr C d_In_bitCount_45 ?_
  refine k_iadd C d_In_bitCount_46 ?_
  obtain ⟨y5, ey5, h⟩ := lt_some h
  refine k_nmI ey5 ?_
  refine k_istore_n C (lv' := [(0, .int y5)]) d_In_bitCount_47 rfl rfl ?_
  refine k_iload_n C d_In_bitCount_48 0 rfl ?_
  refine k_bipush C 63 d_In_bitCount_49 bp_63 ?_
  refine k_iand C d_In_bitCount_51 ?_
  obtain rfl := Option.some.inj h
  exact k_iret C q d_In_bitCount_52

def f_In_compare (v0 : Int32) (v1 : Int32) (x : XD) : Option (Int32 × XD) := (if v1 ≤ v0 then (if v0 = v1 then some (0, x) else some (1, x)) else some ((-1), x))
theorem m_In_compare {g : GC} (hg : gOk g) (l : Launch)  (v0 : Int32) (v1 : Int32) (x : XD) (z : ZD) (r : Int32 × XD) (h : f_In_compare v0 v1 x = some r) : Mi g l y_In_compare c_In_compare 2 (some .int) 0 [.int v0, .int v1] (x, z) r.1 (r.2, z) := by
  refine m_i hg pn_In rfl fun X q C => ?_
  refine k_sub (lv' := [(0, .int v0), (1, .int v1)]) [0, 1] rfl ?_
  unfold f_In_compare at h
  refine k_iload_n C d_In_compare_0 0 rfl ?_
  refine k_iload_n C d_In_compare_1 1 rfl ?_
  refine k_icmp_ge C 9 d_In_compare_2 (by decide) (fun c1 => ?_) (fun c1 => ?_)
  · have h := (if_pos c1).symm.trans h
    refine k_iload_n C d_In_compare_9 0 rfl ?_
    refine k_iload_n C d_In_compare_10 1 rfl ?_
    refine k_icmp_ne C 18 d_In_compare_11 (by decide) (fun c2 => ?_) (fun c2 => ?_)
    · have h := (if_neg c2).symm.trans h
      refine k_iconst C 1 d_In_compare_18 ic_1 ?_
      obtain rfl := Option.some.inj h
      exact k_iret C q d_In_compare_19
    · have h := (if_pos c2).symm.trans h
      refine k_iconst C 0 d_In_compare_14 ic_0 ?_
      refine k_goto C 19 d_In_compare_15 (by decide) ?_
      obtain rfl := Option.some.inj h
      exact k_iret C q d_In_compare_19
  · have h := (if_neg c1).symm.trans h
    refine k_iconst C (-1) d_In_compare_5 ic_m1 ?_
    refine k_goto C 19 d_In_compare_6 (by decide) ?_
    obtain rfl := Option.some.inj h
    exact k_iret C q d_In_compare_19

def f_Ma_number (x : XD) : Option (Int32 × XD) := some (6, x)
theorem m_Ma_number {g : GC} (hg : gOk g) (l : Launch)  (o0 : Nat) (h_o0 : 2 ≤ o0 ∧ o0 < 10) (x : XD) (z : ZD) (r : Int32 × XD) (h : f_Ma_number x = some r) : Mi g l y_Ma_number c_Ma_number 1 (some .int) 0 [.ref (g_a g o0)] (x, z) r.1 (r.2, z) := by
  refine m_i hg pn_Ma rfl fun X q C => ?_
  refine k_sub (lv' := [(0, .ref (g_a g o0))]) [0] rfl ?_
  unfold f_Ma_number at h
  refine k_bipush C 6 d_Ma_number_0 bp_6 ?_
  obtain rfl := Option.some.inj h
  exact k_iret C q d_Ma_number_2

def f_Ma_walk (x : XD) : Option (Int32 × XD) := some (2, x)
theorem m_Ma_walk {g : GC} (hg : gOk g) (l : Launch)  (o0 : Nat) (h_o0 : 2 ≤ o0 ∧ o0 < 10) (x : XD) (z : ZD) (r : Int32 × XD) (h : f_Ma_walk x = some r) : Mi g l y_Ma_walk c_Ma_walk 1 (some .int) 0 [.ref (g_a g o0)] (x, z) r.1 (r.2, z) := by
  refine m_i hg pn_Ma rfl fun X q C => ?_
  refine k_sub (lv' := [(0, .ref (g_a g o0))]) [0] rfl ?_
  unfold f_Ma_walk at h
  refine k_iconst C 2 d_Ma_walk_0 ic_2 ?_
  obtain rfl := Option.some.inj h
  exact k_iret C q d_Ma_walk_1

def f_Tw_number (x : XD) : Option (Int32 × XD) := some (3, x)
theorem m_Tw_number {g : GC} (hg : gOk g) (l : Launch)  (o0 : Nat) (h_o0 : 2 ≤ o0 ∧ o0 < 10) (x : XD) (z : ZD) (r : Int32 × XD) (h : f_Tw_number x = some r) : Mi g l y_Tw_number c_Tw_number 1 (some .int) 0 [.ref (g_a g o0)] (x, z) r.1 (r.2, z) := by
  refine m_i hg pn_Tw rfl fun X q C => ?_
  refine k_sub (lv' := [(0, .ref (g_a g o0))]) [0] rfl ?_
  unfold f_Tw_number at h
  refine k_iconst C 3 d_Tw_number_0 ic_3 ?_
  obtain rfl := Option.some.inj h
  exact k_iret C q d_Tw_number_1

def f_Bl_pines (v1 : Int32) (v2 : Int32) (x : XD) : Option (Int32 × XD) := (f_Ho_pines v1 v2 x).bind fun p1 => (some (2 * p1.1, p1.2))
theorem m_Bl_pines {g : GC} (hg : gOk g) (l : Launch)  (o0 : Nat) (h_o0 : 2 ≤ o0 ∧ o0 < 10) (v1 : Int32) (v2 : Int32) (x : XD) (z : ZD) (r : Int32 × XD) (h : f_Bl_pines v1 v2 x = some r) : Mi g l y_Bl_pines c_Bl_pines 3 (some .int) 1 [.ref (g_a g o0), .int v1, .int v2] (x, z) r.1 (r.2, z) := by
  refine m_i hg pn_Bl rfl fun X q C => ?_
  refine k_sub (lv' := [(0, .ref (g_a g o0)), (1, .int v1), (2, .int v2)]) [0, 1, 2] rfl ?_
  unfold f_Bl_pines at h
  refine k_iconst C 2 d_Bl_pines_0 ic_2 ?_
  refine k_aload_n C d_Bl_pines_1 0 rfl ?_
  refine k_iload_n C d_Bl_pines_2 1 rfl ?_
  refine k_iload_n C d_Bl_pines_3 2 rfl ?_
  obtain ⟨p1, ep1, h⟩ := bd_some h
  obtain ⟨kc, hkc⟩ := ko_cls h_o0
  refine k_callPi C q_Bl_9 (fun l => m_Ho_pines (cx_g C) l o0 h_o0 v1 v2 x z p1 ep1) rfl rfl (rtI_c q) (lt105 h_o0 rfl) (sh_Ko h_o0) hkc rfl rfl rfl d_Bl_pines_4 ?_
  refine k_imul C d_Bl_pines_7 ?_
  obtain rfl := Option.some.inj h
  exact k_iret C q d_Bl_pines_8

def f_Bl_price (v1 : Int32) (x : XD) : Option (Int32 × XD) := (f_Ho_price v1 x).bind fun p1 => (some (p1.1 + v1, p1.2))
theorem m_Bl_price {g : GC} (hg : gOk g) (l : Launch)  (o0 : Nat) (h_o0 : 2 ≤ o0 ∧ o0 < 10) (v1 : Int32) (x : XD) (z : ZD) (r : Int32 × XD) (h : f_Bl_price v1 x = some r) : Mi g l y_Bl_price c_Bl_price 2 (some .int) 1 [.ref (g_a g o0), .int v1] (x, z) r.1 (r.2, z) := by
  refine m_i hg pn_Bl rfl fun X q C => ?_
  refine k_sub (lv' := [(0, .ref (g_a g o0)), (1, .int v1)]) [0, 1] rfl ?_
  unfold f_Bl_price at h
  refine k_aload_n C d_Bl_price_0 0 rfl ?_
  refine k_iload_n C d_Bl_price_1 1 rfl ?_
  obtain ⟨p1, ep1, h⟩ := bd_some h
  obtain ⟨kc, hkc⟩ := ko_cls h_o0
  refine k_callPi C q_Bl_13 (fun l => m_Ho_price (cx_g C) l o0 h_o0 v1 x z p1 ep1) rfl rfl (rtI_c q) (lt105 h_o0 rfl) (sh_Ko h_o0) hkc rfl rfl rfl d_Bl_price_2 ?_
  refine k_iload_n C d_Bl_price_5 1 rfl ?_
  refine k_iadd C d_Bl_price_6 ?_
  obtain rfl := Option.some.inj h
  exact k_iret C q d_Bl_price_7

def f_Dr_pines (v1 : Int32) (v2 : Int32) (x : XD) : Option (Int32 × XD) := (f_Ho_pines v1 v2 x).bind fun p1 => (some (p1.1 + v1, p1.2))
theorem m_Dr_pines {g : GC} (hg : gOk g) (l : Launch)  (o0 : Nat) (h_o0 : 2 ≤ o0 ∧ o0 < 10) (v1 : Int32) (v2 : Int32) (x : XD) (z : ZD) (r : Int32 × XD) (h : f_Dr_pines v1 v2 x = some r) : Mi g l y_Dr_pines c_Dr_pines 3 (some .int) 1 [.ref (g_a g o0), .int v1, .int v2] (x, z) r.1 (r.2, z) := by
  refine m_i hg pn_Dr rfl fun X q C => ?_
  refine k_sub (lv' := [(0, .ref (g_a g o0)), (1, .int v1), (2, .int v2)]) [0, 1, 2] rfl ?_
  unfold f_Dr_pines at h
  refine k_aload_n C d_Dr_pines_0 0 rfl ?_
  refine k_iload_n C d_Dr_pines_1 1 rfl ?_
  refine k_iload_n C d_Dr_pines_2 2 rfl ?_
  obtain ⟨p1, ep1, h⟩ := bd_some h
  obtain ⟨kc, hkc⟩ := ko_cls h_o0
  refine k_callPi C q_Dr_7 (fun l => m_Ho_pines (cx_g C) l o0 h_o0 v1 v2 x z p1 ep1) rfl rfl (rtI_c q) (lt105 h_o0 rfl) (sh_Ko h_o0) hkc rfl rfl rfl d_Dr_pines_3 ?_
  refine k_iload_n C d_Dr_pines_6 1 rfl ?_
  refine k_iadd C d_Dr_pines_7 ?_
  obtain rfl := Option.some.inj h
  exact k_iret C q d_Dr_pines_8

def f_Fo_pace (v1 : Int32) (v2 : Int32) (x : XD) : Option (Int32 × XD) := (f_Ho_pace v1 v2 x).bind fun p1 => (some (p1.1 + 1, p1.2))
theorem m_Fo_pace {g : GC} (hg : gOk g) (l : Launch)  (o0 : Nat) (h_o0 : 2 ≤ o0 ∧ o0 < 10) (v1 : Int32) (v2 : Int32) (x : XD) (z : ZD) (r : Int32 × XD) (h : f_Fo_pace v1 v2 x = some r) : Mi g l y_Fo_pace c_Fo_pace 3 (some .int) 1 [.ref (g_a g o0), .int v1, .int v2] (x, z) r.1 (r.2, z) := by
  refine m_i hg pn_Fo rfl fun X q C => ?_
  refine k_sub (lv' := [(0, .ref (g_a g o0)), (1, .int v1), (2, .int v2)]) [0, 1, 2] rfl ?_
  unfold f_Fo_pace at h
  refine k_aload_n C d_Fo_pace_0 0 rfl ?_
  refine k_iload_n C d_Fo_pace_1 1 rfl ?_
  refine k_iload_n C d_Fo_pace_2 2 rfl ?_
  obtain ⟨p1, ep1, h⟩ := bd_some h
  obtain ⟨kc, hkc⟩ := ko_cls h_o0
  refine k_callPi C q_Fo_11 (fun l => m_Ho_pace (cx_g C) l o0 h_o0 v1 v2 x z p1 ep1) rfl rfl (rtI_c q) (lt105 h_o0 rfl) (sh_Ko h_o0) hkc rfl rfl rfl d_Fo_pace_3 ?_
  refine k_iconst C 1 d_Fo_pace_6 ic_1 ?_
  refine k_iadd C d_Fo_pace_7 ?_
  obtain rfl := Option.some.inj h
  exact k_iret C q d_Fo_pace_8

def f_Fo_pines (v1 : Int32) (v2 : Int32) (x : XD) : Option (Int32 × XD) := (f_Ho_pines v1 v2 x).bind fun p1 => (some (p1.1 + (v1 / 2), p1.2))
theorem m_Fo_pines {g : GC} (hg : gOk g) (l : Launch)  (o0 : Nat) (h_o0 : 2 ≤ o0 ∧ o0 < 10) (v1 : Int32) (v2 : Int32) (x : XD) (z : ZD) (r : Int32 × XD) (h : f_Fo_pines v1 v2 x = some r) : Mi g l y_Fo_pines c_Fo_pines 3 (some .int) 1 [.ref (g_a g o0), .int v1, .int v2] (x, z) r.1 (r.2, z) := by
  refine m_i hg pn_Fo rfl fun X q C => ?_
  refine k_sub (lv' := [(0, .ref (g_a g o0)), (1, .int v1), (2, .int v2)]) [0, 1, 2] rfl ?_
  unfold f_Fo_pines at h
  refine k_aload_n C d_Fo_pines_0 0 rfl ?_
  refine k_iload_n C d_Fo_pines_1 1 rfl ?_
  refine k_iload_n C d_Fo_pines_2 2 rfl ?_
  obtain ⟨p1, ep1, h⟩ := bd_some h
  obtain ⟨kc, hkc⟩ := ko_cls h_o0
  refine k_callPi C q_Fo_7 (fun l => m_Ho_pines (cx_g C) l o0 h_o0 v1 v2 x z p1 ep1) rfl rfl (rtI_c q) (lt105 h_o0 rfl) (sh_Ko h_o0) hkc rfl rfl rfl d_Fo_pines_3 ?_
  refine k_iload_n C d_Fo_pines_6 1 rfl ?_
  refine k_iconst C 2 d_Fo_pines_7 ic_2 ?_
  refine k_idiv C nz_2 d_Fo_pines_8 ?_
  refine k_iadd C d_Fo_pines_9 ?_
  obtain rfl := Option.some.inj h
  exact k_iret C q d_Fo_pines_10

def f_Fo_price (v1 : Int32) (x : XD) : Option (Int32 × XD) := (f_Ho_price v1 x).bind fun p1 => (some (p1.1 - 1, p1.2))
theorem m_Fo_price {g : GC} (hg : gOk g) (l : Launch)  (o0 : Nat) (h_o0 : 2 ≤ o0 ∧ o0 < 10) (v1 : Int32) (x : XD) (z : ZD) (r : Int32 × XD) (h : f_Fo_price v1 x = some r) : Mi g l y_Fo_price c_Fo_price 2 (some .int) 1 [.ref (g_a g o0), .int v1] (x, z) r.1 (r.2, z) := by
  refine m_i hg pn_Fo rfl fun X q C => ?_
  refine k_sub (lv' := [(0, .ref (g_a g o0)), (1, .int v1)]) [0, 1] rfl ?_
  unfold f_Fo_price at h
  refine k_aload_n C d_Fo_price_0 0 rfl ?_
  refine k_iload_n C d_Fo_price_1 1 rfl ?_
  obtain ⟨p1, ep1, h⟩ := bd_some h
  obtain ⟨kc, hkc⟩ := ko_cls h_o0
  refine k_callPi C q_Fo_14 (fun l => m_Ho_price (cx_g C) l o0 h_o0 v1 x z p1 ep1) rfl rfl (rtI_c q) (lt105 h_o0 rfl) (sh_Ko h_o0) hkc rfl rfl rfl d_Fo_price_2 ?_
  refine k_iconst C 1 d_Fo_price_5 ic_1 ?_
  refine k_isub C d_Fo_price_6 ?_
  obtain rfl := Option.some.inj h
  exact k_iret C q d_Fo_price_7

def f_Ge_pace (v1 : Int32) (v2 : Int32) (x : XD) : Option (Int32 × XD) := (f_Co_pace v1 v2 x).bind fun p1 => (some (p1.1 + 1, p1.2))
theorem m_Ge_pace {g : GC} (hg : gOk g) (l : Launch)  (o0 : Nat) (h_o0 : 2 ≤ o0 ∧ o0 < 10) (v1 : Int32) (v2 : Int32) (x : XD) (z : ZD) (r : Int32 × XD) (h : f_Ge_pace v1 v2 x = some r) : Mi g l y_Ge_pace c_Ge_pace 3 (some .int) 1 [.ref (g_a g o0), .int v1, .int v2] (x, z) r.1 (r.2, z) := by
  refine m_i hg pn_Ge rfl fun X q C => ?_
  refine k_sub (lv' := [(0, .ref (g_a g o0)), (1, .int v1), (2, .int v2)]) [0, 1, 2] rfl ?_
  unfold f_Ge_pace at h
  refine k_aload_n C d_Ge_pace_0 0 rfl ?_
  refine k_iload_n C d_Ge_pace_1 1 rfl ?_
  refine k_iload_n C d_Ge_pace_2 2 rfl ?_
  obtain ⟨p1, ep1, h⟩ := bd_some h
  obtain ⟨kc, hkc⟩ := ko_cls h_o0
  refine k_callPi C q_Ge_7 (fun l => m_Co_pace (cx_g C) l o0 h_o0 v1 v2 x z p1 ep1) rfl rfl (rtI_c q) (lt105 h_o0 rfl) (sh_Ko h_o0) hkc rfl rfl rfl d_Ge_pace_3 ?_
  refine k_iconst C 1 d_Ge_pace_6 ic_1 ?_
  refine k_iadd C d_Ge_pace_7 ?_
  obtain rfl := Option.some.inj h
  exact k_iret C q d_Ge_pace_8

def f_Ge_price (v1 : Int32) (x : XD) : Option (Int32 × XD) := (f_Co_price v1 x).bind fun p1 => (some (p1.1 + 3, p1.2))
theorem m_Ge_price {g : GC} (hg : gOk g) (l : Launch)  (o0 : Nat) (h_o0 : 2 ≤ o0 ∧ o0 < 10) (v1 : Int32) (x : XD) (z : ZD) (r : Int32 × XD) (h : f_Ge_price v1 x = some r) : Mi g l y_Ge_price c_Ge_price 2 (some .int) 1 [.ref (g_a g o0), .int v1] (x, z) r.1 (r.2, z) := by
  refine m_i hg pn_Ge rfl fun X q C => ?_
  refine k_sub (lv' := [(0, .ref (g_a g o0)), (1, .int v1)]) [0, 1] rfl ?_
  unfold f_Ge_price at h
  refine k_aload_n C d_Ge_price_0 0 rfl ?_
  refine k_iload_n C d_Ge_price_1 1 rfl ?_
  obtain ⟨p1, ep1, h⟩ := bd_some h
  obtain ⟨kc, hkc⟩ := ko_cls h_o0
  refine k_callPi C q_Ge_11 (fun l => m_Co_price (cx_g C) l o0 h_o0 v1 x z p1 ep1) rfl rfl (rtI_c q) (lt105 h_o0 rfl) (sh_Ko h_o0) hkc rfl rfl rfl d_Ge_price_2 ?_
  refine k_iconst C 3 d_Ge_price_5 ic_3 ?_
  refine k_iadd C d_Ge_price_6 ?_
  obtain rfl := Option.some.inj h
  exact k_iret C q d_Ge_price_7

def f_Ma_goal (v1 : Int32) (v2 : Int32) (v3 : Int32) (x : XD) : Option (Int32 × XD) := (if x_abs ((20 - v1) - v2) ≤ x_abs (v1 - v2) then some (v1, x) else some (20 - v1, x))
theorem m_Ma_goal {g : GC} (hg : gOk g) (l : Launch)  (o0 : Nat) (h_o0 : 2 ≤ o0 ∧ o0 < 10) (v1 : Int32) (v2 : Int32) (v3 : Int32) (x : XD) (z : ZD) (r : Int32 × XD) (h : f_Ma_goal v1 v2 v3 x = some r) : Mi g l y_Ma_goal c_Ma_goal 5 (some .int) 1 [.ref (g_a g o0), .int v1, .int v2, .int v3] (x, z) r.1 (r.2, z) := by
  refine m_i hg pn_Ma rfl fun X q C => ?_
  refine k_sub (lv' := [(0, .ref (g_a g o0)), (1, .int v1), (2, .int v2), (3, .int v3)]) [0, 1, 2, 3] rfl ?_
  unfold f_Ma_goal at h
  refine k_bipush C 20 d_Ma_goal_0 bp_20 ?_
  refine k_iload_n C d_Ma_goal_2 1 rfl ?_
  refine k_isub C d_Ma_goal_3 ?_
  refine k_istore C (lv' := [(4, .int (20 - v1)), (0, .ref (g_a g o0)), (1, .int v1), (2, .int v2), (3, .int v3)]) d_Ma_goal_4 rfl rfl ?_
  refine k_iload C d_Ma_goal_6 0 rfl ?_
  refine k_iload_n C d_Ma_goal_8 3 rfl ?_
  refine k_isub C d_Ma_goal_9 ?_
  refine k_mabs C l_358 l_359 l_65 l_360 rfl rfl (rtI_c q) d_Ma_goal_10 ?_
  refine k_iload_n C d_Ma_goal_13 2 rfl ?_
  refine k_iload_n C d_Ma_goal_14 3 rfl ?_
  refine k_isub C d_Ma_goal_15 ?_
  refine k_mabs C l_358 l_359 l_65 l_360 rfl rfl (rtI_c q) d_Ma_goal_16 ?_
  refine k_icmp_le C 27 d_Ma_goal_19 (by decide) (fun c1 => ?_) (fun c1 => ?_)
  · have h := (if_pos c1).symm.trans h
    refine k_iload_n C d_Ma_goal_27 2 rfl ?_
    obtain rfl := Option.some.inj h
    exact k_iret C q d_Ma_goal_28
  · have h := (if_neg c1).symm.trans h
    refine k_iload C d_Ma_goal_22 0 rfl ?_
    refine k_goto C 28 d_Ma_goal_24 (by decide) ?_
    obtain rfl := Option.some.inj h
    exact k_iret C q d_Ma_goal_28

def f_Ma_pace (v1 : Int32) (v2 : Int32) (x : XD) : Option (Int32 × XD) := (f_Ho_pace v1 v2 x).bind fun p1 => (some (p1.1 + (v1 / 3), p1.2))
theorem m_Ma_pace {g : GC} (hg : gOk g) (l : Launch)  (o0 : Nat) (h_o0 : 2 ≤ o0 ∧ o0 < 10) (v1 : Int32) (v2 : Int32) (x : XD) (z : ZD) (r : Int32 × XD) (h : f_Ma_pace v1 v2 x = some r) : Mi g l y_Ma_pace c_Ma_pace 3 (some .int) 1 [.ref (g_a g o0), .int v1, .int v2] (x, z) r.1 (r.2, z) := by
  refine m_i hg pn_Ma rfl fun X q C => ?_
  refine k_sub (lv' := [(0, .ref (g_a g o0)), (1, .int v1), (2, .int v2)]) [0, 1, 2] rfl ?_
  unfold f_Ma_pace at h
  refine k_aload_n C d_Ma_pace_0 0 rfl ?_
  refine k_iload_n C d_Ma_pace_1 1 rfl ?_
  refine k_iload_n C d_Ma_pace_2 2 rfl ?_
  obtain ⟨p1, ep1, h⟩ := bd_some h
  obtain ⟨kc, hkc⟩ := ko_cls h_o0
  refine k_callQi C (n := 2) l_435 l_436 l_131 l_110 l_414 l_53 l_439 rfl ⟨by decide, by decide +kernel⟩ (fun l => m_Ho_pace (cx_g C) l o0 h_o0 v1 v2 x z p1 ep1) rfl rfl (rtI_c q) (lt105 h_o0 rfl) (sh_Ko h_o0) hkc rfl rfl rfl d_Ma_pace_3 ?_
  refine k_iload_n C d_Ma_pace_6 1 rfl ?_
  refine k_iconst C 3 d_Ma_pace_7 ic_3 ?_
  refine k_idiv C nz_3 d_Ma_pace_8 ?_
  refine k_iadd C d_Ma_pace_9 ?_
  obtain rfl := Option.some.inj h
  exact k_iret C q d_Ma_pace_10

def f_Ma_pines (v1 : Int32) (v2 : Int32) (x : XD) : Option (Int32 × XD) := (f_Ho_pines v1 v2 x).bind fun p1 => (some (p1.1 + 1, p1.2))
theorem m_Ma_pines {g : GC} (hg : gOk g) (l : Launch)  (o0 : Nat) (h_o0 : 2 ≤ o0 ∧ o0 < 10) (v1 : Int32) (v2 : Int32) (x : XD) (z : ZD) (r : Int32 × XD) (h : f_Ma_pines v1 v2 x = some r) : Mi g l y_Ma_pines c_Ma_pines 3 (some .int) 1 [.ref (g_a g o0), .int v1, .int v2] (x, z) r.1 (r.2, z) := by
  refine m_i hg pn_Ma rfl fun X q C => ?_
  refine k_sub (lv' := [(0, .ref (g_a g o0)), (1, .int v1), (2, .int v2)]) [0, 1, 2] rfl ?_
  unfold f_Ma_pines at h
  refine k_aload_n C d_Ma_pines_0 0 rfl ?_
  refine k_iload_n C d_Ma_pines_1 1 rfl ?_
  refine k_iload_n C d_Ma_pines_2 2 rfl ?_
  obtain ⟨p1, ep1, h⟩ := bd_some h
  obtain ⟨kc, hkc⟩ := ko_cls h_o0
  refine k_callQi C (n := 2) l_390 l_391 l_131 l_110 l_368 l_53 l_394 rfl ⟨by decide, by decide +kernel⟩ (fun l => m_Ho_pines (cx_g C) l o0 h_o0 v1 v2 x z p1 ep1) rfl rfl (rtI_c q) (lt105 h_o0 rfl) (sh_Ko h_o0) hkc rfl rfl rfl d_Ma_pines_3 ?_
  refine k_iconst C 1 d_Ma_pines_6 ic_1 ?_
  refine k_iadd C d_Ma_pines_7 ?_
  obtain rfl := Option.some.inj h
  exact k_iret C q d_Ma_pines_8

def f_Tw_goal (v1 : Int32) (v2 : Int32) (v3 : Int32) (x : XD) : Option (Int32 × XD) := (if x_abs (v1 - v2) ≤ x_abs ((20 - v1) - v2) then some (v1, x) else some (20 - v1, x))
theorem m_Tw_goal {g : GC} (hg : gOk g) (l : Launch)  (o0 : Nat) (h_o0 : 2 ≤ o0 ∧ o0 < 10) (v1 : Int32) (v2 : Int32) (v3 : Int32) (x : XD) (z : ZD) (r : Int32 × XD) (h : f_Tw_goal v1 v2 v3 x = some r) : Mi g l y_Tw_goal c_Tw_goal 5 (some .int) 1 [.ref (g_a g o0), .int v1, .int v2, .int v3] (x, z) r.1 (r.2, z) := by
  refine m_i hg pn_Tw rfl fun X q C => ?_
  refine k_sub (lv' := [(0, .ref (g_a g o0)), (1, .int v1), (2, .int v2), (3, .int v3)]) [0, 1, 2, 3] rfl ?_
  unfold f_Tw_goal at h
  refine k_bipush C 20 d_Tw_goal_0 bp_20 ?_
  refine k_iload_n C d_Tw_goal_2 1 rfl ?_
  refine k_isub C d_Tw_goal_3 ?_
  refine k_istore C (lv' := [(4, .int (20 - v1)), (0, .ref (g_a g o0)), (1, .int v1), (2, .int v2), (3, .int v3)]) d_Tw_goal_4 rfl rfl ?_
  refine k_iload C d_Tw_goal_6 0 rfl ?_
  refine k_iload_n C d_Tw_goal_8 3 rfl ?_
  refine k_isub C d_Tw_goal_9 ?_
  refine k_mabs C l_364 l_359 l_65 l_360 rfl rfl (rtI_c q) d_Tw_goal_10 ?_
  refine k_iload_n C d_Tw_goal_13 2 rfl ?_
  refine k_iload_n C d_Tw_goal_14 3 rfl ?_
  refine k_isub C d_Tw_goal_15 ?_
  refine k_mabs C l_364 l_359 l_65 l_360 rfl rfl (rtI_c q) d_Tw_goal_16 ?_
  refine k_icmp_ge C 27 d_Tw_goal_19 (by decide) (fun c1 => ?_) (fun c1 => ?_)
  · have h := (if_pos c1).symm.trans h
    refine k_iload_n C d_Tw_goal_27 2 rfl ?_
    obtain rfl := Option.some.inj h
    exact k_iret C q d_Tw_goal_28
  · have h := (if_neg c1).symm.trans h
    refine k_iload C d_Tw_goal_22 0 rfl ?_
    refine k_goto C 28 d_Tw_goal_24 (by decide) ?_
    obtain rfl := Option.some.inj h
    exact k_iret C q d_Tw_goal_28

def f_Tw_price (v1 : Int32) (x : XD) : Option (Int32 × XD) := (f_Ho_price v1 x).bind fun p1 => (some (2 * p1.1, p1.2))
theorem m_Tw_price {g : GC} (hg : gOk g) (l : Launch)  (o0 : Nat) (h_o0 : 2 ≤ o0 ∧ o0 < 10) (v1 : Int32) (x : XD) (z : ZD) (r : Int32 × XD) (h : f_Tw_price v1 x = some r) : Mi g l y_Tw_price c_Tw_price 2 (some .int) 1 [.ref (g_a g o0), .int v1] (x, z) r.1 (r.2, z) := by
  refine m_i hg pn_Tw rfl fun X q C => ?_
  refine k_sub (lv' := [(0, .ref (g_a g o0)), (1, .int v1)]) [0, 1] rfl ?_
  unfold f_Tw_price at h
  refine k_iconst C 2 d_Tw_price_0 ic_2 ?_
  refine k_aload_n C d_Tw_price_1 0 rfl ?_
  refine k_iload_n C d_Tw_price_2 1 rfl ?_
  obtain ⟨p1, ep1, h⟩ := bd_some h
  obtain ⟨kc, hkc⟩ := ko_cls h_o0
  refine k_callPi C q_Tw_15 (fun l => m_Ho_price (cx_g C) l o0 h_o0 v1 x z p1 ep1) rfl rfl (rtI_c q) (lt105 h_o0 rfl) (sh_Ko h_o0) hkc rfl rfl rfl d_Tw_price_3 ?_
  refine k_imul C d_Tw_price_6 ?_
  obtain rfl := Option.some.inj h
  exact k_iret C q d_Tw_price_7

def f_Ma_price (v1 : Int32) (x : XD) : Option (Int32 × XD) := (f_Tw_price v1 x).bind fun p1 => (some (p1.1 + v1, p1.2))
theorem m_Ma_price {g : GC} (hg : gOk g) (l : Launch)  (o0 : Nat) (h_o0 : 2 ≤ o0 ∧ o0 < 10) (v1 : Int32) (x : XD) (z : ZD) (r : Int32 × XD) (h : f_Ma_price v1 x = some r) : Mi g l y_Ma_price c_Ma_price 2 (some .int) 2 [.ref (g_a g o0), .int v1] (x, z) r.1 (r.2, z) := by
  refine m_i hg pn_Ma rfl fun X q C => ?_
  refine k_sub (lv' := [(0, .ref (g_a g o0)), (1, .int v1)]) [0, 1] rfl ?_
  unfold f_Ma_price at h
  refine k_aload_n C d_Ma_price_0 0 rfl ?_
  refine k_iload_n C d_Ma_price_1 1 rfl ?_
  obtain ⟨p1, ep1, h⟩ := bd_some h
  obtain ⟨kc, hkc⟩ := ko_cls h_o0
  refine k_callPi C q_Ma_22 (fun l => m_Tw_price (cx_g C) l o0 h_o0 v1 x z p1 ep1) rfl rfl (rtI_c q) (lt105 h_o0 rfl) (sh_Ko h_o0) hkc rfl rfl rfl d_Ma_price_2 ?_
  refine k_iload_n C d_Ma_price_5 1 rfl ?_
  refine k_iadd C d_Ma_price_6 ?_
  obtain rfl := Option.some.inj h
  exact k_iret C q d_Ma_price_7

def v_number (kk : Int32) (x : XD) : Option (Int32 × XD) := if kk = 0 then f_Ho_number x else if kk = 1 then f_Co_number x else if kk = 2 then f_Bl_number x else if kk = 3 then f_Tw_number x else if kk = 4 then f_Dr_number x else if kk = 5 then f_Fo_number x else if kk = 6 then f_Ma_number x else if kk = 7 then f_Ge_number x else none
def v_walk (kk : Int32) (x : XD) : Option (Int32 × XD) := if kk = 0 then f_Ho_walk x else if kk = 1 then f_Co_walk x else if kk = 2 then f_Ho_walk x else if kk = 3 then f_Ho_walk x else if kk = 4 then f_Ho_walk x else if kk = 5 then f_Ho_walk x else if kk = 6 then f_Ma_walk x else if kk = 7 then f_Ge_walk x else none
def v_price (kk a1 : Int32) (x : XD) : Option (Int32 × XD) := if kk = 0 then f_Ho_price a1 x else if kk = 1 then f_Co_price a1 x else if kk = 2 then f_Bl_price a1 x else if kk = 3 then f_Tw_price a1 x else if kk = 4 then f_Dr_price a1 x else if kk = 5 then f_Fo_price a1 x else if kk = 6 then f_Ma_price a1 x else if kk = 7 then f_Ge_price a1 x else none
def v_goal (kk a1 a2 a3 : Int32) (x : XD) : Option (Int32 × XD) := if kk = 0 then f_Ho_goal a1 a2 a3 x else if kk = 1 then f_Co_goal a1 a2 a3 x else if kk = 2 then f_Bl_goal a1 a2 a3 x else if kk = 3 then f_Tw_goal a1 a2 a3 x else if kk = 4 then f_Ho_goal a1 a2 a3 x else if kk = 5 then f_Fo_goal a1 a2 a3 x else if kk = 6 then f_Ma_goal a1 a2 a3 x else if kk = 7 then f_Co_goal a1 a2 a3 x else none
def v_pace (kk a1 a2 : Int32) (x : XD) : Option (Int32 × XD) := if kk = 0 then f_Ho_pace a1 a2 x else if kk = 1 then f_Co_pace a1 a2 x else if kk = 2 then f_Bl_pace a1 a2 x else if kk = 3 then f_Ho_pace a1 a2 x else if kk = 4 then f_Ho_pace a1 a2 x else if kk = 5 then f_Fo_pace a1 a2 x else if kk = 6 then f_Ma_pace a1 a2 x else if kk = 7 then f_Ge_pace a1 a2 x else none
def v_pines (kk a1 a2 : Int32) (x : XD) : Option (Int32 × XD) := if kk = 0 then f_Ho_pines a1 a2 x else if kk = 1 then f_Co_pines a1 a2 x else if kk = 2 then f_Bl_pines a1 a2 x else if kk = 3 then f_Ho_pines a1 a2 x else if kk = 4 then f_Dr_pines a1 a2 x else if kk = 5 then f_Fo_pines a1 a2 x else if kk = 6 then f_Ma_pines a1 a2 x else if kk = 7 then f_Co_pines a1 a2 x else none
theorem kv_Hb_115 {g : GC} {X : MX} {cc : ByteArray} {nL lvl pc : Nat} {loc : List (Nat × Value)} {rest : List Value} {x : XD} {z : ZD} (C : Cx g X cc nL n_Hb lvl) {kk : Int32} {p : Int32 × XD} (hp : v_number kk x = some p) (hlv : Nat.ble (0 + 1) lvl = true) (hcell : X.2.2.2.2.2.2.2.2.2.2.2.1 ≤ X.2.2.2.1.cells ∧ X.2.2.2.2.2.2.2.2.2.2.2.2 ≤ X.2.2.2.1.slots) (hcat : Nat.ble (rest.map fun v => v.category).sum 8 = true) (hd : decode cc pc = .ok (.invokevirtual 115, 3)) (h : Wk g X nL (pc + 3) loc (.int p.1 :: rest) (p.2, z)) : Wk g X nL pc loc (.ref (g_a g (2 + kk.toNatClampNeg)) :: rest) (x, z) := by
  unfold v_number at hp
  have hle := Nat.le_of_ble_eq_true hlv
  by_cases c0 : kk = 0
  · rw [if_pos c0] at hp
    subst c0
    exact k_callVi C q_Hb_115_0 (fun l => m_Ho_number (cx_g C) l (2 + (0 : Int32).toNatClampNeg) (by decide) x z p hp) (nble (by omega)) rfl hcell (by decide) (sh_Ko (by decide)) rfl rfl rfl hcat hd h
  rw [if_neg c0] at hp
  by_cases c1 : kk = 1
  · rw [if_pos c1] at hp
    subst c1
    exact k_callUi C q_Hb_115_1 (fun l => m_Co_number (cx_g C) l (2 + (1 : Int32).toNatClampNeg) (by decide) x z p hp) (nble (by omega)) rfl hcell (by decide) (sh_Ko (by decide)) rfl rfl rfl hcat hd h
  rw [if_neg c1] at hp
  by_cases c2 : kk = 2
  · rw [if_pos c2] at hp
    subst c2
    exact k_callUi C q_Hb_115_2 (fun l => m_Bl_number (cx_g C) l (2 + (2 : Int32).toNatClampNeg) (by decide) x z p hp) (nble (by omega)) rfl hcell (by decide) (sh_Ko (by decide)) rfl rfl rfl hcat hd h
  rw [if_neg c2] at hp
  by_cases c3 : kk = 3
  · rw [if_pos c3] at hp
    subst c3
    exact k_callUi C q_Hb_115_3 (fun l => m_Tw_number (cx_g C) l (2 + (3 : Int32).toNatClampNeg) (by decide) x z p hp) (nble (by omega)) rfl hcell (by decide) (sh_Ko (by decide)) rfl rfl rfl hcat hd h
  rw [if_neg c3] at hp
  by_cases c4 : kk = 4
  · rw [if_pos c4] at hp
    subst c4
    exact k_callUi C q_Hb_115_4 (fun l => m_Dr_number (cx_g C) l (2 + (4 : Int32).toNatClampNeg) (by decide) x z p hp) (nble (by omega)) rfl hcell (by decide) (sh_Ko (by decide)) rfl rfl rfl hcat hd h
  rw [if_neg c4] at hp
  by_cases c5 : kk = 5
  · rw [if_pos c5] at hp
    subst c5
    exact k_callUi C q_Hb_115_5 (fun l => m_Fo_number (cx_g C) l (2 + (5 : Int32).toNatClampNeg) (by decide) x z p hp) (nble (by omega)) rfl hcell (by decide) (sh_Ko (by decide)) rfl rfl rfl hcat hd h
  rw [if_neg c5] at hp
  by_cases c6 : kk = 6
  · rw [if_pos c6] at hp
    subst c6
    exact k_callUi C q_Hb_115_6 (fun l => m_Ma_number (cx_g C) l (2 + (6 : Int32).toNatClampNeg) (by decide) x z p hp) (nble (by omega)) rfl hcell (by decide) (sh_Ko (by decide)) rfl rfl rfl hcat hd h
  rw [if_neg c6] at hp
  by_cases c7 : kk = 7
  · rw [if_pos c7] at hp
    subst c7
    exact k_callUi C q_Hb_115_7 (fun l => m_Ge_number (cx_g C) l (2 + (7 : Int32).toNatClampNeg) (by decide) x z p hp) (nble (by omega)) rfl hcell (by decide) (sh_Ko (by decide)) rfl rfl rfl hcat hd h
  rw [if_neg c7] at hp
  cases hp
theorem kv_Hb_140 {g : GC} {X : MX} {cc : ByteArray} {nL lvl pc : Nat} {loc : List (Nat × Value)} {rest : List Value} {x : XD} {z : ZD} (C : Cx g X cc nL n_Hb lvl) {kk : Int32} {p : Int32 × XD} (hp : v_walk kk x = some p) (hlv : Nat.ble (0 + 1) lvl = true) (hcell : X.2.2.2.2.2.2.2.2.2.2.2.1 ≤ X.2.2.2.1.cells ∧ X.2.2.2.2.2.2.2.2.2.2.2.2 ≤ X.2.2.2.1.slots) (hcat : Nat.ble (rest.map fun v => v.category).sum 8 = true) (hd : decode cc pc = .ok (.invokevirtual 140, 3)) (h : Wk g X nL (pc + 3) loc (.int p.1 :: rest) (p.2, z)) : Wk g X nL pc loc (.ref (g_a g (2 + kk.toNatClampNeg)) :: rest) (x, z) := by
  unfold v_walk at hp
  have hle := Nat.le_of_ble_eq_true hlv
  by_cases c0 : kk = 0
  · rw [if_pos c0] at hp
    subst c0
    exact k_callVi C q_Hb_140_0 (fun l => m_Ho_walk (cx_g C) l (2 + (0 : Int32).toNatClampNeg) (by decide) x z p hp) (nble (by omega)) rfl hcell (by decide) (sh_Ko (by decide)) rfl rfl rfl hcat hd h
  rw [if_neg c0] at hp
  by_cases c1 : kk = 1
  · rw [if_pos c1] at hp
    subst c1
    exact k_callUi C q_Hb_140_1 (fun l => m_Co_walk (cx_g C) l (2 + (1 : Int32).toNatClampNeg) (by decide) x z p hp) (nble (by omega)) rfl hcell (by decide) (sh_Ko (by decide)) rfl rfl rfl hcat hd h
  rw [if_neg c1] at hp
  by_cases c2 : kk = 2
  · rw [if_pos c2] at hp
    subst c2
    exact k_callUi C q_Hb_140_2 (fun l => m_Ho_walk (cx_g C) l (2 + (2 : Int32).toNatClampNeg) (by decide) x z p hp) (nble (by omega)) rfl hcell (by decide) (sh_Ko (by decide)) rfl rfl rfl hcat hd h
  rw [if_neg c2] at hp
  by_cases c3 : kk = 3
  · rw [if_pos c3] at hp
    subst c3
    exact k_callUi C q_Hb_140_3 (fun l => m_Ho_walk (cx_g C) l (2 + (3 : Int32).toNatClampNeg) (by decide) x z p hp) (nble (by omega)) rfl hcell (by decide) (sh_Ko (by decide)) rfl rfl rfl hcat hd h
  rw [if_neg c3] at hp
  by_cases c4 : kk = 4
  · rw [if_pos c4] at hp
    subst c4
    exact k_callUi C q_Hb_140_4 (fun l => m_Ho_walk (cx_g C) l (2 + (4 : Int32).toNatClampNeg) (by decide) x z p hp) (nble (by omega)) rfl hcell (by decide) (sh_Ko (by decide)) rfl rfl rfl hcat hd h
  rw [if_neg c4] at hp
  by_cases c5 : kk = 5
  · rw [if_pos c5] at hp
    subst c5
    exact k_callUi C q_Hb_140_5 (fun l => m_Ho_walk (cx_g C) l (2 + (5 : Int32).toNatClampNeg) (by decide) x z p hp) (nble (by omega)) rfl hcell (by decide) (sh_Ko (by decide)) rfl rfl rfl hcat hd h
  rw [if_neg c5] at hp
  by_cases c6 : kk = 6
  · rw [if_pos c6] at hp
    subst c6
    exact k_callUi C q_Hb_140_6 (fun l => m_Ma_walk (cx_g C) l (2 + (6 : Int32).toNatClampNeg) (by decide) x z p hp) (nble (by omega)) rfl hcell (by decide) (sh_Ko (by decide)) rfl rfl rfl hcat hd h
  rw [if_neg c6] at hp
  by_cases c7 : kk = 7
  · rw [if_pos c7] at hp
    subst c7
    exact k_callUi C q_Hb_140_7 (fun l => m_Ge_walk (cx_g C) l (2 + (7 : Int32).toNatClampNeg) (by decide) x z p hp) (nble (by omega)) rfl hcell (by decide) (sh_Ko (by decide)) rfl rfl rfl hcat hd h
  rw [if_neg c7] at hp
  cases hp
theorem kv_Hb_291 {g : GC} {X : MX} {cc : ByteArray} {nL lvl pc : Nat} {loc : List (Nat × Value)} {rest : List Value} {x : XD} {z : ZD} (C : Cx g X cc nL n_Hb lvl) {kk a1 : Int32} {p : Int32 × XD} (hp : v_price kk a1 x = some p) (hlv : Nat.ble (2 + 1) lvl = true) (hcell : X.2.2.2.2.2.2.2.2.2.2.2.1 ≤ X.2.2.2.1.cells ∧ X.2.2.2.2.2.2.2.2.2.2.2.2 ≤ X.2.2.2.1.slots) (hcat : Nat.ble (rest.map fun v => v.category).sum 8 = true) (hd : decode cc pc = .ok (.invokevirtual 291, 3)) (h : Wk g X nL (pc + 3) loc (.int p.1 :: rest) (p.2, z)) : Wk g X nL pc loc (.int a1 :: .ref (g_a g (2 + kk.toNatClampNeg)) :: rest) (x, z) := by
  unfold v_price at hp
  have hle := Nat.le_of_ble_eq_true hlv
  by_cases c0 : kk = 0
  · rw [if_pos c0] at hp
    subst c0
    exact k_callVi C q_Hb_291_0 (fun l => m_Ho_price (cx_g C) l (2 + (0 : Int32).toNatClampNeg) (by decide) a1 x z p hp) (nble (by omega)) rfl hcell (by decide) (sh_Ko (by decide)) rfl rfl rfl hcat hd h
  rw [if_neg c0] at hp
  by_cases c1 : kk = 1
  · rw [if_pos c1] at hp
    subst c1
    exact k_callUi C q_Hb_291_1 (fun l => m_Co_price (cx_g C) l (2 + (1 : Int32).toNatClampNeg) (by decide) a1 x z p hp) (nble (by omega)) rfl hcell (by decide) (sh_Ko (by decide)) rfl rfl rfl hcat hd h
  rw [if_neg c1] at hp
  by_cases c2 : kk = 2
  · rw [if_pos c2] at hp
    subst c2
    exact k_callUi C q_Hb_291_2 (fun l => m_Bl_price (cx_g C) l (2 + (2 : Int32).toNatClampNeg) (by decide) a1 x z p hp) (nble (by omega)) rfl hcell (by decide) (sh_Ko (by decide)) rfl rfl rfl hcat hd h
  rw [if_neg c2] at hp
  by_cases c3 : kk = 3
  · rw [if_pos c3] at hp
    subst c3
    exact k_callUi C q_Hb_291_3 (fun l => m_Tw_price (cx_g C) l (2 + (3 : Int32).toNatClampNeg) (by decide) a1 x z p hp) (nble (by omega)) rfl hcell (by decide) (sh_Ko (by decide)) rfl rfl rfl hcat hd h
  rw [if_neg c3] at hp
  by_cases c4 : kk = 4
  · rw [if_pos c4] at hp
    subst c4
    exact k_callUi C q_Hb_291_4 (fun l => m_Dr_price (cx_g C) l (2 + (4 : Int32).toNatClampNeg) (by decide) a1 x z p hp) (nble (by omega)) rfl hcell (by decide) (sh_Ko (by decide)) rfl rfl rfl hcat hd h
  rw [if_neg c4] at hp
  by_cases c5 : kk = 5
  · rw [if_pos c5] at hp
    subst c5
    exact k_callUi C q_Hb_291_5 (fun l => m_Fo_price (cx_g C) l (2 + (5 : Int32).toNatClampNeg) (by decide) a1 x z p hp) (nble (by omega)) rfl hcell (by decide) (sh_Ko (by decide)) rfl rfl rfl hcat hd h
  rw [if_neg c5] at hp
  by_cases c6 : kk = 6
  · rw [if_pos c6] at hp
    subst c6
    exact k_callUi C q_Hb_291_6 (fun l => m_Ma_price (cx_g C) l (2 + (6 : Int32).toNatClampNeg) (by decide) a1 x z p hp) (nble (by omega)) rfl hcell (by decide) (sh_Ko (by decide)) rfl rfl rfl hcat hd h
  rw [if_neg c6] at hp
  by_cases c7 : kk = 7
  · rw [if_pos c7] at hp
    subst c7
    exact k_callUi C q_Hb_291_7 (fun l => m_Ge_price (cx_g C) l (2 + (7 : Int32).toNatClampNeg) (by decide) a1 x z p hp) (nble (by omega)) rfl hcell (by decide) (sh_Ko (by decide)) rfl rfl rfl hcat hd h
  rw [if_neg c7] at hp
  cases hp
theorem kv_St_28 {g : GC} {X : MX} {cc : ByteArray} {nL lvl pc : Nat} {loc : List (Nat × Value)} {rest : List Value} {x : XD} {z : ZD} (C : Cx g X cc nL n_St lvl) {kk a1 a2 a3 : Int32} {p : Int32 × XD} (hp : v_goal kk a1 a2 a3 x = some p) (hlv : Nat.ble (1 + 1) lvl = true) (hcell : X.2.2.2.2.2.2.2.2.2.2.2.1 ≤ X.2.2.2.1.cells ∧ X.2.2.2.2.2.2.2.2.2.2.2.2 ≤ X.2.2.2.1.slots) (hcat : Nat.ble (rest.map fun v => v.category).sum 8 = true) (hd : decode cc pc = .ok (.invokevirtual 28, 3)) (h : Wk g X nL (pc + 3) loc (.int p.1 :: rest) (p.2, z)) : Wk g X nL pc loc (.int a3 :: .int a2 :: .int a1 :: .ref (g_a g (2 + kk.toNatClampNeg)) :: rest) (x, z) := by
  unfold v_goal at hp
  have hle := Nat.le_of_ble_eq_true hlv
  by_cases c0 : kk = 0
  · rw [if_pos c0] at hp
    subst c0
    exact k_callVi C q_St_28_0 (fun l => m_Ho_goal (cx_g C) l (2 + (0 : Int32).toNatClampNeg) (by decide) a1 a2 a3 x z p hp) (nble (by omega)) rfl hcell (by decide) (sh_Ko (by decide)) rfl rfl rfl hcat hd h
  rw [if_neg c0] at hp
  by_cases c1 : kk = 1
  · rw [if_pos c1] at hp
    subst c1
    exact k_callUi C q_St_28_1 (fun l => m_Co_goal (cx_g C) l (2 + (1 : Int32).toNatClampNeg) (by decide) a1 a2 a3 x z p hp) (nble (by omega)) rfl hcell (by decide) (sh_Ko (by decide)) rfl rfl rfl hcat hd h
  rw [if_neg c1] at hp
  by_cases c2 : kk = 2
  · rw [if_pos c2] at hp
    subst c2
    exact k_callUi C q_St_28_2 (fun l => m_Bl_goal (cx_g C) l (2 + (2 : Int32).toNatClampNeg) (by decide) a1 a2 a3 x z p hp) (nble (by omega)) rfl hcell (by decide) (sh_Ko (by decide)) rfl rfl rfl hcat hd h
  rw [if_neg c2] at hp
  by_cases c3 : kk = 3
  · rw [if_pos c3] at hp
    subst c3
    exact k_callUi C q_St_28_3 (fun l => m_Tw_goal (cx_g C) l (2 + (3 : Int32).toNatClampNeg) (by decide) a1 a2 a3 x z p hp) (nble (by omega)) rfl hcell (by decide) (sh_Ko (by decide)) rfl rfl rfl hcat hd h
  rw [if_neg c3] at hp
  by_cases c4 : kk = 4
  · rw [if_pos c4] at hp
    subst c4
    exact k_callUi C q_St_28_4 (fun l => m_Ho_goal (cx_g C) l (2 + (4 : Int32).toNatClampNeg) (by decide) a1 a2 a3 x z p hp) (nble (by omega)) rfl hcell (by decide) (sh_Ko (by decide)) rfl rfl rfl hcat hd h
  rw [if_neg c4] at hp
  by_cases c5 : kk = 5
  · rw [if_pos c5] at hp
    subst c5
    exact k_callUi C q_St_28_5 (fun l => m_Fo_goal (cx_g C) l (2 + (5 : Int32).toNatClampNeg) (by decide) a1 a2 a3 x z p hp) (nble (by omega)) rfl hcell (by decide) (sh_Ko (by decide)) rfl rfl rfl hcat hd h
  rw [if_neg c5] at hp
  by_cases c6 : kk = 6
  · rw [if_pos c6] at hp
    subst c6
    exact k_callUi C q_St_28_6 (fun l => m_Ma_goal (cx_g C) l (2 + (6 : Int32).toNatClampNeg) (by decide) a1 a2 a3 x z p hp) (nble (by omega)) rfl hcell (by decide) (sh_Ko (by decide)) rfl rfl rfl hcat hd h
  rw [if_neg c6] at hp
  by_cases c7 : kk = 7
  · rw [if_pos c7] at hp
    subst c7
    exact k_callUi C q_St_28_7 (fun l => m_Co_goal (cx_g C) l (2 + (7 : Int32).toNatClampNeg) (by decide) a1 a2 a3 x z p hp) (nble (by omega)) rfl hcell (by decide) (sh_Ko (by decide)) rfl rfl rfl hcat hd h
  rw [if_neg c7] at hp
  cases hp
theorem kv_St_34 {g : GC} {X : MX} {cc : ByteArray} {nL lvl pc : Nat} {loc : List (Nat × Value)} {rest : List Value} {x : XD} {z : ZD} (C : Cx g X cc nL n_St lvl) {kk a1 a2 : Int32} {p : Int32 × XD} (hp : v_pace kk a1 a2 x = some p) (hlv : Nat.ble (1 + 1) lvl = true) (hcell : X.2.2.2.2.2.2.2.2.2.2.2.1 ≤ X.2.2.2.1.cells ∧ X.2.2.2.2.2.2.2.2.2.2.2.2 ≤ X.2.2.2.1.slots) (hcat : Nat.ble (rest.map fun v => v.category).sum 8 = true) (hd : decode cc pc = .ok (.invokevirtual 34, 3)) (h : Wk g X nL (pc + 3) loc (.int p.1 :: rest) (p.2, z)) : Wk g X nL pc loc (.int a2 :: .int a1 :: .ref (g_a g (2 + kk.toNatClampNeg)) :: rest) (x, z) := by
  unfold v_pace at hp
  have hle := Nat.le_of_ble_eq_true hlv
  by_cases c0 : kk = 0
  · rw [if_pos c0] at hp
    subst c0
    exact k_callVi C q_St_34_0 (fun l => m_Ho_pace (cx_g C) l (2 + (0 : Int32).toNatClampNeg) (by decide) a1 a2 x z p hp) (nble (by omega)) rfl hcell (by decide) (sh_Ko (by decide)) rfl rfl rfl hcat hd h
  rw [if_neg c0] at hp
  by_cases c1 : kk = 1
  · rw [if_pos c1] at hp
    subst c1
    exact k_callUi C q_St_34_1 (fun l => m_Co_pace (cx_g C) l (2 + (1 : Int32).toNatClampNeg) (by decide) a1 a2 x z p hp) (nble (by omega)) rfl hcell (by decide) (sh_Ko (by decide)) rfl rfl rfl hcat hd h
  rw [if_neg c1] at hp
  by_cases c2 : kk = 2
  · rw [if_pos c2] at hp
    subst c2
    exact k_callUi C q_St_34_2 (fun l => m_Bl_pace (cx_g C) l (2 + (2 : Int32).toNatClampNeg) (by decide) a1 a2 x z p hp) (nble (by omega)) rfl hcell (by decide) (sh_Ko (by decide)) rfl rfl rfl hcat hd h
  rw [if_neg c2] at hp
  by_cases c3 : kk = 3
  · rw [if_pos c3] at hp
    subst c3
    exact k_callUi C q_St_34_3 (fun l => m_Ho_pace (cx_g C) l (2 + (3 : Int32).toNatClampNeg) (by decide) a1 a2 x z p hp) (nble (by omega)) rfl hcell (by decide) (sh_Ko (by decide)) rfl rfl rfl hcat hd h
  rw [if_neg c3] at hp
  by_cases c4 : kk = 4
  · rw [if_pos c4] at hp
    subst c4
    exact k_callUi C q_St_34_4 (fun l => m_Ho_pace (cx_g C) l (2 + (4 : Int32).toNatClampNeg) (by decide) a1 a2 x z p hp) (nble (by omega)) rfl hcell (by decide) (sh_Ko (by decide)) rfl rfl rfl hcat hd h
  rw [if_neg c4] at hp
  by_cases c5 : kk = 5
  · rw [if_pos c5] at hp
    subst c5
    exact k_callUi C q_St_34_5 (fun l => m_Fo_pace (cx_g C) l (2 + (5 : Int32).toNatClampNeg) (by decide) a1 a2 x z p hp) (nble (by omega)) rfl hcell (by decide) (sh_Ko (by decide)) rfl rfl rfl hcat hd h
  rw [if_neg c5] at hp
  by_cases c6 : kk = 6
  · rw [if_pos c6] at hp
    subst c6
    exact k_callUi C q_St_34_6 (fun l => m_Ma_pace (cx_g C) l (2 + (6 : Int32).toNatClampNeg) (by decide) a1 a2 x z p hp) (nble (by omega)) rfl hcell (by decide) (sh_Ko (by decide)) rfl rfl rfl hcat hd h
  rw [if_neg c6] at hp
  by_cases c7 : kk = 7
  · rw [if_pos c7] at hp
    subst c7
    exact k_callUi C q_St_34_7 (fun l => m_Ge_pace (cx_g C) l (2 + (7 : Int32).toNatClampNeg) (by decide) a1 a2 x z p hp) (nble (by omega)) rfl hcell (by decide) (sh_Ko (by decide)) rfl rfl rfl hcat hd h
  rw [if_neg c7] at hp
  cases hp
theorem kv_St_46 {g : GC} {X : MX} {cc : ByteArray} {nL lvl pc : Nat} {loc : List (Nat × Value)} {rest : List Value} {x : XD} {z : ZD} (C : Cx g X cc nL n_St lvl) {kk a1 a2 : Int32} {p : Int32 × XD} (hp : v_pines kk a1 a2 x = some p) (hlv : Nat.ble (1 + 1) lvl = true) (hcell : X.2.2.2.2.2.2.2.2.2.2.2.1 ≤ X.2.2.2.1.cells ∧ X.2.2.2.2.2.2.2.2.2.2.2.2 ≤ X.2.2.2.1.slots) (hcat : Nat.ble (rest.map fun v => v.category).sum 8 = true) (hd : decode cc pc = .ok (.invokevirtual 46, 3)) (h : Wk g X nL (pc + 3) loc (.int p.1 :: rest) (p.2, z)) : Wk g X nL pc loc (.int a2 :: .int a1 :: .ref (g_a g (2 + kk.toNatClampNeg)) :: rest) (x, z) := by
  unfold v_pines at hp
  have hle := Nat.le_of_ble_eq_true hlv
  by_cases c0 : kk = 0
  · rw [if_pos c0] at hp
    subst c0
    exact k_callVi C q_St_46_0 (fun l => m_Ho_pines (cx_g C) l (2 + (0 : Int32).toNatClampNeg) (by decide) a1 a2 x z p hp) (nble (by omega)) rfl hcell (by decide) (sh_Ko (by decide)) rfl rfl rfl hcat hd h
  rw [if_neg c0] at hp
  by_cases c1 : kk = 1
  · rw [if_pos c1] at hp
    subst c1
    exact k_callUi C q_St_46_1 (fun l => m_Co_pines (cx_g C) l (2 + (1 : Int32).toNatClampNeg) (by decide) a1 a2 x z p hp) (nble (by omega)) rfl hcell (by decide) (sh_Ko (by decide)) rfl rfl rfl hcat hd h
  rw [if_neg c1] at hp
  by_cases c2 : kk = 2
  · rw [if_pos c2] at hp
    subst c2
    exact k_callUi C q_St_46_2 (fun l => m_Bl_pines (cx_g C) l (2 + (2 : Int32).toNatClampNeg) (by decide) a1 a2 x z p hp) (nble (by omega)) rfl hcell (by decide) (sh_Ko (by decide)) rfl rfl rfl hcat hd h
  rw [if_neg c2] at hp
  by_cases c3 : kk = 3
  · rw [if_pos c3] at hp
    subst c3
    exact k_callUi C q_St_46_3 (fun l => m_Ho_pines (cx_g C) l (2 + (3 : Int32).toNatClampNeg) (by decide) a1 a2 x z p hp) (nble (by omega)) rfl hcell (by decide) (sh_Ko (by decide)) rfl rfl rfl hcat hd h
  rw [if_neg c3] at hp
  by_cases c4 : kk = 4
  · rw [if_pos c4] at hp
    subst c4
    exact k_callUi C q_St_46_4 (fun l => m_Dr_pines (cx_g C) l (2 + (4 : Int32).toNatClampNeg) (by decide) a1 a2 x z p hp) (nble (by omega)) rfl hcell (by decide) (sh_Ko (by decide)) rfl rfl rfl hcat hd h
  rw [if_neg c4] at hp
  by_cases c5 : kk = 5
  · rw [if_pos c5] at hp
    subst c5
    exact k_callUi C q_St_46_5 (fun l => m_Fo_pines (cx_g C) l (2 + (5 : Int32).toNatClampNeg) (by decide) a1 a2 x z p hp) (nble (by omega)) rfl hcell (by decide) (sh_Ko (by decide)) rfl rfl rfl hcat hd h
  rw [if_neg c5] at hp
  by_cases c6 : kk = 6
  · rw [if_pos c6] at hp
    subst c6
    exact k_callUi C q_St_46_6 (fun l => m_Ma_pines (cx_g C) l (2 + (6 : Int32).toNatClampNeg) (by decide) a1 a2 x z p hp) (nble (by omega)) rfl hcell (by decide) (sh_Ko (by decide)) rfl rfl rfl hcat hd h
  rw [if_neg c6] at hp
  by_cases c7 : kk = 7
  · rw [if_pos c7] at hp
    subst c7
    exact k_callUi C q_St_46_7 (fun l => m_Co_pines (cx_g C) l (2 + (7 : Int32).toNatClampNeg) (by decide) a1 a2 x z p hp) (nble (by omega)) rfl hcell (by decide) (sh_Ko (by decide)) rfl rfl rfl hcat hd h
  rw [if_neg c7] at hp
  cases hp
theorem kv_St_61 {g : GC} {X : MX} {cc : ByteArray} {nL lvl pc : Nat} {loc : List (Nat × Value)} {rest : List Value} {x : XD} {z : ZD} (C : Cx g X cc nL n_St lvl) {kk : Int32} {p : Int32 × XD} (hp : v_walk kk x = some p) (hlv : Nat.ble (0 + 1) lvl = true) (hcell : X.2.2.2.2.2.2.2.2.2.2.2.1 ≤ X.2.2.2.1.cells ∧ X.2.2.2.2.2.2.2.2.2.2.2.2 ≤ X.2.2.2.1.slots) (hcat : Nat.ble (rest.map fun v => v.category).sum 8 = true) (hd : decode cc pc = .ok (.invokevirtual 61, 3)) (h : Wk g X nL (pc + 3) loc (.int p.1 :: rest) (p.2, z)) : Wk g X nL pc loc (.ref (g_a g (2 + kk.toNatClampNeg)) :: rest) (x, z) := by
  unfold v_walk at hp
  have hle := Nat.le_of_ble_eq_true hlv
  by_cases c0 : kk = 0
  · rw [if_pos c0] at hp
    subst c0
    exact k_callVi C q_St_61_0 (fun l => m_Ho_walk (cx_g C) l (2 + (0 : Int32).toNatClampNeg) (by decide) x z p hp) (nble (by omega)) rfl hcell (by decide) (sh_Ko (by decide)) rfl rfl rfl hcat hd h
  rw [if_neg c0] at hp
  by_cases c1 : kk = 1
  · rw [if_pos c1] at hp
    subst c1
    exact k_callUi C q_St_61_1 (fun l => m_Co_walk (cx_g C) l (2 + (1 : Int32).toNatClampNeg) (by decide) x z p hp) (nble (by omega)) rfl hcell (by decide) (sh_Ko (by decide)) rfl rfl rfl hcat hd h
  rw [if_neg c1] at hp
  by_cases c2 : kk = 2
  · rw [if_pos c2] at hp
    subst c2
    exact k_callUi C q_St_61_2 (fun l => m_Ho_walk (cx_g C) l (2 + (2 : Int32).toNatClampNeg) (by decide) x z p hp) (nble (by omega)) rfl hcell (by decide) (sh_Ko (by decide)) rfl rfl rfl hcat hd h
  rw [if_neg c2] at hp
  by_cases c3 : kk = 3
  · rw [if_pos c3] at hp
    subst c3
    exact k_callUi C q_St_61_3 (fun l => m_Ho_walk (cx_g C) l (2 + (3 : Int32).toNatClampNeg) (by decide) x z p hp) (nble (by omega)) rfl hcell (by decide) (sh_Ko (by decide)) rfl rfl rfl hcat hd h
  rw [if_neg c3] at hp
  by_cases c4 : kk = 4
  · rw [if_pos c4] at hp
    subst c4
    exact k_callUi C q_St_61_4 (fun l => m_Ho_walk (cx_g C) l (2 + (4 : Int32).toNatClampNeg) (by decide) x z p hp) (nble (by omega)) rfl hcell (by decide) (sh_Ko (by decide)) rfl rfl rfl hcat hd h
  rw [if_neg c4] at hp
  by_cases c5 : kk = 5
  · rw [if_pos c5] at hp
    subst c5
    exact k_callUi C q_St_61_5 (fun l => m_Ho_walk (cx_g C) l (2 + (5 : Int32).toNatClampNeg) (by decide) x z p hp) (nble (by omega)) rfl hcell (by decide) (sh_Ko (by decide)) rfl rfl rfl hcat hd h
  rw [if_neg c5] at hp
  by_cases c6 : kk = 6
  · rw [if_pos c6] at hp
    subst c6
    exact k_callUi C q_St_61_6 (fun l => m_Ma_walk (cx_g C) l (2 + (6 : Int32).toNatClampNeg) (by decide) x z p hp) (nble (by omega)) rfl hcell (by decide) (sh_Ko (by decide)) rfl rfl rfl hcat hd h
  rw [if_neg c6] at hp
  by_cases c7 : kk = 7
  · rw [if_pos c7] at hp
    subst c7
    exact k_callUi C q_St_61_7 (fun l => m_Ge_walk (cx_g C) l (2 + (7 : Int32).toNatClampNeg) (by decide) x z p hp) (nble (by omega)) rfl hcell (by decide) (sh_Ko (by decide)) rfl rfl rfl hcat hd h
  rw [if_neg c7] at hp
  cases hp

/-! THE START, walked. -/
theorem vp_map {D : va_G} {cl : List vw_C} {n : Nat} {qa : Nat → Nat} {f : Nat → va_E} {H : Heap} (h : ∀ k, k < n → va_at D cl (qa k, f k) H) : va_P D cl ((List.range n).map fun k => (qa k, f k)) H := by
  intro k q hk
  rcases Nat.lt_or_ge k n with h1 | h1
  · simp [h1] at hk
    rw [← hk]; exact h k h1
  · simp [h1] at hk
theorem vd_con {A : Nat → Prop} {n : Nat} {qa : Nat → Nat} {f f' : Nat → va_E} (h : va_D A ((List.range n).map fun k => (qa k, f k))) : va_D A ((List.range n).map fun k => (qa k, f' k)) := by
  have key : ∀ (i : Nat) (p : Nat × va_E), ((List.range n).map fun k => (qa k, f' k))[i]? = some p → i < n ∧ p.1 = qa i := by
    intro i p hi
    rcases Nat.lt_or_ge i n with h1 | h1
    · simp [h1] at hi
      exact ⟨h1, by rw [← hi]⟩
    · simp [h1] at hi
  have at' : ∀ i, i < n → ((List.range n).map fun k => (qa k, f k))[i]? = some (qa i, f i) := fun i h1 => by simp [h1]
  refine ⟨fun i j p q hi hj e => ?_, fun k q hk => ?_⟩
  · obtain ⟨a1, a2⟩ := key i p hi
    obtain ⟨b1, b2⟩ := key j q hj
    exact h.1 i j _ _ (at' i a1) (at' j b1) (by rw [← a2, ← b2, e])
  · obtain ⟨a1, a2⟩ := key k q hk
    rw [a2]
    exact h.2 k _ (at' k a1)
theorem rg_at {n : Nat} {qa : Nat → Nat} {f : Nat → va_E} {k : Nat} (h : k < n) : ((List.range n).map fun k => (qa k, f k))[k]? = some (qa k, f k) := by simp [h]
theorem xg_76 : Cond.methodLink n_Lw 17 y_Hb_init ∈ TW := tw_of 76 (by decide +kernel) (by decide +kernel)
theorem xg_77 : Cond.instanceMethod y_Hb_init ∈ TW := tw_of 77 (by decide +kernel) (by decide +kernel)
theorem xg_78 : Cond.code y_Hb_init c_Hb_init 2 none ∈ TW := tw_of 78 (by decide +kernel) (by decide +kernel)
theorem xg_940 : Cond.methodLink n_Lw 20 y_Mo_init ∈ TW := tw_of 940 (by decide +kernel) (by decide +kernel)
theorem xg_941 : Cond.instanceMethod y_Mo_init ∈ TW := tw_of 941 (by decide +kernel) (by decide +kernel)
theorem xg_942 : Cond.code y_Mo_init c_Mo_init 1 none ∈ TW := tw_of 942 (by decide +kernel) (by decide +kernel)
set_option maxHeartbeats 4000000 in
theorem whole_go {p : Program} {e : Env} {s : State} {m : MethodId} {below : List Frame} {meth : Method} {c : Code} (l : Launch) (hlt : l.stackTraces = false) {b L : Nat} {xs : Nat → Int32} (hL : L ≤ 3072) (C0 : lw_At p s m meth c b L xs) {I : XD → MD → Prop} (hok : LawOk I) (hI : I w_0.1 w_0.2.1) : W p l e room_1 s m #[Value.ref b] below meth c s.heap [] 0 0 (lw_Z below #[Value.ref b] s) (entryFrame m ([Value.ref b] : List Value).toArray 8) := by
  obtain ⟨hx, hb, hr, hml, hown, hts, hX, hbl, hlocks, hgv⟩ := id C0
  have htw : ∀ w ∈ TW, w.before #[Value.ref b] s = true := fun w h => hts w (tw_tbl h)
  have hnw : NWs s := fun w h => va_Nw.of (nst_tabs (List.mem_filter.mp h).2) (hts w (List.mem_filter.mp h).1)
  have hao : AOs s := ⟨va_AO.of (hts _ xs_ao_Ho), va_AO.of (hts _ xs_ao_St), va_AO.of (hts _ xs_ao_La), va_AO.of (hts _ xs_ao_Sh)⟩
  have hA : ∀ q : Nat, s.heap.size ≤ q → (fun q : Nat => s.heap.size ≤ q) q := fun _ h => h
  obtain ⟨c0, i0, hk0⟩ := u_known (C := n_Ho) (T := T_0) (N := 0) hts (fun w h => tw_tbl (in_0 w h)) (hts _ xs_in_Ho)
  obtain ⟨c1, i1, hk1⟩ := u_known (C := n_Co) (T := T_0) (N := 0) hts (fun w h => tw_tbl (in_0 w h)) (hts _ xs_in_Co)
  obtain ⟨c2, i2, hk2⟩ := u_known (C := n_Bl) (T := T_0) (N := 0) hts (fun w h => tw_tbl (in_0 w h)) (hts _ xs_in_Bl)
  obtain ⟨c3, i3, hk3⟩ := u_known (C := n_Tw) (T := T_0) (N := 0) hts (fun w h => tw_tbl (in_0 w h)) (hts _ xs_in_Tw)
  obtain ⟨c4, i4, hk4⟩ := u_known (C := n_Dr) (T := T_0) (N := 0) hts (fun w h => tw_tbl (in_0 w h)) (hts _ xs_in_Dr)
  obtain ⟨c5, i5, hk5⟩ := u_known (C := n_Fo) (T := T_0) (N := 0) hts (fun w h => tw_tbl (in_0 w h)) (hts _ xs_in_Fo)
  obtain ⟨c6, i6, hk6⟩ := u_known (C := n_Ma) (T := T_0) (N := 0) hts (fun w h => tw_tbl (in_0 w h)) (hts _ xs_in_Ma)
  obtain ⟨c7, i7, hk7⟩ := u_known (C := n_Ge) (T := T_0) (N := 0) hts (fun w h => tw_tbl (in_0 w h)) (hts _ xs_in_Ge)
  obtain ⟨c8, i8, hk8⟩ := u_known (C := n_St) (T := T_St) (N := 5) hts (fun w h => tw_tbl (in_St w h)) (hts _ xs_in_St)
  obtain ⟨c9, i9, hk9⟩ := u_known (C := n_La) (T := T_La) (N := 5) hts (fun w h => tw_tbl (in_La w h)) (hts _ xs_in_La)
  obtain ⟨c10, i10, hk10⟩ := u_known (C := n_Sh) (T := T_Sh) (N := 6) hts (fun w h => tw_tbl (in_Sh w h)) (hts _ xs_in_Sh)
  obtain ⟨c11, i11, hk11⟩ := u_known (C := n_Hb) (T := T_Hb) (N := 7) hts (fun w h => tw_tbl (in_Hb w h)) (hts _ xs_in_Hb)
  obtain ⟨c12, i12, hk12⟩ := u_known (C := n_Mo) (T := T_Mo) (N := 35) hts (fun w h => tw_tbl (in_Mo w h)) (hts _ xs_in_Mo)
  obtain ⟨dd, hKc⟩ : ∃ dd : va_G, ∀ (k : Nat) (q : vw_C), vcls[k]? = some q → u_Kn s q.1 q.2.1 q.2.2 (dd.1 k) (dd.2 k) := by
    refine ⟨(fun k => if k = 0 then c0 else if k = 1 then c1 else if k = 2 then c2 else if k = 3 then c3 else if k = 4 then c4 else if k = 5 then c5 else if k = 6 then c6 else if k = 7 then c7 else if k = 8 then c8 else if k = 9 then c9 else if k = 10 then c10 else if k = 11 then c11 else c12, fun k => if k = 0 then i0 else if k = 1 then i1 else if k = 2 then i2 else if k = 3 then i3 else if k = 4 then i4 else if k = 5 then i5 else if k = 6 then i6 else if k = 7 then i7 else if k = 8 then i8 else if k = 9 then i9 else if k = 10 then i10 else if k = 11 then i11 else i12), ?_⟩
    intro k q hq
    match k, hq with
    | 0, hq => cases hq; exact hk0
    | 1, hq => cases hq; exact hk1
    | 2, hq => cases hq; exact hk2
    | 3, hq => cases hq; exact hk3
    | 4, hq => cases hq; exact hk4
    | 5, hq => cases hq; exact hk5
    | 6, hq => cases hq; exact hk6
    | 7, hq => cases hq; exact hk7
    | 8, hq => cases hq; exact hk8
    | 9, hq => cases hq; exact hk9
    | 10, hq => cases hq; exact hk10
    | 11, hq => cases hq; exact hk11
    | 12, hq => cases hq; exact hk12
    | k + 13, hq => simp [vcls] at hq
  have hS : va_S (fun q : Nat => s.heap.size ≤ q) s.heap s.heap [] := va_S.rf
  have hK : va_K dd vcls [] s := ⟨hKc, fun k q h => by simp at h⟩
  have hP : va_P dd vcls [] s.heap := fun k q h => by simp at h
  have hD : va_D (fun q : Nat => s.heap.size ≤ q) [] := ⟨fun i j p q h => by simp at h, fun k q h => by simp at h⟩
  have hl := lv_entry ([.ref b]) (n := 8) (Nat.le_of_ble_eq_true rfl)
  rw [lg_entry_eq]
  generalize (lg_sl ([.ref b]) ++ List.replicate (8 - (lg_sl ([.ref b])).length) Slot.unset).toArray = ls at hl ⊢
  have hl : lv_has ls 8 [(0, .ref b)] := hl
  refine va_new (ci := 11) (fs := [.null, .null, .null, .null, .null, .null, .int 0]) (C := n_Hb) (T := T_Hb) (N := 7) hx hb htw in_Hb (ft T_Hb) tk_Hb hown (hts _ xs_c_Hb) (hts _ xs_in_Hb) (htw _ xj_52) hK hP hD hS hA rfl df_Hb (Nat.le_of_ble_eq_true rfl) (Nat.le_of_ble_eq_true rfl) d_Lw_law_0 (fun q0 H hP hD hS => ?_)
  have hP : va_P dd vcls [(q0, .inr (11, [.null, .null, .null, .null, .null, .null, .int 0]))] H := hP
  have hD : va_D (fun q : Nat => s.heap.size ≤ q) [(q0, .inr (11, [.null, .null, .null, .null, .null, .null, .int 0]))] := hD
  refine lv_dup hx hb d_Lw_law_3 rfl ?_
  have hFc := va_free (wc := [(q0, .inr (11, [.null, .null, .null, .null, .null, .null, .int 0]))]) hD hS hA [0] rfl
  refine va_callv (va_runI (As := []) (rest := [.ref q0]) ⟨hx, hb, hml, hown, htw⟩ (i_Hb_init l dd q0 H.size) (cwI 0 htw (tw_gi (ex := []) xg_78 (by simp)) rfl rfl rfl (htw _ xj_52) (htw _ xg_76) (htw _ xg_77) rfl (by decide +kernel) ⟨Nat.le_of_ble_eq_true rfl, Nat.le_of_ble_eq_true rfl⟩) ⟨j_blind, fun U hU hW => ⟨rfl, by rw [hU], by rw [hU]; exact hP, va_K.moved hW.alike hK, hD.weaken (fun _ _ _ _ => trivial), hnw.warm hW, hao.warm hW.alike⟩⟩ rfl rfl hl.1 rfl (lv_room (Nat.le_of_ble_eq_true rfl)) d_Lw_law_4 ⟨Nat.le_of_ble_eq_true rfl, Nat.le_of_ble_eq_true rfl⟩) hS (fun q _ h => hFc q h) hFc (fun u t H1 locs ht hvm hw hB hz1 hk1 hS => ?_)
  obtain ⟨qa, qc, hq0, hall, hK1, hdis⟩ := hB
  have hPx : va_P dd vcls ((List.range 83).map fun k => (qa k, shX (dd, qc, qa, 0) k (fun _ => 0))) H1 := vp_map fun k hk => by have h9 := hall k hk; rw [ht] at h9; exact h9
  have hKx := va_K.moved hvm.symm hK1
  have hDx : va_D (fun q : Nat => s.heap.size ≤ q) ((List.range 83).map fun k => (qa k, shX (dd, qc, qa, 0) k (fun _ => 0))) := vd_con (hdis.weaken (fun k q _ h => hFc q.1 h))
  refine lv_astore_n (lv' := [(1, .ref q0), (0, .ref b)]) hx hb d_Lw_law_7 rfl hl (by decide) rfl (fun ls hl => ?_)
  refine va_new (ci := 12) (fs := [.int 0, .null, .null, .null, .null, .null, .int 0, .int 0, .null, .null, .null, .null, .null, .null, .int 0, .int 0, .int 0, .int 0, .int 0, .null, .null, .null, .null, .null, .null, .null, .int 0, .int 0, .int 0, .null, .int 0, .int 0, .null, .int 0, .null]) (C := n_Mo) (T := T_Mo) (N := 35) hx hb htw in_Mo (ft T_Mo) tk_Mo hown (hts _ xs_c_Mo) (hts _ xs_in_Mo) (htw _ xj_64) hK hPx hDx hS hA rfl df_Mo (Nat.le_of_ble_eq_true rfl) (Nat.le_of_ble_eq_true rfl) d_Lw_law_8 (fun q1 H2 hP2 hD2 hS => ?_)
  refine lv_dup hx hb d_Lw_law_11 rfl ?_
  have hg83 : (((List.range 83).map fun k => (qa k, shX (dd, qc, qa, 0) k (fun _ => 0))) ++ [(q1, .inr (12, [.int 0, .null, .null, .null, .null, .null, .int 0, .int 0, .null, .null, .null, .null, .null, .null, .int 0, .int 0, .int 0, .int 0, .int 0, .null, .null, .null, .null, .null, .null, .null, .int 0, .int 0, .int 0, .null, .int 0, .int 0, .null, .int 0, .null]))])[83]? = some (q1, .inr (12, [.int 0, .null, .null, .null, .null, .null, .int 0, .int 0, .null, .null, .null, .null, .null, .null, .int 0, .int 0, .int 0, .int 0, .int 0, .null, .null, .null, .null, .null, .null, .null, .int 0, .int 0, .int 0, .null, .int 0, .int 0, .null, .int 0, .null])) := by simp
  have hgk : ∀ k, k < 83 → (((List.range 83).map fun k => (qa k, shX (dd, qc, qa, 0) k (fun _ => 0))) ++ [(q1, .inr (12, [.int 0, .null, .null, .null, .null, .null, .int 0, .int 0, .null, .null, .null, .null, .null, .null, .int 0, .int 0, .int 0, .int 0, .int 0, .null, .null, .null, .null, .null, .null, .null, .int 0, .int 0, .int 0, .null, .int 0, .int 0, .null, .int 0, .null]))])[k]? = some (qa k, shX (dd, qc, qa, 0) k (fun _ => 0)) := fun k hk => by
    rw [List.getElem?_append_left (by simpa using hk)]
    exact rg_at hk
  have hPc : va_P dd vcls [(q1, .inr (12, [.int 0, .null, .null, .null, .null, .null, .int 0, .int 0, .null, .null, .null, .null, .null, .null, .int 0, .int 0, .int 0, .int 0, .int 0, .null, .null, .null, .null, .null, .null, .null, .int 0, .int 0, .int 0, .null, .int 0, .int 0, .null, .int 0, .null]))] H2 := fun k q hk => by
    match k, hk with
    | 0, hk => cases hk; exact hP2 83 _ hg83
    | k + 1, hk => simp at hk
  have hDc : va_D (fun q : Nat => s.heap.size ≤ q) [(q1, .inr (12, [.int 0, .null, .null, .null, .null, .null, .int 0, .int 0, .null, .null, .null, .null, .null, .null, .int 0, .int 0, .int 0, .int 0, .int 0, .null, .null, .null, .null, .null, .null, .null, .int 0, .int 0, .int 0, .null, .int 0, .int 0, .null, .int 0, .null]))] := ⟨fun i j p q hi hj _ => by
    match i, j, hi, hj with
    | 0, 0, _, _ => rfl
    | i + 1, _, hi, _ => simp at hi
    | 0, j + 1, _, hj => simp at hj, fun k q hk => by
    match k, hk with
    | 0, hk => cases hk; exact hD2.2 83 _ hg83
    | k + 1, hk => simp at hk⟩
  have hFm : ∀ q, va_A [(q1, .inr (12, [.int 0, .null, .null, .null, .null, .null, .int 0, .int 0, .null, .null, .null, .null, .null, .null, .int 0, .int 0, .int 0, .int 0, .int 0, .null, .null, .null, .null, .null, .null, .null, .int 0, .int 0, .int 0, .null, .int 0, .int 0, .null, .int 0, .null]))] H2.size q → s.heap.size ≤ q := va_free hDc hS hA [0] rfl
  refine va_callv (va_runI (As := []) (rest := [.ref q1]) ⟨hx, hb, hml, hown, htw⟩ (i_Mo_init l dd q1 H2.size) (cwI 0 htw (tw_gi (ex := []) xg_942 (by simp)) rfl rfl rfl (htw _ xj_64) (htw _ xg_940) (htw _ xg_941) rfl (by decide +kernel) ⟨Nat.le_of_ble_eq_true rfl, Nat.le_of_ble_eq_true rfl⟩) ⟨j_blind, fun U hU hW => ⟨rfl, by rw [hU], by rw [hU]; exact hPc, va_K.moved hW.alike hK, hDc.weaken (fun _ _ _ _ => trivial), hnw.warm hW, hao.warm hW.alike⟩⟩ rfl rfl hl.1 rfl (lv_room (Nat.le_of_ble_eq_true rfl)) d_Lw_law_12 ⟨Nat.le_of_ble_eq_true rfl, Nat.le_of_ble_eq_true rfl⟩) hS (fun q _ h => hFm q h) hFm (fun u2 t2 H3 locs2 ht2 hvm2 hw2 hB2 hz2 hk2 hS => ?_)
  obtain ⟨qm, qd, hq1, hallm, hK2, hdism⟩ := hB2
  have hKm := va_K.moved hvm2.symm hK2
  have hnot : ∀ k, k < 83 → ¬ va_A [(q1, .inr (12, [.int 0, .null, .null, .null, .null, .null, .int 0, .int 0, .null, .null, .null, .null, .null, .null, .int 0, .int 0, .int 0, .int 0, .int 0, .null, .null, .null, .null, .null, .null, .null, .int 0, .int 0, .int 0, .null, .int 0, .int 0, .null, .int 0, .null]))] H2.size (qa k) := fun k hk h => by
    rcases h with ⟨j, e9, h⟩ | h
    · match j, h with
      | 0, h =>
        cases h
        exact absurd (hD2.1 k 83 _ _ (hgk k hk) hg83 rfl) (by omega)
      | j + 1, h => simp at h
    · exact absurd (hP2 k _ (hgk k hk)).lt (Nat.not_lt.mpr h)
  have hPx3 : va_P dd vcls ((List.range 83).map fun k => (qa k, shX (dd, qc, qa, 0) k (fun _ => 0))) H3 := vp_map fun k hk => (hP2 k _ (hgk k hk)).kept (hk2 (qa k) (hP2 k _ (hgk k hk)).lt (hnot k hk))
  have hPm3 : va_P dd vcls ((List.range 21).map fun k => (qm (83 + k), shM (dd, qd, qm, 0) (83 + k) (fun _ => 0) (fun _ => 0) 0)) H3 := vp_map (qa := fun k => qm (83 + k)) (f := fun k => shM (dd, qd, qm, 0) (83 + k) (fun _ => 0) (fun _ => 0) 0) fun k hk => by have h9 := hallm k hk; rw [ht2] at h9; exact h9
  have hDm0 : va_D (va_A [(q1, .inr (12, [.int 0, .null, .null, .null, .null, .null, .int 0, .int 0, .null, .null, .null, .null, .null, .null, .int 0, .int 0, .int 0, .int 0, .int 0, .null, .null, .null, .null, .null, .null, .null, .int 0, .int 0, .int 0, .null, .int 0, .int 0, .null, .int 0, .null]))] H2.size) ((List.range 21).map fun k => (qm (83 + k), shM (dd, qd, qm, 0) (83 + k) (fun _ => 0) (fun _ => 0) 0)) := vd_con (qa := fun k => qm (83 + k)) (f' := fun k => shM (dd, qd, qm, 0) (83 + k) (fun _ => 0) (fun _ => 0) 0) hdism
  have hP3 := hPx3.app hPm3
  have hD3 := hDx.app (hDm0.weaken (fun k q _ h => hFm q.1 h)) (fun i j x y hx9 hy9 he => by
    rcases Nat.lt_or_ge i 83 with h1 | h1
    · rw [rg_at h1] at hx9
      cases hx9
      exact hnot i h1 (by have := hDm0.2 j y hy9; rw [← he] at this; exact this)
    · simp [h1] at hx9)
  refine lv_astore_n (lv' := [(2, .ref q1), (1, .ref q0), (0, .ref b)]) hx hb d_Lw_law_15 rfl hl (by decide) rfl (fun ls hl => ?_)
  refine lv_iconst (v := 1) hx hb d_Lw_law_16 (by decide) ?_
  refine va_newa (atype := .long) (ty := .long) (N' := 1) (a0 := (1, .inr (.inl (fun _ => 0)))) hx hb (htw _ xw_ac_long) rfl hKm hP3 hD3 hS hA (fun cA => rfl) (by decide) (by decide) (by decide) (Nat.le_of_ble_eq_true rfl) (Nat.le_of_ble_eq_true rfl) d_Lw_law_17 (fun q2 cA H4 hK4 hP4 hD4 hS => ?_)
  refine lv_astore_n (lv' := [(3, .ref q2), (2, .ref q1), (1, .ref q0), (0, .ref b)]) hx hb d_Lw_law_19 rfl hl (by decide) rfl (fun ls hl => ?_)
  refine lv_iconst (v := 0) hx hb d_Lw_law_20 (by decide) ?_
  refine lv_istore (lv' := [(4, .int 0), (3, .ref q2), (2, .ref q1), (1, .ref q0), (0, .ref b)]) hx hb d_Lw_law_21 hl (by decide) rfl (fun ls hl => ?_)
  have hKa := hKx.app hK4
  have u1 : qc 0 = qd 0 := vk_one hKa 0 5 rfl rfl
  have u2 : qd 1 = cA := vk_one hKa 6 7 rfl rfl
  obtain ⟨g, hg0, hga, hgc, hgbs⟩ : ∃ g : GC, g.1 = dd ∧ (∀ k, g_a g k = if k < 83 then qa k else if k < 104 then qm k else q2) ∧ (∀ k, g_c g k = if k = 0 then qc 0 else if k = 1 then cA else qc k) ∧ g_b g = s.heap.size := ⟨(dd, fun k => if k = 0 then qc 0 else if k = 1 then cA else qc k, fun k => if k < 83 then qa k else if k < 104 then qm k else q2, s.heap.size), rfl, fun _ => rfl, fun _ => rfl, rfl⟩
  have hKg : va_K g.1 vcls (gtys g) s := by
    rw [hg0]
    refine hKa.sub [0, 7, 1, 2, 3, 4] ?_
    show [(qc 0, FieldType.int), (cA, .long), (qc 2, .object n_Ho), (qc 3, .object n_St), (qc 4, .object n_La), (qc 5, .object n_Sh)] = gtys g
    simp only [gtys, hgc]
    rfl
  have ax : ∀ k, k < 83 → g_a g k = qa k := fun k hk => by rw [hga, if_pos hk]
  have am : ∀ k, 83 ≤ k → k < 104 → g_a g k = qm k := fun k h1 h2 => by rw [hga, if_neg (by omega), if_pos h2]
  have a4 : g_a g 104 = q2 := by rw [hga]; rfl
  have w3 : ∀ k, k < 104 → ∃ e9, (((List.range 83).map fun k => (qa k, shX (dd, qc, qa, 0) k (fun _ => 0))) ++ ((List.range 21).map fun k => (qm (83 + k), shM (dd, qd, qm, 0) (83 + k) (fun _ => 0) (fun _ => 0) 0)) ++ [(q2, .inl (cA, (1, .inr (.inl (fun _ => 0)))))])[k]? = some (g_a g k, e9) := fun k hk => by
    rw [List.getElem?_append_left (by simp; omega)]
    rcases Nat.lt_or_ge k 83 with h1 | h1
    · rw [List.getElem?_append_left (by simpa using h1), rg_at h1, ax k h1]
      exact ⟨_, rfl⟩
    · rw [List.getElem?_append_right (by simpa using h1), am k h1 hk]
      have h5 := rg_at (n := 21) (qa := fun k => qm (83 + k)) (f := fun k => shM (dd, qd, qm, 0) (83 + k) (fun _ => 0) (fun _ => 0) 0) (k := k - 83) (by omega)
      simp only [List.length_map, List.length_range]
      rw [show 83 + (k - 83) = k from by omega] at h5
      exact ⟨_, h5⟩
  have w4 : (((List.range 83).map fun k => (qa k, shX (dd, qc, qa, 0) k (fun _ => 0))) ++ ((List.range 21).map fun k => (qm (83 + k), shM (dd, qd, qm, 0) (83 + k) (fun _ => 0) (fun _ => 0) 0)) ++ [(q2, .inl (cA, (1, .inr (.inl (fun _ => 0)))))])[104]? = some (q2, .inl (cA, (1, .inr (.inl (fun _ => 0))))) := by simp
  have w5 : ∀ k, k < 105 → ∃ e9, (((List.range 83).map fun k => (qa k, shX (dd, qc, qa, 0) k (fun _ => 0))) ++ ((List.range 21).map fun k => (qm (83 + k), shM (dd, qd, qm, 0) (83 + k) (fun _ => 0) (fun _ => 0) 0)) ++ [(q2, .inl (cA, (1, .inr (.inl (fun _ => 0)))))])[k]? = some (g_a g k, e9) := fun k hk => by
    rcases Nat.lt_or_ge k 104 with h1 | h1
    · exact w3 k h1
    · obtain rfl : k = 104 := by omega
      exact ⟨_, by rw [w4, a4]⟩
  have hgk : gOk g := by
    refine ⟨fun i j hi hj he => ?_, fun k hk => ?_⟩
    · obtain ⟨e1, h1⟩ := w5 i hi
      obtain ⟨e2, h2⟩ := w5 j hj
      exact hD4.1 i j _ _ h1 h2 he
    · obtain ⟨e1, h1⟩ := w5 k hk
      rw [hgbs]
      exact hD4.2 k _ h1
  have hPg : va_P g.1 vcls (wl g w_0) H4 := by
    rw [hg0]
    refine vp_map fun k hk => ?_
    rcases Nat.lt_or_ge k 83 with h1 | h1
    · have h5 : shW g w_0 k = shX g k (fun _ => 0) := by unfold shW; rw [if_pos h1]; rfl
      rw [h5]
      refine shX_to (qc := qc) (qa := qa) ax (by rw [hgc]; rfl) (by rw [hgc]; rfl) (by rw [hgc]; rfl) (by rw [hgc]; rfl) (by rw [hgc]; rfl) k h1 ?_
      refine hP4 k _ ?_
      rw [List.getElem?_append_left (by simp; omega), List.getElem?_append_left (by simpa using h1), rg_at h1]
    rcases Nat.lt_or_ge k 104 with h2 | h2
    · have h5 : shW g w_0 k = shM g k (fun _ => 0) (fun _ => 0) 0 := by unfold shW; rw [if_neg (by omega), if_pos h2]; rfl
      rw [h5]
      refine shM_to (qc := qd) (qa := qm) am (by rw [hgc, ← u1]; rfl) (by rw [hgc, u2]; rfl) k h1 h2 ?_
      refine hP4 k _ ?_
      rw [List.getElem?_append_left (by simp; omega), List.getElem?_append_right (by simpa using h1)]
      have h5 := rg_at (n := 21) (qa := fun k => qm (83 + k)) (f := fun k => shM (dd, qd, qm, 0) (83 + k) (fun _ => 0) (fun _ => 0) 0) (k := k - 83) (by omega)
      simp only [List.length_map, List.length_range]
      rw [show 83 + (k - 83) = k from by omega] at h5
      exact h5
    · obtain rfl : k = 104 := by omega
      have h5 : shW g w_0 104 = .inl (cA, (1, .inr (.inl (fun _ => 0)))) := by
        show (Sum.inl (g_c g 1, (1, .inr (.inl (fun _ => 0)))) : va_E) = _
        rw [hgc]; rfl
      rw [h5, a4]
      exact hP4 104 _ w4
  have hE := Exs_of (g := g) hts hgv hgbs
  refine W.widen (k := 105 + 0) (n := 2635 + 6 * 0) (Nat.le_of_ble_eq_true rfl) (Nat.le_of_ble_eq_true rfl) ?_
  have hS9 : va_S (AB g) s.heap H4 locs2 := by
    have h9 : AB g = fun q : Nat => s.heap.size ≤ q := by funext q; show (g_b g ≤ q) = _; rw [hgbs]
    rw [h9]; exact hS
  have e0 : g_a g 0 = q0 := by rw [ax 0 (by decide)]; exact hq0
  have e83 : g_a g 83 = q1 := by rw [am 83 (by decide) (by decide)]; exact hq1
  have hl9 : lv_has ls 8 (lwloc g b (Int32.ofNat (6 * 0))) := by
    unfold lwloc
    rw [e0, e83, a4]
    exact lv_sub hl [0, 4, 3, 2, 1] rfl
  exact law_loop hok hlt hE hL C0 hgbs (fun Q cells slots => ⟨hx, hb, hml, hown, htw, hKg, hgk, by rw [hgbs]; exact Nat.le_refl _, by decide, by decide, hnw⟩) (L + 1) 0 _ _ _ (Nat.zero_le _) (by omega) hI H4 locs2 ls hPg hS9 hl9

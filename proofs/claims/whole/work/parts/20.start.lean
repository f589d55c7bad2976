/-! THE START: the premises, both objects, the world. -/
theorem xs_ao_Ho : Cond.arrayOver (.object n_Ho) ∈ lw_tbl := List.mem_of_getElem? (i := 83) (by decide +kernel)
theorem xs_ao_St : Cond.arrayOver (.object n_St) ∈ lw_tbl := List.mem_of_getElem? (i := 146) (by decide +kernel)
theorem xs_ao_La : Cond.arrayOver (.object n_La) ∈ lw_tbl := List.mem_of_getElem? (i := 198) (by decide +kernel)
theorem xs_ao_Sh : Cond.arrayOver (.object n_Sh) ∈ lw_tbl := List.mem_of_getElem? (i := 202) (by decide +kernel)
theorem xs_us : Cond.laysStatic Bundle.tN "UNASSIGNED_STACK" Bundle.steD ∈ lw_tbl := List.mem_of_getElem? (i := 848) (by decide +kernel)
theorem xs_ss : Cond.laysStatic Bundle.tN "SUPPRESSED_SENTINEL" Bundle.listD ∈ lw_tbl := List.mem_of_getElem? (i := 850) (by decide +kernel)
theorem xs_it : Cond.initialized Bundle.tN ∈ lw_tbl := List.mem_of_getElem? (i := 67) (by decide +kernel)
theorem xs_s_Ho_9 : Cond.stringRef n_Ho 9 "a horse fails" ∈ lw_tbl := List.mem_of_getElem? (i := 918) (by decide +kernel)
theorem xs_s_Tw_20 : Cond.stringRef n_Tw 20 "a horse of two homes fails" ∈ lw_tbl := List.mem_of_getElem? (i := 901) (by decide +kernel)
theorem xs_s_Ma_27 : Cond.stringRef n_Ma 27 "a mare fails" ∈ lw_tbl := List.mem_of_getElem? (i := 862) (by decide +kernel)
theorem xs_s_Hb_272 : Cond.stringRef n_Hb 272 "no such shelf" ∈ lw_tbl := List.mem_of_getElem? (i := 934) (by decide +kernel)
theorem xs_s_Hb_279 : Cond.stringRef n_Hb 279 "no row, or no such place in it" ∈ lw_tbl := List.mem_of_getElem? (i := 936) (by decide +kernel)
theorem xs_in_Ho : Cond.instantiable n_Ho 0 ∈ lw_tbl := List.mem_of_getElem? (i := 84) (by decide +kernel)
theorem xs_in_Co : Cond.instantiable n_Co 0 ∈ lw_tbl := List.mem_of_getElem? (i := 91) (by decide +kernel)
theorem xs_in_Bl : Cond.instantiable n_Bl 0 ∈ lw_tbl := List.mem_of_getElem? (i := 98) (by decide +kernel)
theorem xs_in_Tw : Cond.instantiable n_Tw 0 ∈ lw_tbl := List.mem_of_getElem? (i := 105) (by decide +kernel)
theorem xs_in_Dr : Cond.instantiable n_Dr 0 ∈ lw_tbl := List.mem_of_getElem? (i := 112) (by decide +kernel)
theorem xs_in_Fo : Cond.instantiable n_Fo 0 ∈ lw_tbl := List.mem_of_getElem? (i := 119) (by decide +kernel)
theorem xs_in_Ma : Cond.instantiable n_Ma 0 ∈ lw_tbl := List.mem_of_getElem? (i := 126) (by decide +kernel)
theorem xs_in_Ge : Cond.instantiable n_Ge 0 ∈ lw_tbl := List.mem_of_getElem? (i := 133) (by decide +kernel)
theorem xs_in_St : Cond.instantiable n_St 5 ∈ lw_tbl := List.mem_of_getElem? (i := 147) (by decide +kernel)
theorem xs_in_La : Cond.instantiable n_La 5 ∈ lw_tbl := List.mem_of_getElem? (i := 140) (by decide +kernel)
theorem xs_in_Sh : Cond.instantiable n_Sh 6 ∈ lw_tbl := List.mem_of_getElem? (i := 203) (by decide +kernel)
theorem xs_in_Hb : Cond.instantiable n_Hb 7 ∈ lw_tbl := List.mem_of_getElem? (i := 75) (by decide +kernel)
theorem xs_in_Mo : Cond.instantiable n_Mo 35 ∈ lw_tbl := List.mem_of_getElem? (i := 939) (by decide +kernel)
theorem xs_c_Hb : Cond.classLink n_Lw 8 n_Hb ∈ lw_tbl := List.mem_of_getElem? (i := 74) (by decide +kernel)
theorem xs_c_Mo : Cond.classLink n_Lw 18 n_Mo ∈ lw_tbl := List.mem_of_getElem? (i := 938) (by decide +kernel)
theorem tw_tbl {w : Cond} (h : w ∈ TW) : w ∈ lw_tbl := (List.mem_filter.mp h).1
theorem Exs_of {g : GC} {s : State} {b : Addr} (hts : ∀ w ∈ lw_tbl, w.before #[Value.ref b] s = true) (hgv : (Jvm.Cond.and given_1 narrow_1).before #[Value.ref b] s = true) (hgb : g_b g = s.heap.size) : Exs g s := by
  have hs := flat_of_before _ hgv
  have hA : ∀ a : Nat, a < s.heap.size → ¬ AB g a := fun a h q => by
    have q2 : g_b g ≤ a := q
    omega
  refine ⟨vx_Zqof (hts _ xs_us) (hts _ xs_it) (hs _ (by decide +kernel)) hA, vx_Zqof (hts _ xs_ss) (hts _ xs_it) (hs _ (by decide +kernel)) hA, ?_, ?_, ?_, ?_, ?_, va_Nc.of (hs _ (by decide +kernel)), va_Nc.of (hs _ (by decide +kernel)), va_Nc.of (hs _ (by decide +kernel))⟩
  · obtain ⟨a, c, cA, kA, q1, -⟩ := Cond.exactly_spec (args := #[Value.ref b]) (first := s) (o := none) (s := s) (idx := []) (t := .string n_Ho 9) (cls := "java/lang/String") (hs (.exactly (.string n_Ho 9) "java/lang/String") (by decide +kernel))
    exact ⟨a, vk_R.of (hts _ xs_s_Ho_9) q1⟩
  · obtain ⟨a, c, cA, kA, q1, -⟩ := Cond.exactly_spec (args := #[Value.ref b]) (first := s) (o := none) (s := s) (idx := []) (t := .string n_Tw 20) (cls := "java/lang/String") (hs (.exactly (.string n_Tw 20) "java/lang/String") (by decide +kernel))
    exact ⟨a, vk_R.of (hts _ xs_s_Tw_20) q1⟩
  · obtain ⟨a, c, cA, kA, q1, -⟩ := Cond.exactly_spec (args := #[Value.ref b]) (first := s) (o := none) (s := s) (idx := []) (t := .string n_Ma 27) (cls := "java/lang/String") (hs (.exactly (.string n_Ma 27) "java/lang/String") (by decide +kernel))
    exact ⟨a, vk_R.of (hts _ xs_s_Ma_27) q1⟩
  · obtain ⟨a, c, cA, kA, q1, -⟩ := Cond.exactly_spec (args := #[Value.ref b]) (first := s) (o := none) (s := s) (idx := []) (t := .string n_Hb 272) (cls := "java/lang/String") (hs (.exactly (.string n_Hb 272) "java/lang/String") (by decide +kernel))
    exact ⟨a, vk_R.of (hts _ xs_s_Hb_272) q1⟩
  · obtain ⟨a, c, cA, kA, q1, -⟩ := Cond.exactly_spec (args := #[Value.ref b]) (first := s) (o := none) (s := s) (idx := []) (t := .string n_Hb 279) (cls := "java/lang/String") (hs (.exactly (.string n_Hb 279) "java/lang/String") (by decide +kernel))
    exact ⟨a, vk_R.of (hts _ xs_s_Hb_279) q1⟩
/-- a cell of the class's side, by the fixed things g that agree with those it was made by -/
theorem shX_to {dd : va_G} {qc : Nat → ClassId} {qa : Nat → Nat} {g : GC} {cl : List vw_C} {H : Heap} (ha : ∀ k, k < 83 → g_a g k = qa k) (h0 : g_c g 0 = qc 0) (h2 : g_c g 2 = qc 2) (h3 : g_c g 3 = qc 3) (h4 : g_c g 4 = qc 4) (h5 : g_c g 5 = qc 5) (k : Nat) (hk : k < 83) (h : va_at dd cl (qa k, shX (dd, qc, qa, 0) k (fun _ => 0)) H) : va_at dd cl (g_a g k, shX g k (fun _ => 0)) H := by
  rw [ha k hk]
  have z0 : (0 : Int32).toNatClampNeg = 0 := by decide
  by_cases c0 : k = 0
  · subst c0
    have e : shX g 0 (fun _ => 0) = shX (dd, qc, qa, 0) 0 (fun _ => 0) := by
      show (Sum.inr (11, [.ref (g_a g 1), .ref (g_a g 10), .ref (g_a g 11), .ref (g_a g 65), .ref (g_a g 64), .ref (g_a g 66), .int 0]) : va_E) = .inr (11, [.ref (qa 1), .ref (qa 10), .ref (qa 11), .ref (qa 65), .ref (qa 64), .ref (qa 66), .int 0])
      rw [ha 1 (by decide), ha 10 (by decide), ha 11 (by decide), ha 65 (by decide), ha 64 (by decide), ha 66 (by decide)]
    rw [e]; exact h
  by_cases c1 : k = 1
  · subst c1
    have h : va_at dd cl (qa 1, .inl (qc 2, 8, rfs fun i => qa (2 + i))) H := h
    have h6 := at_q (f2 := fun i => g_a g (2 + i)) h (fun i hi => by dsimp only; rw [ha (2 + i) (by omega)])
    show va_at dd cl (qa 1, .inl (g_c g 2, 8, rfs fun i => g_a g (2 + i))) H
    rw [h2]; exact h6
  by_cases c2 : k < 10
  · have e : ∀ g : GC, shX g k (fun _ => 0) = .inr (k - 2, []) := fun g => by
      unfold shX
      rw [if_neg c0, if_neg c1, if_pos c2]
    rw [e]; rw [e] at h; exact h
  by_cases c3 : k < 16
  · have e : ∀ g : GC, shX g k (fun _ => 0) = .inr (9, [.ref (g_a g 1), .ref (g_a g (k + 6)), .int 0, .int 0, .int 0]) := fun g => by
      unfold shX
      rw [if_neg c0, if_neg c1, if_neg c2, if_pos c3]
    rw [e]; rw [e] at h; rw [ha 1 (by decide), ha (k + 6) (by omega)]; exact h
  by_cases c4 : k < 22
  · have e : ∀ g : GC, shX g k (fun _ => 0) = .inl (g_c g 3, 7, rfs fun i => g_a g (22 + 7 * (k - 16) + i)) := fun g => by
      unfold shX
      rw [if_neg c0, if_neg c1, if_neg c2, if_neg c3, if_pos c4]
    rw [e]; rw [e] at h; rw [h3]
    exact at_q (f2 := fun i => g_a g (22 + 7 * (k - 16) + i)) h (fun i hi => by dsimp only; rw [ha (22 + 7 * (k - 16) + i) (by omega)])
  by_cases c5 : k < 65
  · have e : ∀ g : GC, shX g k (fun _ => 0) = .inr (8, [.ref (g_a g (2 + (0 : Int32).toNatClampNeg)), .int 0, .int 0, .int 0, .int 0]) := fun g => by
      unfold shX
      rw [if_neg c0, if_neg c1, if_neg c2, if_neg c3, if_neg c4, if_pos c5]
    rw [e]; rw [e] at h; rw [ha (2 + (0 : Int32).toNatClampNeg) (by rw [z0]; decide)]; exact h
  by_cases c6 : k = 65
  · subst c6
    have h : va_at dd cl (qa 65, .inl (qc 4, 4, rfs fun i => qa (12 + i))) H := h
    have h6 := at_q (f2 := fun i => g_a g (12 + i)) h (fun i hi => by dsimp only; rw [ha (12 + i) (by omega)])
    show va_at dd cl (qa 65, .inl (g_c g 4, 4, rfs fun i => g_a g (12 + i))) H
    rw [h4]; exact h6
  by_cases c7 : k = 66
  · subst c7
    have h : va_at dd cl (qa 66, .inl (qc 5, 8, rfs fun i => qa (67 + i))) H := h
    have h6 := at_q (f2 := fun i => g_a g (67 + i)) h (fun i hi => by dsimp only; rw [ha (67 + i) (by omega)])
    show va_at dd cl (qa 66, .inl (g_c g 5, 8, rfs fun i => g_a g (67 + i))) H
    rw [h5]; exact h6
  by_cases c8 : k < 75
  · have e : ∀ g : GC, shX g k (fun _ => 0) = .inr (10, [.int 0, .ref (g_a g (2 + (0 : Int32).toNatClampNeg)), .int 0, .int 0, .int 0, .ref (g_a g (k + 8))]) := fun g => by
      unfold shX
      rw [if_neg c0, if_neg c1, if_neg c2, if_neg c3, if_neg c4, if_neg c5, if_neg c6, if_neg c7, if_pos c8]
    rw [e]; rw [e] at h; rw [ha (2 + (0 : Int32).toNatClampNeg) (by rw [z0]; decide), ha (k + 8) (by omega)]; exact h
  · have e : ∀ g : GC, shX g k (fun _ => 0) = .inl (g_c g 0, 100, .inl (fun _ => 0)) := fun g => by
      unfold shX
      rw [if_neg c0, if_neg c1, if_neg c2, if_neg c3, if_neg c4, if_neg c5, if_neg c6, if_neg c7, if_neg c8]
    rw [e]; rw [e] at h; rw [h0]; exact h
theorem shM_to {dd : va_G} {qc : Nat → ClassId} {qa : Nat → Nat} {g : GC} {cl : List vw_C} {H : Heap} (ha : ∀ k, 83 ≤ k → k < 104 → g_a g k = qa k) (h0 : g_c g 0 = qc 0) (h1 : g_c g 1 = qc 1) (k : Nat) (hk0 : 83 ≤ k) (hk : k < 104) (h : va_at dd cl (qa k, shM (dd, qc, qa, 0) k (fun _ => 0) (fun _ => 0) 0) H) : va_at dd cl (g_a g k, shM g k (fun _ => 0) (fun _ => 0) 0) H := by
  rw [ha k hk0 hk]
  have e : shM g k (fun _ => 0) (fun _ => 0) 0 = shM (dd, qc, qa, 0) k (fun _ => 0) (fun _ => 0) 0 := by
    unfold shM
    rw [h0, h1]
    dsimp only
    simp only [ha 84 (by decide) (by decide), ha 85 (by decide) (by decide), ha 86 (by decide) (by decide), ha 87 (by decide) (by decide), ha 88 (by decide) (by decide), ha 89 (by decide) (by decide), ha 90 (by decide) (by decide), ha 91 (by decide) (by decide), ha 92 (by decide) (by decide), ha 93 (by decide) (by decide), ha 94 (by decide) (by decide), ha 95 (by decide) (by decide), ha 96 (by decide) (by decide), ha 97 (by decide) (by decide), ha 98 (by decide) (by decide), ha 99 (by decide) (by decide), ha 100 (by decide) (by decide), ha 101 (by decide) (by decide), ha 102 (by decide) (by decide), ha 103 (by decide) (by decide)]
    rfl
  rw [e]; exact h
/-- the world with nothing in it -/
def w_0 : WD := (fun _ _ => 0, (fun _ _ => 0, fun _ _ => 0, 0), fun _ => 0)

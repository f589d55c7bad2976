/-! The class's steeds. -/
/-- the object o of the world x is the horse s -/
def xst (x : XD) (o : Nat) (s : Hs) : Prop := x o 0 = nI (hk s) ∧ x o 1 = nI (hf s) ∧ x o 2 = nI (hh s) ∧ x o 3 = nI (ha s) ∧ x o 4 = nI (hlo s)
theorem xst_up4 {x : XD} {o : Nat} {s : Hs} {v : Nat} (h : xst x o s) : xst (x_up x o 4 (nI v)) o (hk s, hf s, hh s, ha s, v) := by
  obtain ⟨h0, h1, h2, h3, h4⟩ := h
  refine ⟨?_, ?_, ?_, ?_, ?_⟩ <;> simp [x_up, h0, h1, h2, h3]
theorem xst_up3 {x : XD} {o : Nat} {s : Hs} {v : Nat} (h : xst x o s) : xst (x_up x o 3 (nI v)) o (hk s, hf s, hh s, v, hlo s) := by
  obtain ⟨h0, h1, h2, h3, h4⟩ := h
  refine ⟨?_, ?_, ?_, ?_, ?_⟩ <;> simp [x_up, h0, h1, h2, h4]
theorem xst_ne {x : XD} {o k j : Nat} {s : Hs} {v : Int32} (h : xst x o s) (hne : o ≠ k) : xst (x_up x k j v) o s := by
  unfold xst
  rw [x_up_ne hne]
  exact h
/-- only the object o is another -/
def frO (o : Nat) (x x' : XD) : Prop := ∀ k, k ≠ o → x' k = x k
theorem frO.up {o j : Nat} {x : XD} {v : Int32} : frO o x (x_up x o j v) := fun _ hk => x_up_ne hk
theorem frO.rf {o : Nat} {x : XD} : frO o x x := fun _ _ => rfl
theorem frO.tr {o : Nat} {x y z : XD} (h1 : frO o x y) (h2 : frO o y z) : frO o x z := fun k hk => (h2 k hk).trans (h1 k hk)
section XS
variable {x : XD} {o oats : Nat} {s : Hs}
theorem st_goal_n (h : xst x o s) (hV : VH s) (ho : oats ≤ 20) : f_St_goal o (nI oats) x = some (nI (goalN oats s), x) := by
  unfold f_St_goal
  rw [h.1, h.2.2.1, h.2.2.2.1, v_goal_n hV ho, bd_s]
theorem st_pace_n (h : xst x o s) (hV : VH s) : f_St_pace o x = some (nI (paceN s), x) := by
  unfold f_St_pace
  rw [h.1, h.2.1, h.2.2.2.2, v_pace_n hV, bd_s]
theorem st_rests_n (h : xst x o s) (hV : VH s) (ho : oats ≤ 20) : f_St_rests o (nI oats) x = some (if ha s = goalN oats s then 1 else 0, x) := by
  unfold f_St_rests
  rw [st_goal_n h hV ho, bd_s]
  have hg := goal_le hV ho
  have h4 := hV.2.2.2.1
  show (if x o 3 = nI (goalN oats s) then some ((1 : Int32), x) else some (0, x)) = _
  simp only [h.2.2.2.1, n_eq (show ha s < 2147483648 by omega) (show goalN oats s < 2147483648 by omega)]
  by_cases c : ha s = goalN oats s
  · rw [if_pos c, if_pos c]
  · rw [if_neg c, if_neg c]
theorem dst_z {a b : Nat} : dst a b = 0 ↔ b = a := by
  unfold dst
  split <;> omega
theorem st_pine_n (h : xst x o s) (hV : VH s) (ho : oats ≤ 20) : f_St_pine o (nI oats) x = some ((), x_up x o 4 (nI (pineN oats s))) := by
  have hg := goal_le hV ho
  have h4 := hV.2.2.2.1
  have h5 := hV.2.2.2.2
  have hp := pines_le hV ho
  unfold f_St_pine
  rw [h.1, h.2.2.1, h.2.2.2.1, v_goal_n hV ho, bd_s]
  dsimp only
  simp only [h.2.2.2.1, abs_n (show goalN oats s < 1000000 by omega) (show ha s < 1000000 by omega), h.2.2.2.2, h.2.1, h.1, v_pines_n hV ho, bd_s]
  have d1 : dst (ha s) (goalN oats s) ≤ 20 := dst_le h4 hg
  simp only [show (0 : Int32) = nI 0 from rfl, n_eq (show dst (ha s) (goalN oats s) < 2147483648 by omega) (show 0 < 2147483648 by omega), dst_z]
  unfold pineN b_St_pine_61 lt
  by_cases c : goalN oats s = ha s
  · rw [if_pos c, if_pos c, show (2 : Int32) = nI 2 from rfl, n_div (by omega) (by omega)]
  · rw [if_neg c, if_neg c, n_add, show (99 : Int32) = nI 99 from rfl, min_n (by omega) (by omega)]
    congr 3
    split
    · rw [Nat.min_eq_right (by omega)]
    · rw [Nat.min_eq_left (by omega)]
theorem st_day (h : xst x o s) : xst (x_up x o 4 (nI (pineN oats s))) o (dayN oats s) := xst_up4 h
theorem st_become_n {o1 : Nat} {s1 : Hs} (hne : o1 ≠ o) (h : xst x o1 s1) : ∃ x', f_St_become o o1 x = some ((), x') ∧ xst x' o s1 ∧ frO o x x' := by
  obtain ⟨h0, h1, h2, h3, h4⟩ := h
  refine ⟨_, rfl, ?_, ?_⟩
  · refine ⟨?_, ?_, ?_, ?_, ?_⟩ <;> simp [x_up, hne, h0, h1, h2, h3, h4]
  · intro k hk
    simp only [x_up_ne hk]
end XS

/-! ===== queries, both sides ===== -/
section Qs
variable {v : VT} {t : Int}
theorem Q_far {a : Int} {b : Int} (h : Inv t v) : P_X10_far a b v (fun r v1 => P_X11_far a b v1 (fun r' v2 => r = r' ∧ Inv (t + 1) v2)) := by
  obtain ⟨A, T, F, V, S, c, P, R, H, hA, hT, hX, hM⟩ := h
  exact q_two (fX := fun v q => P_X10_far a b v q) (fM := fun v q => P_X11_far a b v q) hA hT hX hM (fun q hq => SX_far hA.2.1 hA.1 hX.1 hq) (fun v1 q m1 hq => SM_far hA.2.1 hA.1 m1.1 hq)
theorem Q_between {a : Int} {b : Int} (h : Inv t v) : P_X10_between a b v (fun r v1 => P_X11_between a b v1 (fun r' v2 => r = r' ∧ Inv (t + 1) v2)) := by
  obtain ⟨A, T, F, V, S, c, P, R, H, hA, hT, hX, hM⟩ := h
  exact q_two (fX := fun v q => P_X10_between a b v q) (fM := fun v q => P_X11_between a b v q) hA hT hX hM (fun q hq => SX_between hA.2.1 hA.1 hX.1 hq) (fun v1 q m1 hq => SM_between hA.2.1 hA.1 m1.1 hq)
theorem Q_reach {a : Int} (h : Inv t v) : P_X10_reach a v (fun r v1 => P_X11_reach a v1 (fun r' v2 => r = r' ∧ Inv (t + 1) v2)) := by
  obtain ⟨A, T, F, V, S, c, P, R, H, hA, hT, hX, hM⟩ := h
  exact q_two (fX := fun v q => P_X10_reach a v q) (fM := fun v q => P_X11_reach a v q) hA hT hX hM (fun q hq => SX_reach hA.2.1 hA.1 hX.1 hq) (fun v1 q m1 hq => SM_reach hA.2.1 hA.1 m1.1 hq)
theorem Q_spread  (h : Inv t v) : P_X10_spread  v (fun r v1 => P_X11_spread  v1 (fun r' v2 => r = r' ∧ Inv (t + 1) v2)) := by
  obtain ⟨A, T, F, V, S, c, P, R, H, hA, hT, hX, hM⟩ := h
  exact q_two (fX := fun v q => P_X10_spread  v q) (fM := fun v q => P_X11_spread  v q) hA hT hX hM (fun q hq => SX_spread hA.2.1 hA.1 hX.1 hq) (fun v1 q m1 hq => SM_spread hA.2.1 hA.1 m1.1 hq)
theorem Q_alike {a : Int} {b : Int} (h : Inv t v) : P_X10_alike a b v (fun r v1 => P_X11_alike a b v1 (fun r' v2 => r = r' ∧ Inv (t + 1) v2)) := by
  obtain ⟨A, T, F, V, S, c, P, R, H, hA, hT, hX, hM⟩ := h
  exact q_two (fX := fun v q => P_X10_alike a b v q) (fM := fun v q => P_X11_alike a b v q) hA hT hX hM (fun q hq => SX_alike hA.2.1 hA.1 hX.1 hq) (fun v1 q m1 hq => SM_alike hA.2.1 hA.1 m1.1 hq)
theorem Q_line {a : Int} {b : Int} (h : Inv t v) : P_X10_line a b v (fun r v1 => P_X11_line a b v1 (fun r' v2 => r = r' ∧ Inv (t + 1) v2)) := by
  obtain ⟨A, T, F, V, S, c, P, R, H, hA, hT, hX, hM⟩ := h
  exact q_two (fX := fun v q => P_X10_line a b v q) (fM := fun v q => P_X11_line a b v q) hA hT hX hM (fun q hq => SX_line hA.2.1 hA.1 hX.1 hq) (fun v1 q m1 hq => SM_line hA.2.1 hA.1 m1.1 hq)
theorem Q_shows {a : Int} (h : Inv t v) : P_X10_shows a v (fun r v1 => P_X11_shows a v1 (fun r' v2 => r = r' ∧ Inv (t + 1) v2)) := by
  obtain ⟨A, T, F, V, S, c, P, R, H, hA, hT, hX, hM⟩ := h
  exact q_two (fX := fun v q => P_X10_shows a v q) (fM := fun v q => P_X11_shows a v q) hA hT hX hM (fun q hq => SX_shows hA.2.1 hA.1 hX.1 hq) (fun v1 q m1 hq => SM_shows hA.2.1 hA.1 m1.1 hq)
theorem Q_sides {a : Int} (h : Inv t v) : P_X10_sides a v (fun r v1 => P_X11_sides a v1 (fun r' v2 => r = r' ∧ Inv (t + 1) v2)) := by
  obtain ⟨A, T, F, V, S, c, P, R, H, hA, hT, hX, hM⟩ := h
  exact q_two (fX := fun v q => P_X10_sides a v q) (fM := fun v q => P_X11_sides a v q) hA hT hX hM (fun q hq => SX_sides hA.2.1 hA.1 hX.1 hq) (fun v1 q m1 hq => SM_sides hA.2.1 hA.1 m1.1 hq)
theorem Q_at {a : Int} (h : Inv t v) : P_X10_at a v (fun r v1 => P_X11_at a v1 (fun r' v2 => r = r' ∧ Inv (t + 1) v2)) := by
  obtain ⟨A, T, F, V, S, c, P, R, H, hA, hT, hX, hM⟩ := h
  exact q_two (fX := fun v q => P_X10_at a v q) (fM := fun v q => P_X11_at a v q) hA hT hX hM (fun q hq => SX_at hA.2.1 hA.1 hX.1 hq) (fun v1 q m1 hq => SM_at hA.2.1 hA.1 m1.1 hq)
theorem Q_opposite {a : Int} (h : Inv t v) : P_X10_opposite a v (fun r v1 => P_X11_opposite a v1 (fun r' v2 => r = r' ∧ Inv (t + 1) v2)) := by
  obtain ⟨A, T, F, V, S, c, P, R, H, hA, hT, hX, hM⟩ := h
  exact q_two (fX := fun v q => P_X10_opposite a v q) (fM := fun v q => P_X11_opposite a v q) hA hT hX hM (fun q hq => SX_opposite hA.2.1 hA.1 hX.1 hq) (fun v1 q m1 hq => SM_opposite hA.2.1 hA.1 m1.1 hq)
theorem Q_cross {a : Int} {b : Int} (h : Inv t v) : P_X10_cross a b v (fun r v1 => P_X11_cross a b v1 (fun r' v2 => r = r' ∧ Inv (t + 1) v2)) := by
  obtain ⟨A, T, F, V, S, c, P, R, H, hA, hT, hX, hM⟩ := h
  exact q_two (fX := fun v q => P_X10_cross a b v q) (fM := fun v q => P_X11_cross a b v q) hA hT hX hM (fun q hq => SX_cross hA.2.1 hA.1 hX.1 hq) (fun v1 q m1 hq => SM_cross hA.2.1 hA.1 m1.1 hq)
theorem Q_fit {a : Int} {b : Int} (h : Inv t v) : P_X10_fit a b v (fun r v1 => P_X11_fit a b v1 (fun r' v2 => r = r' ∧ Inv (t + 1) v2)) := by
  obtain ⟨A, T, F, V, S, c, P, R, H, hA, hT, hX, hM⟩ := h
  exact q_two (fX := fun v q => P_X10_fit a b v q) (fM := fun v q => P_X11_fit a b v q) hA hT hX hM (fun q hq => SX_fit hA.2.1 hA.1 hX.1 hq) (fun v1 q m1 hq => SM_fit hA.2.1 hA.1 m1.1 hq)
theorem Q_even {a : Int} (h : Inv t v) : P_X10_even a v (fun r v1 => P_X11_even a v1 (fun r' v2 => r = r' ∧ Inv (t + 1) v2)) := by
  obtain ⟨A, T, F, V, S, c, P, R, H, hA, hT, hX, hM⟩ := h
  exact q_two (fX := fun v q => P_X10_even a v q) (fM := fun v q => P_X11_even a v q) hA hT hX hM (fun q hq => SX_even hA.2.1 hA.1 hX.1 hq) (fun v1 q m1 hq => SM_even hA.2.1 hA.1 m1.1 hq)
theorem Q_median {a : Int} {b : Int} {e : Int} (h : Inv t v) : P_X10_median a b e v (fun r v1 => P_X11_median a b e v1 (fun r' v2 => r = r' ∧ Inv (t + 1) v2)) := by
  obtain ⟨A, T, F, V, S, c, P, R, H, hA, hT, hX, hM⟩ := h
  exact q_two (fX := fun v q => P_X10_median a b e v q) (fM := fun v q => P_X11_median a b e v q) hA hT hX hM (fun q hq => SX_median hA.2.1 hA.1 hX.1 hq) (fun v1 q m1 hq => SM_median hA.2.1 hA.1 m1.1 hq)
theorem Q_medians {a : Int} (h : Inv t v) : P_X10_medians a v (fun r v1 => P_X11_medians a v1 (fun r' v2 => r = r' ∧ Inv (t + 1) v2)) := by
  obtain ⟨A, T, F, V, S, c, P, R, H, hA, hT, hX, hM⟩ := h
  exact q_two (fX := fun v q => P_X10_medians a v q) (fM := fun v q => P_X11_medians a v q) hA hT hX hM (fun q hq => SX_medians hA.2.1 hA.1 hX.1 hq) (fun v1 q m1 hq => SM_medians hA.2.1 hA.1 m1.1 hq)
theorem Q_ways {a : Int} {b : Int} (h : Inv t v) : P_X10_ways a b v (fun r v1 => P_X11_ways a b v1 (fun r' v2 => r = r' ∧ Inv (t + 1) v2)) := by
  obtain ⟨A, T, F, V, S, c, P, R, H, hA, hT, hX, hM⟩ := h
  exact q_two (fX := fun v q => P_X10_ways a b v q) (fM := fun v q => P_X11_ways a b v q) hA hT hX hM (fun q hq => SX_ways hA.2.1 hA.1 hX.1 hq) (fun v1 q m1 hq => SM_ways hA.2.1 hA.1 m1.1 hq)
theorem Q_sort {a : Int} {b : Int} (h : Inv t v) : P_X10_sort a b v (fun r v1 => P_X11_sort a b v1 (fun r' v2 => r = r' ∧ Inv (t + 1) v2)) := by
  obtain ⟨A, T, F, V, S, c, P, R, H, hA, hT, hX, hM⟩ := h
  exact q_two (fX := fun v q => P_X10_sort a b v q) (fM := fun v q => P_X11_sort a b v q) hA hT hX hM (fun q hq => SX_sort hA.2.1 hA.1 hX.1 hq) (fun v1 q m1 hq => SM_sort hA.2.1 hA.1 m1.1 hq)
theorem Q_price {a : Int} {b : Int} {e : Int} (h : Inv t v) : P_X10_price a b e v (fun r v1 => P_X11_price a b e v1 (fun r' v2 => r = r' ∧ Inv (t + 1) v2)) := by
  obtain ⟨A, T, F, V, S, c, P, R, H, hA, hT, hX, hM⟩ := h
  exact q_two (fX := fun v q => P_X10_price a b e v q) (fM := fun v q => P_X11_price a b e v q) hA hT hX hM (fun q hq => SX_price hA.2.1 hA.1 hX.1 hq) (fun v1 q m1 hq => SM_price hA.2.1 hA.1 m1.1 hq)
theorem Q_road {a : Int} {b : Int} {e : Int} (h : Inv t v) : P_X10_road a b e v (fun r v1 => P_X11_road a b e v1 (fun r' v2 => r = r' ∧ Inv (t + 1) v2)) := by
  obtain ⟨A, T, F, V, S, c, P, R, H, hA, hT, hX, hM⟩ := h
  exact q_two (fX := fun v q => P_X10_road a b e v q) (fM := fun v q => P_X11_road a b e v q) hA hT hX hM (fun q hq => SX_road hA.2.1 hA.1 hX.1 hq) (fun v1 q m1 hq => SM_road hA.2.1 hA.1 m1.1 hq)
theorem Q_gate {a : Int} {x : Int} (hx : r32 x) (h : Inv t v) : P_X10_gate a x v (fun r v1 => P_X11_gate a x v1 (fun r' v2 => r = r' ∧ Inv (t + 1) v2)) := by
  obtain ⟨A, T, F, V, S, c, P, R, H, hA, hT, hX, hM⟩ := h
  exact q_two (fX := fun v q => P_X10_gate a x v q) (fM := fun v q => P_X11_gate a x v q) hA hT hX hM (fun q hq => SX_gate hA.2.1 hA.1 hX.1 hq) (fun v1 q m1 hq => SM_gate hA.2.1 hA.1 hx m1.1 hq)
theorem Q_hull {x : Int} (hx : r32 x) (h : Inv t v) : P_X10_hull x v (fun r v1 => P_X11_hull x v1 (fun r' v2 => r = r' ∧ Inv (t + 1) v2)) := by
  obtain ⟨A, T, F, V, S, c, P, R, H, hA, hT, hX, hM⟩ := h
  exact q_two (fX := fun v q => P_X10_hull x v q) (fM := fun v q => P_X11_hull x v q) hA hT hX hM (fun q hq => SX_hull hA.2.1 hA.1 hx hX.1 hq) (fun v1 q m1 hq => SM_hull hA.2.1 hA.1 hx m1.1 hq)
theorem Q_set {x : Int} {y : Int} (hx : r32 x) (h : Inv t v) : P_X10_set x y v (fun r v1 => P_X11_set x y v1 (fun r' v2 => r = r' ∧ Inv (t + 1) v2)) := by
  obtain ⟨A, T, F, V, S, c, P, R, H, hA, hT, hX, hM⟩ := h
  exact q_two (fX := fun v q => P_X10_set x y v q) (fM := fun v q => P_X11_set x y v q) hA hT hX hM (fun q hq => SX_set hA.2.1 hA.1 hx hX.1 hq) (fun v1 q m1 hq => SM_set hA.2.1 hA.1 hx m1.1 hq)
theorem Q_degree {a : Int} (h : Inv t v) : P_X10_degree a v (fun r v1 => P_X11_degree a v1 (fun r' => r = r' ∧ Inv (t + 1) v1)) := by
  obtain ⟨A, T, F, V, S, c, P, R, H, hA, hT, hX, hM⟩ := h
  refine SX_degree hA.2.1 hA.1 hX.1 (fun v1 f1 c1 => ?_)
  have m1 : IM v1 A T F V S c P R H := IM_high hM (fun a ha => f1 a (by omega))
  exact SM_degree hA.2.1 hA.1 m1.1 ⟨rfl, A, T, F, V, S, c, P, R, H, hA, okT_up hT (by omega), IX_XF hX f1 c1, m1⟩
theorem Q_has {a : Int} (h : Inv t v) : P_X10_has a v (fun r v1 => P_X11_has a v1 (fun r' v2 => r = r' ∧ Inv (t + 1) v2)) := by
  obtain ⟨A, T, F, V, S, c, P, R, H, hA, hT, hX, hM⟩ := h
  refine q_two (fX := fun v q => P_X10_has a v q) (fM := fun v q => P_X11_has a v q) (sp := sp_has A.1 A.2.1 V.1 S.1 (H.2.length : Int) a) hA hT hX hM (fun q hq => SX_has hA.2.1 hA.1 hX.1 (fun v' f' c' => ?_)) (fun v1 q m1 hq => SM_has hA.2.1 hA.1 m1.1 (fun v' f' c' => ?_))
  · have o := hX.2.2
    rw [o.2.2.1.1, o.2.2.1.2.1, o.2.2.2.2.2.1]
    exact hq v' f' c'
  · have o := m1.2.2
    rw [o.2.2.1.1, o.2.2.1.2.1, o.2.2.2.2.2.1]
    exact hq v' f' c'
theorem Q_winner {a : Int} (h : Inv t v) : P_X10_winner a v (fun r v1 => P_X11_winner a v1 (fun r' v2 => r = r' ∧ Inv (t + 1) v2)) := by
  obtain ⟨A, T, F, V, S, c, P, R, H, hA, hT, hX, hM⟩ := h
  exact q_two (fX := fun v q => P_X10_winner a v q) (fM := fun v q => P_X11_winner a v q) hA hT hX hM (fun q hq => SX_winner hA.2.1 hA.1 hX.1 hX.2.2.2.2.1.1 hT.1 hX.2.2.2.2.1.2.2.2.1 hq) (fun v1 q m1 hq => SM_winner hA.2.1 hA.1 m1.1 m1.2.2.2.2.1.1 hT.1 m1.2.2.2.2.1.2.2.2.1 hq)
theorem Q_fits (h : Inv t v) : P_X10_fits v (fun r v1 => P_X11_fits v1 (fun r' v2 => r = r' ∧ Inv (t + 1) v2)) := by
  obtain ⟨A, T, F, V, S, c, P, R, H, hA, hT, hX, hM⟩ := h
  exact q_two (fX := fun v q => P_X10_fits v q) (fM := fun v q => P_X11_fits v q) hA hT hX hM (fun q hq => SX_fits hA.2.1 hA.1 hX.1 hX.2.2.2.2.1.2.1 hT.2.1 (fun i i0 i1 => (hX.2.2.2.2.1.2.2.2.2 i i0 i1).1) (fun i i0 i1 => (hX.2.2.2.2.1.2.2.2.2 i i0 i1).2) hq) (fun v1 q m1 hq => SM_fits hA.2.1 hA.1 m1.1 m1.2.2.2.2.1.2.1 hT.2.1 (fun i i0 i1 => (m1.2.2.2.2.1.2.2.2.2 i i0 i1).1) (fun i i0 i1 => (m1.2.2.2.2.1.2.2.2.2 i i0 i1).2) hT.2.2.1 hq)
theorem Q_tells {a : Int} (h : Inv t v) : P_X10_tells a v (fun r v1 => P_X11_tells a v1 (fun r' v2 => r = r' ∧ Inv (t + 1) v2)) := by
  obtain ⟨A, T, F, V, S, c, P, R, H, hA, hT, hX, hM⟩ := h
  exact q_two (fX := fun v q => P_X10_tells a v q) (fM := fun v q => P_X11_tells a v q) hA hT hX hM (fun q hq => SX_tells hA.2.1 hA.1 hX.1 hX.2.2.2.2.1.2.1 hT.2.1 (fun i i0 i1 => (hX.2.2.2.2.1.2.2.2.2 i i0 i1).1) (fun i i0 i1 => (hX.2.2.2.2.1.2.2.2.2 i i0 i1).2) hq) (fun v1 q m1 hq => SM_tells hA.2.1 hA.1 m1.1 m1.2.2.2.2.1.2.1 hT.2.1 (fun i i0 i1 => (m1.2.2.2.2.1.2.2.2.2 i i0 i1).1) (fun i i0 i1 => (m1.2.2.2.2.1.2.2.2.2 i i0 i1).2) hT.2.2.1 hq)
theorem Q_letter {a b : Int} (h : Inv t v) : P_X10_letter a b v (fun r => P_X11_letter a b v (fun r' => r = r' ∧ Inv (t + 1) v)) := by
  obtain ⟨A, T, F, V, S, c, P, R, H, hA, hT, hX, hM⟩ := h
  exact SX_letter (N := A.2.2) hA.1 hX.1.1.1 (fun i i0 i1 => ⟨hA.2.2 i i0 i1, hX.2.1 i i0 i1⟩) (SM_letter (N := A.2.2) hA.1 hM.1.1.1 (fun i i0 i1 => ⟨hA.2.2 i i0 i1, hM.2.1 i i0 i1⟩) ⟨rfl, A, T, F, V, S, c, P, R, H, hA, okT_up hT (by omega), hX, hM⟩)
theorem Q_fault {a : Int} (h : Inv t v) : P_X10_fault a v (fun r => P_X11_fault a v (fun r' => r = r' ∧ Inv (t + 1) v)) := by
  obtain ⟨A, T, F, V, S, c, P, R, H, hA, hT, hX, hM⟩ := h
  have i : Inv (t + 1) v := ⟨A, T, F, V, S, c, P, R, H, hA, okT_up hT (by omega), hX, hM⟩
  unfold P_X10_fault P_X11_fault
  have e1 := hX.2.2.2.1
  have e2 := hM.2.2.2.1
  unfold xF at e1
  unfold mFt at e2
  rw [e1.1, e1.2, e2.1, e2.2]
  exact ⟨fun h1 => ⟨fun h2 => ⟨fun _ => ⟨fun _ => ⟨rfl, i⟩, fun g => absurd g h2⟩, fun g => absurd g h1⟩, fun h2 => ⟨fun _ => ⟨fun g => absurd h2 g, fun _ => ⟨rfl, i⟩⟩, fun g => absurd g h1⟩⟩, fun h1 => ⟨fun g => absurd h1 g, fun _ => ⟨rfl, i⟩⟩⟩
theorem Q_status {a : Int} (h : Inv t v) : P_X10_status a v (fun r => P_X11_status a v (fun r' => r = r' ∧ Inv (t + 1) v)) := by
  obtain ⟨A, T, F, V, S, c, P, R, H, hA, hT, hX, hM⟩ := h
  have i : Inv (t + 1) v := ⟨A, T, F, V, S, c, P, R, H, hA, okT_up hT (by omega), hX, hM⟩
  unfold P_X10_status P_X11_status
  have no : ¬ (0 ≤ a ∧ a ≤ 5) → P_X11_isIn a 0 5 v (fun r6 => ((r6 = 0) → -1 = -1 ∧ Inv (t + 1) v) ∧ ((¬ r6 = 0) → (0 ≤ a ∧ a < 6) ∧ -1 = v 220 a.toNat ∧ Inv (t + 1) v)) := fun hno => S_isIn (fun _ => ⟨fun _ => ⟨rfl, i⟩, fun g => absurd rfl g⟩) (fun g => absurd g hno)
  refine ⟨fun h1 => no (by omega), fun h1 => ⟨fun h2 => no (by omega), fun h2 => ⟨by omega, S_isIn (fun g => absurd (by omega) g) (fun _ => ⟨fun g => absurd g (by decide), fun _ => ⟨by omega, ?_, i⟩⟩)⟩⟩⟩
  rw [hX.2.2.2.2.2.2.1 a.toNat (by omega), hM.2.2.2.2.2.2.1 a.toNat (by omega)]
theorem Q_octet {a : Int} (h : Inv t v) : P_X10_octet a v (fun r => P_X11_octet a v (fun r' => r = r' ∧ Inv (t + 1) v)) := by
  obtain ⟨A, T, F, V, S, c, P, R, H, hA, hT, hX, hM⟩ := h
  have i : Inv (t + 1) v := ⟨A, T, F, V, S, c, P, R, H, hA, okT_up hT (by omega), hX, hM⟩
  have e1 := hX.2.2.2.2.2.1
  have e2 := hM.2.2.2.2.2.1
  have hP := hT.2.2.2.2.1
  unfold P_X10_octet P_X11_octet
  rw [e1.1, e2.1]
  have no : ¬ (0 ≤ a ∧ a < P.1) → (-2147483648 ≤ P.1 - 1 ∧ P.1 - 1 ≤ 2147483647) ∧ P_X11_isIn a 0 (P.1 - 1) v (fun r10 => ((r10 = 0) → -1 = -1 ∧ Inv (t + 1) v) ∧ ((¬ r10 = 0) → (0 ≤ a ∧ a < 123) ∧ -1 = v 243 a.toNat ∧ Inv (t + 1) v)) := fun hno => ⟨by omega, S_isIn (fun _ => ⟨fun _ => ⟨rfl, i⟩, fun g => absurd rfl g⟩) (fun g => absurd (by omega) hno)⟩
  refine ⟨fun h1 => no (by omega), fun h1 => ⟨fun h2 => no (by omega), fun h2 => ⟨by omega, by omega, S_isIn (fun g => absurd (by omega) g) (fun _ => ⟨fun g => absurd g (by decide), fun _ => ⟨by omega, ?_, i⟩⟩)⟩⟩⟩
  rw [e1.2 a h1 h2, e2.2 a h1 h2]
end Qs

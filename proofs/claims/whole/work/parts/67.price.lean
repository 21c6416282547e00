/-! ===== price ===== -/
section Price
variable {n : Int} {L : List Ln} {v : VT} {q : Int → VT → Prop}
theorem bar_symm (w : wfL n L) {s e c : Int} (h : isL (fop 1) L s e c) : isL (fop 1) L e s c := by
  obtain ⟨⟨k, h1⟩, h2⟩ := h
  have r := cwk_r w (okf_op 1) h1
  refine bar_is w r.1 (by rw [dd_symm]; exact (dd_le (cwk_lv h1)).1) (fun c' h3 h4 => ?_)
  have g := dd_ge (L := lv L c') (a := e) (b := s)
  by_cases h5 : 0 ≤ dd (lv L c') e s
  · rw [dd_symm] at h5
    obtain ⟨c'', h6, h7⟩ := lv_cwk h3 (dd_wk h5)
    have := h2 _ c'' h7
    omega
  · omega
theorem pv_ex (L : List Ln) (x t a : Int) : ∃ c : Int, (∃ c', isL (fop x) L t a c') → isL (fop x) L t a c := by
  by_cases h : ∃ c', isL (fop x) L t a c'
  · obtain ⟨c, h⟩ := h; exact ⟨c, fun _ => h⟩
  · exact ⟨0, fun g => absurd g h⟩
noncomputable def pv (L : List Ln) (x t a : Int) : Int := Classical.choose (pv_ex L x t a)
theorem pv_is {x t a c : Int} (h : isL (fop x) L t a c) : pv L x t a = c := isL_one (Classical.choose_spec (pv_ex L x t a) ⟨c, h⟩) h
noncomputable def sp_price (n : Int) (L : List Ln) (a b x : Int) : Int := if (0 ≤ x ∧ x ≤ 1) ∧ ((0 ≤ a ∧ a < n) ∧ (0 ≤ b ∧ b < n)) ∧ 0 ≤ dd L a b then pv L x b a else -1
theorem SX_price {a b x : Int} (w : wfL n L) (hn : 0 ≤ n ∧ n ≤ 24) (h : XC v n L) (hq : ∀ v', XF v v' → XC v' n L → q (sp_price n L a b x) v') : P_X10_price a b x v q := by
  unfold P_X10_price
  have no : ∀ v', XF v v' → XC v' n L → ¬ ((0 ≤ x ∧ x ≤ 1) ∧ ((0 ≤ a ∧ a < n) ∧ (0 ≤ b ∧ b < n)) ∧ 0 ≤ dd L a b) → q (-1) v' := fun v' f c hc => by
    have := hq v' f c
    unfold sp_price at this; rwa [if_neg hc] at this
  refine ⟨fun h1 => no v (XF_rf v) h (by omega), fun h1 => ⟨fun h2 => no v (XF_rf v) h (by omega), fun h2 => ?_⟩⟩
  refine S_areNodes h.1 (fun hc => ⟨fun _ => no v (XF_rf v) h (fun g => hc g.2.1), fun g => absurd rfl g⟩) (fun ha hb => ⟨fun g => absurd g (by decide), fun _ => S_measB w hn h (fun v1 b1 => ?_)⟩)
  rw [b1.2.2.2.1.2.2.1 a b ha.1 ha.2 hb.1 hb.2]
  have hge := dd_ge (L := L) (a := a) (b := b)
  have go : ∀ y : Int, y = x → 0 ≤ dd L a b → P_X6_weigh b y v1 (fun v54 => (0 ≤ a ∧ a < 24) ∧ q (v54 201 a.toNat) v54) := by
    intro y ey hd
    refine S_weigh w hn b1.2.1.1 hb (fun v' f' hl _ => ⟨by omega, ?_⟩)
    have := hq v' (fun c hc => by rw [f' c (by omega)]; exact b1.1 c hc) (XC_frame hn.2 b1.2.1 (fun c hc => f' c (by omega)))
    unfold sp_price at this
    rw [if_pos ⟨⟨h1, h2⟩, ⟨ha, hb⟩, hd⟩, pv_is (by rw [← ey]; exact hl a ha.1 ha.2 (by rw [dd_symm]; exact hd))] at this
    exact this
  exact ⟨by omega, by omega, fun hne => ⟨fun hx => go 0 (by omega) (by omega), fun hx => go 1 (by omega) (by omega)⟩, fun he => no v1 b1.1 b1.2.1 (by omega)⟩
theorem SM_price {a b x : Int} (w : wfL n L) (hn : 0 ≤ n ∧ n ≤ 24) (h : MC v n L) (hq : ∀ v', MF v v' → MC v' n L → q (sp_price n L a b x) v') : P_X11_price a b x v q := by
  unfold P_X11_price P_X11_areJoined
  refine S_areNodesM w hn h (fun v1 f1 c1 l1 => ?_)
  have no : ¬ ((0 ≤ x ∧ x ≤ 1) ∧ ((0 ≤ a ∧ a < n) ∧ (0 ≤ b ∧ b < n)) ∧ 0 ≤ dd L a b) → q (-1) v1 := fun hc => by
    have := hq v1 f1 c1
    unfold sp_price at this; rwa [if_neg hc] at this
  refine ⟨fun hc => ⟨fun _ => ⟨fun _ => no (fun g => hc g.2.1), fun g => absurd rfl g⟩, fun g => absurd rfl g⟩, fun ha hb => ⟨fun g => absurd g (by decide), fun _ => S_farOf hn l1.1 ha hb ?_⟩⟩
  have f0 := f9_r w hn (a := a) (b := b) ha
  refine ⟨fun h9 => ⟨fun _ => no (fun g => by have := f0.2.2.1.mpr g.2.2; omega), fun g => absurd rfl g⟩, fun h9 => ⟨fun g => absurd g (by decide), fun _ => S_isIn (fun hx => ⟨fun g => absurd rfl g, fun _ => no (fun g => hx g.1)⟩) (fun hx => ⟨fun _ => ⟨fun hx1 => ?_, fun hx1 => ?_⟩, fun g => absurd g (by decide)⟩)⟩⟩
  · have hd := f0.2.2.1.mp h9
    refine S_laysCosts w hn c1.1 hb (fun v' f' hl _ => ⟨by omega, ?_⟩)
    have := hq v' (MF_trans f1 ⟨fun c hc => f' c (by omega), fun j _ _ _ => by rw [f' 218 (by omega)]⟩) (MC_frame c1 (f' 222 (by omega)) (fun c hc => f' c (by omega)) (fun j _ => by rw [f' 218 (by omega)]))
    unfold sp_price at this
    rw [if_pos ⟨hx, ⟨ha, hb⟩, hd⟩, show x = 0 by omega, pv_is (hl a ha.1 ha.2 (by rw [dd_symm]; exact hd))] at this
    exact this
  · have hd := f0.2.2.1.mp h9
    refine S_barOf w hn c1.1 ha hb hd (fun c hc => ?_)
    have := hq v1 f1 c1
    unfold sp_price at this
    rw [if_pos ⟨hx, ⟨ha, hb⟩, hd⟩, hx1, pv_is (bar_symm w hc)] at this
    exact this
end Price

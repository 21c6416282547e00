/-! ===== join, grow, toll, cut ===== -/
section Acts
variable {v : VT} {t : Int} {A : Net} {T : Vt} {F : Int × Int} {V : Vt} {S : Se} {c : Int} {P : Vt} {R : Nat → Int} {H : Hs}
/-- refused on both sides, with a number -/
theorem ref_two {k : Nat} {fM : VT → (Int → VT → Prop) → Prop} (hA : okNet A) (hT : okT t V S c P R H) (ht : t < 1000000) (hX : IX v A T F V S c P R H) (hM : IM v A T F V S c P R H) (hk : k < 6)
    (h2 : ∀ (v1 : VT) (q : Int → VT → Prop), IM v1 A T F V S c P R H → P_X11_refuses (k : Int) v1 q → fM v1 q) : P_X10_refuse (k : Int) v (fun r v1 => fM v1 (fun r' v2 => r = r' ∧ Inv (t + 1) v2)) := by
  refine S_refuse (k := k) hT ht hX hk ?_
  have x1 := IX_ref (k := k) hA hX hk
  have m1 : IM (upd2 v 217 k (v 217 k + 1)) A T F V S c P R H := IM_high hM (fun a ha => upd2_off _ _ _ (by omega))
  exact h2 _ _ m1 (S_refuses (k := k) hT ht m1 hk ⟨rfl, A, T, F, V, S, c, P, rUp R k, H, hA, okT_ref hT hk, IX_low hA x1 (fun a ha => upd2_off _ _ _ (by omega)), IM_ref m1 hk⟩)
theorem den_two {k : Nat} {fM : VT → (Int → VT → Prop) → Prop} (hA : okNet A) (hT : okT t V S c P R H) (ht : t < 1000000) (hX : IX v A T F V S c P R H) (hM : IM v A T F V S c P R H) (hk : k < 6)
    (h2 : ∀ (v1 : VT) (q : Int → VT → Prop), IM v1 A T F V S c P R H → P_X11_isRefused (k : Int) v1 (fun r w => (r = 0 ∨ r = 1) ∧ q r w) → fM v1 q) : P_X10_deny (k : Int) v (fun r v1 => (r = 0 ∨ r = 1) ∧ fM v1 (fun r' v2 => r = r' ∧ Inv (t + 1) v2)) := by
  refine S_deny (k := k) hT ht hX hk ?_
  have x1 := IX_ref (k := k) hA hX hk
  have m1 : IM (upd2 v 217 k (v 217 k + 1)) A T F V S c P R H := IM_high hM (fun a ha => upd2_off _ _ _ (by omega))
  exact h2 _ _ m1 (S_isRefused (k := k) hT ht m1 hk ⟨rfl, A, T, F, V, S, c, P, rUp R k, H, hA, okT_ref hT hk, IX_low hA x1 (fun a ha => upd2_off _ _ _ (by omega)), IM_ref m1 hk⟩)
/-- kept on the class's side: the net and the rest as before -/
theorem X_keep {q : VT → Prop} (hA : okNet A) (hT : okT t V S c P R H) (hX : IX v A T F V S c P R H) (hq : ∀ v', IX v' A T F V S c P R (push H A) → (∀ a, ¬ (a = 16 ∨ (18 ≤ a ∧ a ≤ 137)) → v' a = v a) → q v') : P_X3_keep v q := by
  refine S_keep hA (IX_xn hX) hX.2.2.2.2.2.2.2 hT.2.2.2.2.2.2.1 (fun v' f' h' => hq v' ?_ f')
  obtain ⟨o1, o2, o3, o4, o5, o6⟩ := hX.2.2
  refine ⟨XC_frame hA.1.2 hX.1 (fun a ha => f' a (by omega)), ?_, isTp_frame o1 (f' 1 (by omega)) (f' 2 (by omega)), xF_fr o2 (by rw [f' 3 (by omega)]) (by rw [f' 3 (by omega)]), xD_fr o3 (f' 0 (by omega)) (f' 213 (by omega)) (f' 214 (by omega)) (f' 215 (by omega)), xP_fr o4 (f' 205 (by omega)) (f' 206 (by omega)), xR_fr o5 (f' 217 (by omega)), h'⟩
  unfold nmX; rw [f' 11 (by omega)]; exact hX.2.1
theorem M_keep {q : VT → Prop} (hA : okNet A) (hT : okT t V S c P R H) (hM : IM v A T F V S c P R H) (hq : ∀ v', IM v' A T F V S c P R (push H A) → (∀ a, a ≠ 218 → a ≠ 239 → v' a = v a) → (∀ j, j ≠ 36 → j ≠ 37 → v' 218 j = v 218 j) → q v') : P_X11_keeps v q := by
  refine S_keeps hA (IM_row hM) hM.2.2.2.2.2.2.2 hT.2.2.2.2.2.2.1 hT.2.2.2.2.2.2.2 (fun v' f' j' h' => hq v' ?_ f' j')
  obtain ⟨o1, o2, o3, o4, o5, o6⟩ := hM.2.2
  refine ⟨MC_frame hM.1 (f' 222 (by omega) (by omega)) (fun a ha => f' a (by omega) (by omega)) (fun j hj => j' j (by omega) (by omega)), ?_, mT_fr o1 (j' 1 (by omega) (by omega)) (f' 219 (by omega) (by omega)), mFt_fr o2 (j' 7 (by omega) (by omega)) (j' 8 (by omega) (by omega)), mD_fr o3 (j' 30 (by omega) (by omega)) (j' 33 (by omega) (by omega)) (j' 41 (by omega) (by omega)) (f' 236 (by omega) (by omega)) (f' 238 (by omega) (by omega)), mP_fr o4 (j' 43 (by omega) (by omega)) (f' 243 (by omega) (by omega)), mR_fr o5 (f' 220 (by omega) (by omega)), h'⟩
  rw [f' 222 (by omega) (by omega)]; exact hM.2.1
/-- the net has changed: what is measured goes -/
theorem X_new {A' : Net} {q : VT → Prop} {v' : VT} (hX : IX v A T F V S c P R H) (hf : ∀ a, ¬ ((10 ≤ a ∧ a ≤ 14) ∨ a = 15 ∨ (138 ≤ a ∧ a ≤ 204)) → v' a = v a) (hn : xNet v' 10 A') (hq : ∀ v2, IX v2 A' T F V S c P R H → (∀ a, a ≠ 138 → a ≠ 191 → a ≠ 197 → v2 a = v' a) → q v2) : P_X10_changed v' q := by
  refine S_changed (fun v2 f2 z1 z2 z3 => hq v2 ?_ f2)
  have f : ∀ a, ¬ ((10 ≤ a ∧ a ≤ 15) ∨ (138 ≤ a ∧ a ≤ 204)) → v2 a = v a := fun a ha => by rw [f2 a (by omega) (by omega) (by omega), hf a (by omega)]
  exact IX_net hX (fun a ha => f a (by omega)) (xNet_fr hn (fun a ha => f2 a (by omega) (by omega) (by omega))) z1 z2 z3 (xH_fr hX.2.2.2.2.2.2.2 (f 16 (by omega)) (fun a ha => f a (by omega)))
theorem M_new {A' : Net} {v' : VT} (hM : IM v A T F V S c P R H) (hf : ∀ a, a = 219 ∨ a = 220 ∨ a = 236 ∨ a = 238 ∨ a = 239 ∨ a = 243 → v' a = v a) (hj : ∀ j, j = 1 ∨ j = 7 ∨ j = 8 ∨ j = 30 ∨ j = 33 ∨ j = 36 ∨ j = 37 ∨ j = 41 ∨ j = 43 → v' 218 j = v 218 j) (hm : mRow (v' 222) A') (h15 : v' 218 15 = 0) : IM v' A' T F V S c P R H :=
  IM_net hM (fun a ha => hf a (by omega)) (fun j hj' => hj j (by omega)) hm h15 (mH_fr hM.2.2.2.2.2.2.2 (hj 36 (by omega)) (hj 37 (by omega)) (hf 239 (by omega)))
/-- a line put behind, both sides -/
def netJ (A : Net) (a b : Int) : Net := (A.1, addL A.2.1 a b 1, A.2.2)
theorem okNet_J {a b : Int} (hA : okNet A) (h : cj A.1 A.2.1 a b) : okNet (netJ A a b) := ⟨hA.1, wfL_add hA.2.1 h.2.2.2.1 h.1 h.2.1 h.2.2.1 (by omega) h.2.2.2.2, hA.2.2⟩
theorem X_addLine {a b : Int} {q : VT → Prop} (hX : IX v A T F V S c P R H) (h60 : A.2.1.length < 60) (hq : ∀ v2, IX v2 (netJ A a b) T F V S c P R H → q v2) : P_X0_addLine 10 a b 1 v (fun v1 => P_X10_changed v1 q) := by
  refine S_addLine hX.1.1 h60 (fun v' f' j' g' _ => X_new (A' := netJ A a b) hX (fun c hc => f' c (by omega) (by omega) (by omega) (by omega)) ⟨g', ?_⟩ (fun v2 x2 _ => hq v2 x2))
  unfold nmX; rw [f' 11 (by omega) (by omega) (by omega) (by omega)]; exact hX.2.1
theorem M_joins {a b : Int} {q : VT → Prop} (hA : okNet A) (hM : IM v A T F V S c P R H) (h60 : A.2.1.length < 60) (hq : ∀ v2, IM v2 (netJ A a b) T F V S c P R H → q v2) : P_X11_joins a b v q := by
  unfold P_X11_joins
  refine S_adds hM.1.1 h60 (fun v' f' j' g' v12 e12 => hq v12 ?_)
  have f12 : ∀ c, c ≠ 218 → v12 c = v' c := fun c hc => by rw [e12]; exact upd2_off _ _ _ hc
  refine M_new (A' := netJ A a b) hM (fun c hc => by rw [f12 c (by omega), f' c (by omega)]) (fun j hj => by rw [e12, upd2_j, if_neg (by omega), f' 218 (by omega)]) ⟨by rw [f12 222 (by omega)]; exact g', fun i i0 i1 => ?_⟩ (by rw [e12, upd2_same])
  have i1' : i < A.1 := i1
  have hn := hA.1
  rw [f12 222 (by omega), j' _ (by omega) (by omega)]
  exact hM.2.1 i i0 i1
theorem inv_mk {v1 v2 : VT} (hA : okNet A) (hT : okT (t + 1) V S c P R H) (x1 : IX v1 A T F V S c P R H) (f2 : ∀ a, a < 218 → v2 a = v1 a) (m2 : IM v2 A T F V S c P R H) : Inv (t + 1) v2 :=
  ⟨A, T, F, V, S, c, P, R, H, hA, hT, IX_low hA x1 f2, m2⟩
theorem XS_join {a b : Int} (hc : cj A.1 A.2.1 a b) (hA : okNet A) (hT : okT t V S c P R H) (hX : IX v A T F V S c P R H) : P_X10_join a b v (fun r v1 => r = (A.2.1.length : Int) ∧ IX v1 (netJ A a b) T F V S c P R (push H A)) := by
  unfold P_X10_join
  refine S_canJoin hA.2.1 hX.1.1 (fun g => absurd hc g) (fun _ => ⟨fun _ => ?_, fun g => absurd g (by decide)⟩)
  refine X_keep hA hT hX (fun v1 x1 _ => X_addLine x1 hc.2.2.2.1 (fun v2 x2 => ?_))
  have e1 : v2 10 1 = ((addL A.2.1 a b 1).length : Int) := x2.1.1.2.1
  have h60 := hc.2.2.2.1
  rw [addL_len] at e1
  rw [e1]
  exact ⟨by omega, by omega, x2⟩
theorem MS_join {a b : Int} (hc : cj A.1 A.2.1 a b) (hA : okNet A) (hT : okT t V S c P R H) (hM : IM v A T F V S c P R H) : P_X11_join a b v (fun r v1 => r = (A.2.1.length : Int) ∧ IM v1 (netJ A a b) T F V S c P R (push H A)) := by
  unfold P_X11_join
  refine S_canJoinM hA.1 hA.2.1 hM.1.1 (fun g => absurd hc g) (fun _ => ⟨fun _ => ?_, fun g => absurd g (by decide)⟩)
  refine M_keep hA hT hM (fun v1 m1 _ _ => M_joins hA m1 hc.2.2.2.1 (fun v2 m2 => ?_))
  have e1 : v2 222 1 = ((addL A.2.1 a b 1).length : Int) := m2.1.1.2.1
  have h60 := hc.2.2.2.1
  rw [addL_len] at e1
  rw [e1]
  exact ⟨by omega, by omega, m2⟩
theorem Q_join {a b : Int} (ht : t < 1000000) (h : Inv t v) : P_X10_join a b v (fun r v1 => P_X11_join a b v1 (fun r' v2 => r = r' ∧ Inv (t + 1) v2)) := by
  obtain ⟨A, T, F, V, S, c, P, R, H, hA, hT, hX, hM⟩ := h
  by_cases hc : cj A.1 A.2.1 a b
  · exact N_X10_join (F_X10_join (XS_join hc hA hT hX)) (fun r1 v1 h1 => N_X11_join (F_X11_join (MS_join hc hA hT (IM_high hM (fun a ha => h1.2 a (by omega))))) (fun r2 v2 h2 => ⟨by rw [h1.1.1, h2.1.1], inv_mk (okNet_J hA hc) (okT_push hA hT) h1.1.2 (fun a ha => h2.2 a (by omega)) h2.1.2⟩))
  · unfold P_X10_join
    refine S_canJoin hA.2.1 hX.1.1 (fun _ => ⟨fun g => absurd rfl g, fun _ => ?_⟩) (fun g => absurd g hc)
    refine ref_two (k := 2) (fM := fun v q => P_X11_join a b v q) hA hT ht hX hM (by omega) (fun v1 q m1 hr => ?_)
    unfold P_X11_join
    exact S_canJoinM hA.1 hA.2.1 m1.1.1 (fun _ => ⟨fun g => absurd rfl g, fun _ => hr⟩) (fun g => absurd g hc)
/-! ===== grow ===== -/
def cg (A : Net) (a : Int) : Prop := (0 ≤ a ∧ a < A.1) ∧ A.1 < 24 ∧ A.2.1.length < 60
def netG (A : Net) (a : Int) : Net := (A.1 + 1, addL A.2.1 a A.1 1, fun i => if i = A.1 then [] else A.2.2 i)
theorem okN_nil : okN [] := ⟨by decide, fun x hx => by cases hx⟩
theorem okNet_G {a : Int} (hA : okNet A) (h : cg A a) : okNet (netG A a) := by
  have h1 := hA.1
  refine ⟨by show 0 ≤ A.1 + 1 ∧ A.1 + 1 ≤ 24; have := h.2.1; omega, wfL_add (n := A.1 + 1) (wfL_up hA.2.1 (by omega)) h.2.2 (by have := h.1; omega) (by omega) (by have := h.1; omega) (by omega) (fun g => ?_), fun i i0 i1 => ?_⟩
  · have := adj_in hA.2.1 g; omega
  · show okN (if i = A.1 then [] else A.2.2 i)
    split
    · exact okN_nil
    · exact hA.2.2 i i0 (by have i2 : i < A.1 + 1 := i1; omega)
theorem S_canGrow {a : Int} {q : Int → Prop} (hX : IX v A T F V S c P R H) (h0 : ¬ cg A a → q 0) (h1 : cg A a → q 1) : P_X0_canGrow 10 a v q := by
  unfold P_X0_canGrow
  have e0 : v 10 0 = A.1 := hX.1.1.1
  have e1 : v 10 1 = (A.2.1.length : Int) := hX.1.1.2.1
  rw [e0, e1]
  refine S_isNode hX.1.1 (fun h => ⟨fun _ => h0 (fun g => h g.1), fun g => absurd rfl g⟩) (fun h => ⟨fun g => absurd g (by decide), fun _ => ⟨fun h2 => h0 (fun g => by have := g.2.1; omega), fun h2 => ⟨fun h3 => h0 (fun g => by have := g.2.2; omega), fun h3 => h1 ⟨h, h2, by omega⟩⟩⟩⟩)
theorem S_canGrowM {a : Int} {q : Int → Prop} (hA : okNet A) (hM : IM v A T F V S c P R H) (h0 : ¬ cg A a → q 0) (h1 : cg A a → q 1) : P_X11_canGrow a v q := by
  unfold P_X11_canGrow
  have e0 : v 222 0 = A.1 := hM.1.1.1
  have e1 : v 222 1 = (A.2.1.length : Int) := hM.1.1.2.1
  rw [e0, e1]
  refine S_isNodeM hA.1 hM.1.1 (fun h => ⟨fun _ => h0 (fun g => h g.1), fun g => absurd rfl g⟩) (fun h => ⟨fun g => absurd g (by decide), fun _ => ⟨fun h2 => h0 (fun g => by have := g.2.1; omega), fun h2 => ⟨fun h3 => h0 (fun g => by have := g.2.2; omega), fun h3 => h1 ⟨h, h2, by omega⟩⟩⟩⟩)
theorem X_addLeaf {a : Int} {q : VT → Prop} (hA : okNet A) (hc : cg A a) (hX : IX v A T F V S c P R H) (hq : ∀ v2, IX v2 (netG A a) T F V S c P R H → q v2) : P_X0_addLeaf 10 a v (fun v1 => P_X10_changed v1 q) := by
  have hn := hA.1
  have h24 := hc.2.1
  have e0 : v 10 0 = A.1 := hX.1.1.1
  unfold P_X0_addLeaf P_X0_addNode
  rw [e0]
  refine ⟨fun g => by omega, fun _ => ⟨by omega, fun v18 e18 => ?_⟩⟩
  have n18 : v18 10 0 = A.1 := by rw [e18, upd2_off _ _ _ (by omega)]; exact e0
  rw [n18]
  refine ⟨by omega, fun v26 e26 => ?_⟩
  have n26 : v26 10 0 = A.1 + 1 := by rw [e26, upd2_same]
  have f26 : ∀ d, d ≠ 10 → d ≠ 11 → v26 d = v d := fun d d0 d1 => by rw [e26, upd2_off _ _ _ d0, e18, upd2_off _ _ _ d1]
  have g26 : xG v26 10 (A.1 + 1) A.2.1 := ⟨n26, by rw [e26, upd2_j, if_neg (by decide), e18, upd2_off _ _ _ (by omega)]; exact hX.1.1.2.1, fun k k0 k1 => by rw [f26 12 (by omega) (by omega), f26 13 (by omega) (by omega), f26 14 (by omega) (by omega)]; exact hX.1.1.2.2 k k0 k1⟩
  show (-2147483648 ≤ v26 10 0 - 1 ∧ v26 10 0 - 1 ≤ 2147483647) ∧ P_X0_addLine 10 a (v26 10 0 - 1) 1 v26 (fun v14 => P_X10_changed v14 q)
  rw [n26]
  refine ⟨by omega, ?_⟩
  rw [show A.1 + 1 - 1 = A.1 by omega]
  refine S_addLine g26 hc.2.2 (fun v' f' j' g' _ => X_new (A' := netG A a) hX (fun d hd => by rw [f' d (by omega) (by omega) (by omega) (by omega)]; exact f26 d (by omega) (by omega)) ⟨g', fun i i0 i1 => ?_⟩ (fun v2 x2 _ => hq v2 x2))
  have i2 : i < A.1 + 1 := i1
  show v' 11 i.toNat = cx (if i = A.1 then [] else A.2.2 i)
  rw [f' 11 (by omega) (by omega) (by omega) (by omega), e26, upd2_off _ _ _ (by omega), e18, upd2_at _ _ _ hn.1 i0]
  by_cases e : i = A.1
  · rw [if_pos e, if_pos e]; rfl
  · rw [if_neg e, if_neg e]; exact hX.2.1 i i0 (by omega)
theorem M_grows {a : Int} {q : VT → Prop} (hA : okNet A) (hc : cg A a) (hM : IM v A T F V S c P R H) (hq : ∀ v2, IM v2 (netG A a) T F V S c P R H → q v2) : P_X11_grows a v q := by
  have hn := hA.1
  have h24 := hc.2.1
  have hlen := hA.2.1.2.2
  have e0 : v 222 0 = A.1 := hM.1.1.1
  unfold P_X11_grows
  rw [e0]
  refine ⟨by omega, by omega, fun v13 e13 => ?_⟩
  have n13 : v13 222 0 = A.1 := by rw [e13, upd2_j, if_neg (by omega)]; exact e0
  rw [n13]
  refine ⟨by omega, fun v23 e23 => ?_⟩
  have n23 : v23 222 0 = A.1 + 1 := by rw [e23, upd2_same]
  have f23 : ∀ d, d ≠ 222 → v23 d = v d := fun d hd => by rw [e23, upd2_off _ _ _ hd, e13, upd2_off _ _ _ hd]
  have j23 : ∀ j, j ≠ 0 → j ≠ (2 + A.1).toNat → v23 222 j = v 222 j := fun j j0 j1 => by rw [e23, upd2_j, if_neg j0, e13, upd2_j, if_neg j1]
  have g23 : mG v23 222 (A.1 + 1) A.2.1 := ⟨n23, by rw [j23 1 (by decide) (by omega)]; exact hM.1.1.2.1, fun k k0 k1 => by rw [j23 _ (by omega) (by omega), j23 _ (by omega) (by omega), j23 _ (by omega) (by omega)]; exact hM.1.1.2.2 k k0 k1⟩
  rw [n23]
  refine ⟨by omega, ?_⟩
  rw [show A.1 + 1 - 1 = A.1 by omega]
  unfold P_X11_joins
  refine S_adds g23 hc.2.2 (fun v' f' j' g' v12 e12 => hq v12 ?_)
  have f12 : ∀ d, d ≠ 218 → v12 d = v' d := fun d hd => by rw [e12]; exact upd2_off _ _ _ hd
  refine M_new (A' := netG A a) hM (fun d hd => by rw [f12 d (by omega), f' d (by omega), f23 d (by omega)]) (fun j hj => by rw [e12, upd2_j, if_neg (by omega), f' 218 (by omega), f23 218 (by omega)]) ⟨by rw [f12 222 (by omega)]; exact g', fun i i0 i1 => ?_⟩ (by rw [e12, upd2_same])
  have i2 : i < A.1 + 1 := i1
  show v12 222 (2 + i).toNat = cm (if i = A.1 then [] else A.2.2 i)
  rw [f12 222 (by omega), j' _ (by omega) (by omega)]
  by_cases e : i = A.1
  · rw [if_pos e, e23, upd2_j, if_neg (by omega), e13, upd2_j, if_pos (by rw [e])]; rfl
  · rw [if_neg e, j23 _ (by omega) (by omega)]; exact hM.2.1 i i0 (by omega)
theorem XS_grow {a : Int} (hc : cg A a) (hA : okNet A) (hT : okT t V S c P R H) (hX : IX v A T F V S c P R H) : P_X10_grow a v (fun r v1 => r = A.1 ∧ IX v1 (netG A a) T F V S c P R (push H A)) := by
  have hn := hA.1
  unfold P_X10_grow
  refine S_canGrow hX (fun g => absurd hc g) (fun _ => ⟨fun _ => ?_, fun g => absurd g (by decide)⟩)
  refine X_keep hA hT hX (fun v1 x1 _ => X_addLeaf hA hc x1 (fun v2 x2 => ?_))
  have e1 : v2 10 0 = A.1 + 1 := x2.1.1.1
  rw [e1]
  exact ⟨by omega, by omega, x2⟩
theorem MS_grow {a : Int} (hc : cg A a) (hA : okNet A) (hT : okT t V S c P R H) (hM : IM v A T F V S c P R H) : P_X11_grow a v (fun r v1 => r = A.1 ∧ IM v1 (netG A a) T F V S c P R (push H A)) := by
  have hn := hA.1
  unfold P_X11_grow
  refine S_canGrowM hA hM (fun g => absurd hc g) (fun _ => ⟨fun _ => ?_, fun g => absurd g (by decide)⟩)
  refine M_keep hA hT hM (fun v1 m1 _ _ => M_grows hA hc m1 (fun v2 m2 => ?_))
  have e1 : v2 222 0 = A.1 + 1 := m2.1.1.1
  rw [e1]
  exact ⟨by omega, by omega, m2⟩
theorem Q_grow {a : Int} (ht : t < 1000000) (h : Inv t v) : P_X10_grow a v (fun r v1 => P_X11_grow a v1 (fun r' v2 => r = r' ∧ Inv (t + 1) v2)) := by
  obtain ⟨A, T, F, V, S, c, P, R, H, hA, hT, hX, hM⟩ := h
  by_cases hc : cg A a
  · exact N_X10_grow (F_X10_grow (XS_grow hc hA hT hX)) (fun r1 v1 h1 => N_X11_grow (F_X11_grow (MS_grow hc hA hT (IM_high hM (fun a ha => h1.2 a (by omega))))) (fun r2 v2 h2 => ⟨by rw [h1.1.1, h2.1.1], inv_mk (okNet_G hA hc) (okT_push hA hT) h1.1.2 (fun a ha => h2.2 a (by omega)) h2.1.2⟩))
  · unfold P_X10_grow
    refine S_canGrow hX (fun _ => ⟨fun g => absurd rfl g, fun _ => ?_⟩) (fun g => absurd g hc)
    refine ref_two (k := 2) (fM := fun v q => P_X11_grow a v q) hA hT ht hX hM (by omega) (fun v1 q m1 hr => ?_)
    unfold P_X11_grow
    exact S_canGrowM hA m1 (fun _ => ⟨fun g => absurd rfl g, fun _ => hr⟩) (fun g => absurd g hc)
end Acts

/-! ===== calls that leave the net: the tape, votes, what is seen, the seed ===== -/
def rUp (R : Nat → Int) (k : Nat) : Nat → Int := fun j => if j = k then R k + 1 else R j
section Gen
variable {v v' : VT} {A : Net} {T T' : Vt} {F F' : Int × Int} {V V' : Vt} {S S' : Se} {c c' : Int} {P P' : Vt} {R R' : Nat → Int} {H : Hs} {t : Int}
theorem IX_gen (hA : okNet A) (h : IX v A T F V S c P R H) (hf : ∀ a, 10 ≤ a ∧ a ≤ 204 → v' a = v a) (h1 : isTp v' T'.1 T'.2) (h2 : xF v' F') (h3 : xD v' V' S' c') (h4 : xP v' P') (h5 : xR v' R') : IX v' A T' F' V' S' c' P' R' H := by
  refine ⟨XC_frame hA.1.2 h.1 (fun a ha => hf a (by omega)), ?_, h1, h2, h3, h4, h5, xH_fr h.2.2.2.2.2.2.2 (hf 16 (by omega)) (fun a ha => hf a (by omega))⟩
  unfold nmX; rw [hf 11 (by omega)]; exact h.2.1
theorem IM_gen (h : IM v A T F V S c P R H) (hf : ∀ a, a = 222 ∨ (224 ≤ a ∧ a ≤ 228) ∨ a = 239 → v' a = v a) (hj : ∀ j, j = 15 ∨ j = 18 ∨ j = 19 ∨ j = 36 ∨ j = 37 → v' 218 j = v 218 j) (h1 : mT v' T') (h2 : mFt v' F') (h3 : mD v' V' S' c') (h4 : mP v' P') (h5 : mR v' R') : IM v' A T' F' V' S' c' P' R' H := by
  refine ⟨MC_frame h.1 (hf 222 (by omega)) (fun a ha => hf a (by omega)) (fun j hj' => hj j (by omega)), ?_, h1, h2, h3, h4, h5, mH_fr h.2.2.2.2.2.2.2 (hj 36 (by omega)) (hj 37 (by omega)) (hf 239 (by omega))⟩
  rw [hf 222 (by omega)]; exact h.2.1
theorem xR_up {k : Nat} (h : xR v R) (hk6 : k < 6) (hj : ∀ j, j ≠ k → v' 217 j = v 217 j) (hk : v' 217 k = v 217 k + 1) : xR v' (rUp R k) := by
  intro j hj6
  unfold rUp
  by_cases e : j = k
  · rw [if_pos e, e, hk, h k hk6]
  · rw [if_neg e, hj j e, h j hj6]
theorem mR_up {k : Nat} (h : mR v R) (hk6 : k < 6) (hj : ∀ j, j ≠ k → v' 220 j = v 220 j) (hk : v' 220 k = v 220 k + 1) : mR v' (rUp R k) := by
  intro j hj6
  unfold rUp
  by_cases e : j = k
  · rw [if_pos e, e, hk, h k hk6]
  · rw [if_neg e, hj j e, h j hj6]
theorem okT_ref {k : Nat} (h : okT t V S c P R H) (hk : k < 6) : okT (t + 1) V S c P (rUp R k) H :=
  ⟨h.1, h.2.1, h.2.2.1, h.2.2.2.1, h.2.2.2.2.1, fun j hj => by
    have h1 := h.2.2.2.2.2.1 j hj
    have h2 := h.2.2.2.2.2.1 k hk
    unfold rUp
    split <;> omega, h.2.2.2.2.2.2⟩
/-- a refused call that changes nothing else -/
theorem IX_ref {k : Nat} (hA : okNet A) (h : IX v A T F V S c P R H) (hk6 : k < 6) : IX (upd2 v 217 k (v 217 k + 1)) A T F V S c P (rUp R k) H := by
  have hf : ∀ a, a ≠ 217 → upd2 v 217 k (v 217 k + 1) a = v a := fun a ha => upd2_off _ _ _ ha
  obtain ⟨o1, o2, o3, o4, o5, o6⟩ := h.2.2
  exact IX_gen hA h (fun a ha => hf a (by omega)) (isTp_frame o1 (hf 1 (by omega)) (hf 2 (by omega))) (xF_fr o2 (by rw [hf 3 (by omega)]) (by rw [hf 3 (by omega)])) (xD_fr o3 (hf 0 (by omega)) (hf 213 (by omega)) (hf 214 (by omega)) (hf 215 (by omega))) (xP_fr o4 (hf 205 (by omega)) (hf 206 (by omega))) (xR_up o5 hk6 (fun j hj => by rw [upd2_j, if_neg hj]) (upd2_same _ _ _ _))
theorem IM_ref {k : Nat} (h : IM v A T F V S c P R H) (hk6 : k < 6) : IM (upd2 v 220 k (v 220 k + 1)) A T F V S c P (rUp R k) H := by
  have hf : ∀ a, a ≠ 220 → upd2 v 220 k (v 220 k + 1) a = v a := fun a ha => upd2_off _ _ _ ha
  have h8 := hf 218 (by omega)
  obtain ⟨o1, o2, o3, o4, o5, o6⟩ := h.2.2
  exact IM_gen h (fun a ha => hf a (by omega)) (fun j _ => by rw [h8]) (mT_fr o1 (by rw [h8]) (hf 219 (by omega))) (mFt_fr o2 (by rw [h8]) (by rw [h8])) (mD_fr o3 (by rw [h8]) (by rw [h8]) (by rw [h8]) (hf 236 (by omega)) (hf 238 (by omega))) (mP_fr o4 (by rw [h8]) (hf 243 (by omega))) (mR_up o5 hk6 (fun j hj => by rw [upd2_j, if_neg hj]) (upd2_same _ _ _ _))
theorem S_refuse {k : Nat} {q : Int → VT → Prop} (hT : okT t V S c P R H) (ht : t < 1000000) (h : IX v A T F V S c P R H) (hk : k < 6) (hq : q (-1) (upd2 v 217 k (v 217 k + 1))) : P_X10_refuse (k : Int) v q := by
  have h1 := h.2.2.2.2.2.2.1 k hk
  have h2 := hT.2.2.2.2.2.1 k hk
  unfold P_X10_refuse
  rw [Int.toNat_natCast]
  exact ⟨by omega, by omega, by omega, fun v9 e9 => by rw [e9]; exact hq⟩
theorem S_deny {k : Nat} {q : Int → VT → Prop} (hT : okT t V S c P R H) (ht : t < 1000000) (h : IX v A T F V S c P R H) (hk : k < 6) (hq : q 0 (upd2 v 217 k (v 217 k + 1))) : P_X10_deny (k : Int) v (fun r w => (r = 0 ∨ r = 1) ∧ q r w) := by
  have h1 := h.2.2.2.2.2.2.1 k hk
  have h2 := hT.2.2.2.2.2.1 k hk
  unfold P_X10_deny
  rw [Int.toNat_natCast]
  exact ⟨by omega, by omega, by omega, fun v9 e9 => by rw [e9]; exact ⟨Or.inl rfl, hq⟩⟩
theorem S_refuses {k : Nat} {q : Int → VT → Prop} (hT : okT t V S c P R H) (ht : t < 1000000) (h : IM v A T F V S c P R H) (hk : k < 6) (hq : q (-1) (upd2 v 220 k (v 220 k + 1))) : P_X11_refuses (k : Int) v q := by
  have h1 := h.2.2.2.2.2.2.1 k hk
  have h2 := hT.2.2.2.2.2.1 k hk
  unfold P_X11_refuses
  rw [Int.toNat_natCast]
  exact ⟨by omega, by omega, by omega, fun v9 e9 => by rw [e9]; exact hq⟩
theorem S_isRefused {k : Nat} {q : Int → VT → Prop} (hT : okT t V S c P R H) (ht : t < 1000000) (h : IM v A T F V S c P R H) (hk : k < 6) (hq : q 0 (upd2 v 220 k (v 220 k + 1))) : P_X11_isRefused (k : Int) v (fun r w => (r = 0 ∨ r = 1) ∧ q r w) := by
  have h1 := h.2.2.2.2.2.2.1 k hk
  have h2 := hT.2.2.2.2.2.1 k hk
  unfold P_X11_isRefused
  rw [Int.toNat_natCast]
  exact ⟨by omega, by omega, by omega, fun v9 e9 => by rw [e9]; exact ⟨Or.inl rfl, hq⟩⟩
/-- a change of the tape alone -/
theorem IX_tp (hA : okNet A) (h : IX v A T F V S c P R H) (hf : ∀ a, a ≠ 1 → a ≠ 2 → v' a = v a) (h1 : isTp v' T'.1 T'.2) : IX v' A T' F V S c P R H := by
  obtain ⟨o1, o2, o3, o4, o5, o6⟩ := h.2.2
  exact IX_gen hA h (fun a ha => hf a (by omega) (by omega)) h1 (xF_fr o2 (by rw [hf 3 (by omega) (by omega)]) (by rw [hf 3 (by omega) (by omega)])) (xD_fr o3 (hf 0 (by omega) (by omega)) (hf 213 (by omega) (by omega)) (hf 214 (by omega) (by omega)) (hf 215 (by omega) (by omega))) (xP_fr o4 (hf 205 (by omega) (by omega)) (hf 206 (by omega) (by omega))) (xR_fr o5 (hf 217 (by omega) (by omega)))
theorem IM_tp (h : IM v A T F V S c P R H) (hf : ∀ a, a ≠ 218 → a ≠ 219 → v' a = v a) (hj : ∀ j, j ≠ 1 → v' 218 j = v 218 j) (h1 : mT v' T') : IM v' A T' F V S c P R H := by
  obtain ⟨o1, o2, o3, o4, o5, o6⟩ := h.2.2
  exact IM_gen h (fun a ha => hf a (by omega) (by omega)) (fun j hj' => hj j (by omega)) h1 (mFt_fr o2 (hj 7 (by omega)) (hj 8 (by omega))) (mD_fr o3 (hj 30 (by omega)) (hj 33 (by omega)) (hj 41 (by omega)) (hf 236 (by omega) (by omega)) (hf 238 (by omega) (by omega))) (mP_fr o4 (hj 43 (by omega)) (hf 243 (by omega) (by omega))) (mR_fr o5 (hf 220 (by omega) (by omega)))
theorem isTp_0 {b : Int → Int} (h1 : v' 1 1 = 0) : isTp v' (0 : Int) b := ⟨h1, by omega, fun i i0 i1 => by omega⟩
theorem mT_0 (h1 : v' 218 1 = 0) : mT v' ((0 : Int), T.2) := ⟨h1, by show (0 : Int) ≤ 0 ∧ (0 : Int) ≤ 800; omega, fun i i0 (i1 : i < 0) => by omega⟩
end Gen
/-! ===== end, seed ===== -/
section Calls1
variable {v : VT} {t : Int}
theorem Q_end {x : Int} (ht : t < 1000000) (h : Inv t v) : P_X10_end x v (fun r v1 => P_X11_end x v1 (fun r' v2 => r = r' ∧ Inv (t + 1) v2)) := by
  obtain ⟨A, T, F, V, S, c, P, R, H, hA, hT, hX, hM⟩ := h
  have eX := hX.2.2.1
  have eM := hM.2.2.1
  have no : ¬ (0 ≤ x ∧ x ≤ T.1) → P_X10_deny 0 v (fun r v1 => (r = 0 ∨ r = 1) ∧ P_X11_end x v1 (fun r' v2 => r = r' ∧ Inv (t + 1) v2)) := by
    intro hc
    refine S_deny (k := 0) hT ht hX (by omega) ?_
    have x1 := IX_ref (k := 0) hA hX (by omega)
    have m1 : IM (upd2 v 217 0 (v 217 0 + 1)) A T F V S c P R H := IM_high hM (fun a ha => upd2_off _ _ _ (by omega))
    have fin : P_X11_isRefused 0 (upd2 v 217 0 (v 217 0 + 1)) (fun r w => (r = 0 ∨ r = 1) ∧ (0 : Int) = r ∧ Inv (t + 1) w) :=
      S_isRefused (k := 0) hT ht m1 (by omega) ⟨rfl, A, T, F, V, S, c, P, rUp R 0, H, hA, okT_ref hT (by omega), IX_low hA x1 (fun a ha => upd2_off _ _ _ (by omega)), IM_ref m1 (by omega)⟩
    unfold P_X11_end
    rw [m1.2.2.1.1]
    exact ⟨fun _ => fin, fun _ => ⟨fun _ => by omega, fun _ => fin⟩⟩
  unfold P_X10_end
  rw [eX.1]
  refine ⟨fun h1 => no (by omega), fun h1 => ⟨fun h2 v26 e26 => ?_, fun h2 => no (by omega)⟩⟩
  have m1 : IM v26 A T F V S c P R H := IM_high hM (fun a ha => by rw [e26]; exact upd2_off _ _ _ (by omega))
  have x1 : IX v26 A (x, T.2) F V S c P R H := IX_tp hA hX (fun a a1 a2 => by rw [e26]; exact upd2_off _ _ _ a1) ⟨by rw [e26, upd2_same], ⟨h1, by have := eX.2.1; show x ≤ 800; omega⟩, fun i i0 i1 => by
    rw [e26, upd2_off _ _ _ (by omega)]
    exact eX.2.2 i i0 (Int.lt_of_lt_of_le i1 h2)⟩
  show P_X11_end x v26 (fun r' v2 => (1 : Int) = r' ∧ Inv (t + 1) v2)
  unfold P_X11_end
  rw [m1.2.2.1.1]
  refine ⟨fun g => by omega, fun _ => ⟨fun _ v20 e20 => ⟨rfl, A, (x, T.2), F, V, S, c, P, R, H, hA, okT_up hT (by omega), IX_low hA x1 (fun a ha => by rw [e20]; exact upd2_off _ _ _ (by omega)), IM_tp m1 (fun a a1 a2 => by rw [e20]; exact upd2_off _ _ _ a1) (fun j hj => by rw [e20, upd2_j, if_neg hj]) ⟨by rw [e20, upd2_same], ⟨h1, by have := eX.2.1; show x ≤ 800; omega⟩, fun i i0 i1 => by
    rw [e20, upd2_off _ _ _ (by omega)]
    exact m1.2.2.1.2.2 i i0 (Int.lt_of_lt_of_le i1 h2)⟩⟩, fun g => by omega⟩⟩
theorem Q_seed {x : Int} (hx : r32 x) (ht : t < 1000000) (h : Inv t v) : P_X10_seed x v (fun r v1 => P_X11_seed x v1 (fun r' v2 => r = r' ∧ Inv (t + 1) v2)) := by
  obtain ⟨A, T, F, V, S, c, P, R, H, hA, hT, hX, hM⟩ := h
  unfold r32 at hx
  unfold P_X10_seed
  refine ⟨fun h1 v12 e12 => ?_, fun h1 => ?_⟩
  · have f12 : ∀ a, a ≠ 0 → v12 a = v a := fun a ha => by rw [e12]; exact upd2_off _ _ _ ha
    have m1 : IM v12 A T F V S c P R H := IM_high hM (fun a ha => f12 a (by omega))
    obtain ⟨o1, o2, o3, o4, o5, o6⟩ := hX.2.2
    have x1 : IX v12 A T F V S x P R H := IX_gen hA hX (fun a ha => f12 a (by omega)) (isTp_frame o1 (f12 1 (by omega)) (f12 2 (by omega))) (xF_fr o2 (by rw [f12 3 (by omega)]) (by rw [f12 3 (by omega)])) (by
      unfold xD
      rw [f12 213 (by omega), f12 214 (by omega), f12 215 (by omega), e12, upd2_j, upd2_j, upd2_j, if_neg (by decide), if_neg (by decide), if_pos rfl]
      exact ⟨o3.1, o3.2.1, rfl, o3.2.2.2⟩) (xP_fr o4 (f12 205 (by omega)) (f12 206 (by omega))) (xR_fr o5 (f12 217 (by omega)))
    unfold P_X11_seed
    refine ⟨fun _ v13 e13 => ⟨rfl, A, T, F, V, S, x, P, R, H, hA, ?_, IX_low hA x1 (fun a ha => by rw [e13]; exact upd2_off _ _ _ (by omega)), ?_⟩, fun g => by omega⟩
    · have := okT_up hT (t' := t + 1) (by omega)
      exact ⟨this.1, this.2.1, this.2.2.1, ⟨h1, hx.2⟩, this.2.2.2.2⟩
    · have f13 : ∀ a, a ≠ 218 → v13 a = v12 a := fun a ha => by rw [e13]; exact upd2_off _ _ _ ha
      have j13 : ∀ j, j ≠ 41 → v13 218 j = v12 218 j := fun j hj => by rw [e13, upd2_j, if_neg hj]
      obtain ⟨p1, p2, p3, p4, p5, p6⟩ := m1.2.2
      exact IM_gen m1 (fun a ha => f13 a (by omega)) (fun j hj => j13 j (by omega)) (mT_fr p1 (j13 1 (by omega)) (f13 219 (by omega))) (mFt_fr p2 (j13 7 (by omega)) (j13 8 (by omega))) (by
        unfold mD
        rw [f13 236 (by omega), f13 238 (by omega), j13 30 (by omega), j13 33 (by omega), e13, upd2_same]
        exact ⟨p3.1, p3.2.1, rfl, p3.2.2.2⟩) (mP_fr p4 (j13 43 (by omega)) (f13 243 (by omega))) (mR_fr p5 (f13 220 (by omega)))
  · refine S_deny (k := 5) hT ht hX (by omega) ?_
    have x1 := IX_ref (k := 5) hA hX (by omega)
    have m1 : IM (upd2 v 217 5 (v 217 5 + 1)) A T F V S c P R H := IM_high hM (fun a ha => upd2_off _ _ _ (by omega))
    unfold P_X11_seed
    refine ⟨fun g => by omega, fun _ => S_isRefused (k := 5) hT ht m1 (by omega) ⟨rfl, A, T, F, V, S, c, P, rUp R 5, H, hA, okT_ref hT (by omega), IX_low hA x1 (fun a ha => upd2_off _ _ _ (by omega)), IM_ref m1 (by omega)⟩⟩
/-! ===== vote, see ===== -/
theorem Q_vote (ht : t < 1000000) (h : Inv t v) : P_X10_vote v (fun r v1 => P_X11_vote v1 (fun r' v2 => r = r' ∧ Inv (t + 1) v2)) := by
  obtain ⟨A, T, F, V, S, c, P, R, H, hA, hT, hX, hM⟩ := h
  obtain ⟨o1, o2, o3, o4, o5, o6⟩ := id hX.2.2
  have r1 := hT.2.2.2.2.2.1 1 (by omega)
  have hr := o5 1 (by omega)
  refine SX_vote hX.1.1.1 o1.1 o1.2.1 (fun i i0 i1 => (o1.2.2 i i0 i1).1) (by omega) (fun hok v1 f1 j0 e15 j1 e1 g1 => ?_) (fun hok v1 f1 j1 e1 j2 e2 => ?_)
  · have m1 : IM v1 A T F V S c P R H := IM_high hM (fun a ha => f1 a (by omega) (by omega) (by omega))
    have x1 : IX v1 A (0, T.2) F (T.1, T.2) S c P R H := IX_gen hA hX (fun a ha => f1 a (by omega) (by omega) (by omega)) (isTp_0 e1) (xF_fr o2 (by rw [f1 3 (by omega) (by omega) (by omega)]) (by rw [f1 3 (by omega) (by omega) (by omega)])) (by
      unfold xD
      rw [f1 214 (by omega) (by omega) (by omega), f1 215 (by omega) (by omega) (by omega), j0 16 (by omega), j0 17 (by omega)]
      exact ⟨e15, o3.2.1, o3.2.2.1, g1, o3.2.2.2.2⟩) (xP_fr o4 (f1 205 (by omega) (by omega) (by omega)) (f1 206 (by omega) (by omega) (by omega))) (xR_fr o5 (f1 217 (by omega) (by omega) (by omega)))
    obtain ⟨p1, p2, p3, p4, p5, p6⟩ := id m1.2.2
    have hr2 := p5 1 (by omega)
    refine SM_vote hA.1 m1.1.1.1 p1.1 p1.2.1 (fun i i0 i1 => (p1.2.2 i i0 i1).1) (by omega) (fun _ v2 f2 j3 e30 e3 g2 => ⟨rfl, A, (0, T.2), F, (T.1, T.2), S, c, P, R, H, hA, ?_, IX_low hA x1 (fun a ha => f2 a (by omega) (by omega)), ?_⟩) (fun g => absurd hok g)
    · have := okT_up hT (t' := t + 1) (by omega)
      exact ⟨by have := hok.1; show 0 ≤ T.1 ∧ T.1 ≤ 15; omega, this.2⟩
    · exact IM_gen m1 (fun a ha => f2 a (by omega) (by omega)) (fun j hj => j3 j (by omega) (by omega)) (mT_0 e3) (mFt_fr p2 (j3 7 (by omega) (by omega)) (j3 8 (by omega) (by omega))) (by
        unfold mD
        rw [f2 238 (by omega) (by omega), j3 33 (by omega) (by omega), j3 41 (by omega) (by omega)]
        exact ⟨e30, p3.2.1, p3.2.2.1, g2, p3.2.2.2.2⟩) (mP_fr p4 (j3 43 (by omega) (by omega)) (f2 243 (by omega) (by omega))) (mR_fr p5 (f2 220 (by omega) (by omega)))
  · have m1 : IM v1 A T F V S c P R H := IM_high hM (fun a ha => f1 a (by omega) (by omega))
    have x1 : IX v1 A (0, T.2) F V S c P (rUp R 1) H := IX_gen hA hX (fun a ha => f1 a (by omega) (by omega)) (isTp_0 e1) (xF_fr o2 (by rw [f1 3 (by omega) (by omega)]) (by rw [f1 3 (by omega) (by omega)])) (xD_fr o3 (f1 0 (by omega) (by omega)) (f1 213 (by omega) (by omega)) (f1 214 (by omega) (by omega)) (f1 215 (by omega) (by omega))) (xP_fr o4 (f1 205 (by omega) (by omega)) (f1 206 (by omega) (by omega))) (xR_up o5 (by omega) j2 e2)
    obtain ⟨p1, p2, p3, p4, p5, p6⟩ := id m1.2.2
    have hr2 := p5 1 (by omega)
    refine SM_vote hA.1 m1.1.1.1 p1.1 p1.2.1 (fun i i0 i1 => (p1.2.2 i i0 i1).1) (by omega) (fun g => absurd g hok) (fun _ v2 f2 j3 e3 j4 e4 => ⟨rfl, A, (0, T.2), F, V, S, c, P, rUp R 1, H, hA, okT_ref hT (by omega), IX_low hA x1 (fun a ha => f2 a (by omega) (by omega)), ?_⟩)
    exact IM_gen m1 (fun a ha => f2 a (by omega) (by omega)) (fun j hj => j3 j (by omega)) (mT_0 e3) (mFt_fr p2 (j3 7 (by omega)) (j3 8 (by omega))) (mD_fr p3 (j3 30 (by omega)) (j3 33 (by omega)) (j3 41 (by omega)) (f2 236 (by omega) (by omega)) (f2 238 (by omega) (by omega))) (mP_fr p4 (j3 43 (by omega)) (f2 243 (by omega) (by omega))) (mR_up p5 (by omega) j4 e4)
theorem Q_see (ht : t < 1000000) (h : Inv t v) : P_X10_see v (fun r v1 => P_X11_see v1 (fun r' v2 => r = r' ∧ Inv (t + 1) v2)) := by
  obtain ⟨A, T, F, V, S, c, P, R, H, hA, hT, hX, hM⟩ := h
  obtain ⟨o1, o2, o3, o4, o5, o6⟩ := id hX.2.2
  have r1 := hT.2.2.2.2.2.1 1 (by omega)
  have hr := o5 1 (by omega)
  refine SX_see hX.1.1.1 o1.1 o1.2.1 (fun i i0 i1 => (o1.2.2 i i0 i1).1) (by omega) (fun hok v1 f1 j0 e16 j1 e1 g1 => ?_) (fun hok v1 f1 j1 e1 j2 e2 => ?_)
  · have m1 : IM v1 A T F V S c P R H := IM_high hM (fun a ha => f1 a (by omega) (by omega) (by omega) (by omega))
    have x1 : IX v1 A (0, T.2) F V (T.1 / 2, fun i => T.2 (2 * i), fun i => T.2 (2 * i + 1)) c P R H := IX_gen hA hX (fun a ha => f1 a (by omega) (by omega) (by omega) (by omega)) (isTp_0 e1) (xF_fr o2 (by rw [f1 3 (by omega) (by omega) (by omega) (by omega)]) (by rw [f1 3 (by omega) (by omega) (by omega) (by omega)])) (by
      unfold xD
      rw [f1 213 (by omega) (by omega) (by omega) (by omega), j0 15 (by omega), j0 17 (by omega)]
      exact ⟨o3.1, e16, o3.2.2.1, o3.2.2.2.1, g1⟩) (xP_fr o4 (f1 205 (by omega) (by omega) (by omega) (by omega)) (f1 206 (by omega) (by omega) (by omega) (by omega))) (xR_fr o5 (f1 217 (by omega) (by omega) (by omega) (by omega)))
    obtain ⟨p1, p2, p3, p4, p5, p6⟩ := id m1.2.2
    have hr2 := p5 1 (by omega)
    refine SM_see hA.1 m1.1.1.1 p1.1 p1.2.1 (fun i i0 i1 => (p1.2.2 i i0 i1).1) (by omega) (fun _ v2 f2 j3 e33 e3 g2 => ⟨rfl, A, (0, T.2), F, V, (T.1 / 2, fun i => T.2 (2 * i), fun i => T.2 (2 * i + 1)), c, P, R, H, hA, ?_, IX_low hA x1 (fun a ha => f2 a (by omega) (by omega)), ?_⟩) (fun g => absurd hok g)
    · have := okT_up hT (t' := t + 1) (by omega)
      have hk := hok.1
      refine ⟨this.1, by show 0 ≤ T.1 / 2 ∧ T.1 / 2 ≤ 12; omega, fun i i0 (i1 : i < T.1 / 2) => ?_, this.2.2.2⟩
      have b1 := (hok.2 i i0 (by omega)).2
      have b2 := (o1.2.2 (2 * i + 1) (by omega) (by omega)).2
      exact ⟨b2.1, b1⟩
    · have hk := hok.1
      exact IM_gen m1 (fun a ha => f2 a (by omega) (by omega)) (fun j hj => j3 j (by omega) (by omega)) (mT_0 e3) (mFt_fr p2 (j3 7 (by omega) (by omega)) (j3 8 (by omega) (by omega))) (by
        unfold mD
        rw [f2 236 (by omega) (by omega), j3 30 (by omega) (by omega), j3 41 (by omega) (by omega)]
        exact ⟨p3.1, e33, p3.2.2.1, p3.2.2.2.1, fun i i0 (i1 : i < T.1 / 2) => ⟨g2 (2 * i) (by omega) (by omega), g2 (2 * i + 1) (by omega) (by omega)⟩⟩) (mP_fr p4 (j3 43 (by omega) (by omega)) (f2 243 (by omega) (by omega))) (mR_fr p5 (f2 220 (by omega) (by omega)))
  · have m1 : IM v1 A T F V S c P R H := IM_high hM (fun a ha => f1 a (by omega) (by omega))
    have x1 : IX v1 A (0, T.2) F V S c P (rUp R 1) H := IX_gen hA hX (fun a ha => f1 a (by omega) (by omega)) (isTp_0 e1) (xF_fr o2 (by rw [f1 3 (by omega) (by omega)]) (by rw [f1 3 (by omega) (by omega)])) (xD_fr o3 (f1 0 (by omega) (by omega)) (f1 213 (by omega) (by omega)) (f1 214 (by omega) (by omega)) (f1 215 (by omega) (by omega))) (xP_fr o4 (f1 205 (by omega) (by omega)) (f1 206 (by omega) (by omega))) (xR_up o5 (by omega) j2 e2)
    obtain ⟨p1, p2, p3, p4, p5, p6⟩ := id m1.2.2
    have hr2 := p5 1 (by omega)
    refine SM_see hA.1 m1.1.1.1 p1.1 p1.2.1 (fun i i0 i1 => (p1.2.2 i i0 i1).1) (by omega) (fun g => absurd g hok) (fun _ v2 f2 j3 e3 j4 e4 => ⟨rfl, A, (0, T.2), F, V, S, c, P, rUp R 1, H, hA, okT_ref hT (by omega), IX_low hA x1 (fun a ha => f2 a (by omega) (by omega)), ?_⟩)
    exact IM_gen m1 (fun a ha => f2 a (by omega) (by omega)) (fun j hj => j3 j (by omega)) (mT_0 e3) (mFt_fr p2 (j3 7 (by omega)) (j3 8 (by omega))) (mD_fr p3 (j3 30 (by omega)) (j3 33 (by omega)) (j3 41 (by omega)) (f2 236 (by omega) (by omega)) (f2 238 (by omega) (by omega))) (mP_fr p4 (j3 43 (by omega)) (f2 243 (by omega) (by omega))) (mR_up p5 (by omega) j4 e4)
end Calls1

/-! ===== what is measured, sorted, seated, laid ===== -/
noncomputable def am (n : Int) (L : List Ln) (a b : Int) : Int := bs n (fun c => 0 ≤ dd L a b ∧ 0 ≤ dd L a c ∧ dd L a c + dd L c b = dd L a b)
def md (v : VT) (n : Int) (L : List Ln) : Prop := v 138 6 = 0 ∨ (v 138 6 = 1 ∧ ∀ a b : Int, 0 ≤ a → a < n → 0 ≤ b → b < n → v (166 + a.toNat) b.toNat = am n L a b)
def XC (v : VT) (n : Int) (L : List Ln) : Prop := xG v 10 n L ∧ (v 138 0 = 0 ∨ (v 138 0 = 1 ∧ mt v n L ∧ md v n L)) ∧ (v 191 0 = 0 ∨ (v 191 0 = 1 ∧ kOKx v L)) ∧ (v 197 0 = 0 ∨ (v 197 0 = 1 ∧ stX v n L))
def XF (v v' : VT) : Prop := ∀ a, ¬ ((138 ≤ a ∧ a ≤ 204) ∨ a = 216) → v' a = v a
theorem XF_rf (v : VT) : XF v v := fun _ _ => rfl
theorem XF_trans {v v' v'' : VT} (h1 : XF v v') (h2 : XF v' v'') : XF v v'' := fun a ha => by rw [h2 a ha]; exact h1 a ha
/-- what other cells hold is kept -/
theorem XC_frame {v v' : VT} {n : Int} {L : List Ln} (hn : n ≤ 24) (h : XC v n L) (hf : ∀ a, a = 10 ∨ a = 12 ∨ a = 13 ∨ a = 14 ∨ (138 ≤ a ∧ a ≤ 139) ∨ (141 ≤ a ∧ a ≤ 164) ∨ (166 ≤ a ∧ a ≤ 189) ∨ (191 ≤ a ∧ a ≤ 194) ∨ (197 ≤ a ∧ a ≤ 199) → v' a = v a) : XC v' n L := by
  obtain ⟨h1, h2, h3, h4⟩ := h
  refine ⟨xG_frame h1 (hf 10 (by omega)) (hf 12 (by omega)) (hf 13 (by omega)) (hf 14 (by omega)), ?_, ?_, ?_⟩
  · rw [hf 138 (by omega)]
    rcases h2 with h2 | ⟨a1, a2, a3⟩
    · exact Or.inl h2
    · refine Or.inr ⟨a1, ?_, ?_⟩
      · unfold mt
        rw [hf 138 (by omega), hf 139 (by omega)]
        exact ⟨a2.1, a2.2.1, fun a b b1 b2 b3 b4 => by rw [hf _ (by omega)]; exact a2.2.2.1 a b b1 b2 b3 b4, a2.2.2.2⟩
      · unfold md
        rw [hf 138 (by omega)]
        rcases a3 with a3 | ⟨a3, a4⟩
        · exact Or.inl a3
        · exact Or.inr ⟨a3, fun a b b1 b2 b3 b4 => by rw [hf _ (by omega)]; exact a4 a b b1 b2 b3 b4⟩
  · rw [hf 191 (by omega)]
    rcases h3 with h3 | ⟨a1, a2⟩
    · exact Or.inl h3
    · exact Or.inr ⟨a1, by unfold kOKx; rw [hf 191 (by omega), hf 192 (by omega), hf 193 (by omega), hf 194 (by omega)]; exact a2⟩
  · rw [hf 197 (by omega)]
    rcases h4 with h4 | ⟨a1, a2⟩
    · exact Or.inl h4
    · exact Or.inr ⟨a1, by unfold stX; rw [hf 197 (by omega), hf 198 (by omega), hf 199 (by omega)]; exact a2⟩
theorem kOKx_frame {v v' : VT} {L : List Ln} (h : kOKx v L) (hf : ∀ a, 191 ≤ a ∧ a ≤ 194 → v' a = v a) : kOKx v' L := by
  unfold kOKx; rw [hf 191 (by omega), hf 192 (by omega), hf 193 (by omega), hf 194 (by omega)]; exact h
theorem stX_frame {v v' : VT} {n : Int} {L : List Ln} (h : stX v n L) (hf : ∀ a, 197 ≤ a ∧ a ≤ 199 → v' a = v a) : stX v' n L := by
  unfold stX; rw [hf 197 (by omega), hf 198 (by omega), hf 199 (by omega)]; exact h
section Caches
variable {n : Int} {L : List Ln} {v : VT}
theorem S_measured {q : VT → Prop} (w : wfL n L) (hn : 0 ≤ n ∧ n ≤ 24) (h : XC v n L) (hq : ∀ v', XF v v' → XC v' n L → v' 138 0 = 1 → mt v' n L → md v' n L → q v') : P_X10_measured v q := by
  unfold P_X10_measured
  obtain ⟨h1, h2, h3, h4⟩ := id h
  refine ⟨fun hc => ?_, fun hc => ?_⟩
  · rcases h2 with h2 | ⟨a1, a2, a3⟩
    · exact absurd h2 hc
    · exact hq v (XF_rf v) h a1 a2 a3
  · refine S_measure w hn h1 (fun v' hf k0 k6 hm => ?_)
    refine hq v' (fun a ha => hf a (by omega)) ⟨xG_frame h1 (hf 10 (by omega)) (hf 12 (by omega)) (hf 13 (by omega)) (hf 14 (by omega)), Or.inr ⟨k0, hm, Or.inl k6⟩, ?_, ?_⟩ k0 hm (Or.inl k6)
    · rw [hf 191 (by omega)]
      rcases h3 with h3 | ⟨a1, a2⟩
      · exact Or.inl h3
      · exact Or.inr ⟨a1, kOKx_frame a2 (fun a ha => hf a (by omega))⟩
    · rw [hf 197 (by omega)]
      rcases h4 with h4 | ⟨a1, a2⟩
      · exact Or.inl h4
      · exact Or.inr ⟨a1, stX_frame a2 (fun a ha => hf a (by omega))⟩
theorem XC_collected {v' : VT} (hn : 0 ≤ n ∧ n ≤ 24) (h : XC v n L) (hf : ∀ a, ¬ (191 ≤ a ∧ a ≤ 196) → v' a = v a) (k0 : v' 191 0 = 1) (hk : kOKx v' L) : XC v' n L := by
  obtain ⟨h1, h2, h3, h4⟩ := h
  refine ⟨xG_frame h1 (hf 10 (by omega)) (hf 12 (by omega)) (hf 13 (by omega)) (hf 14 (by omega)), ?_, Or.inr ⟨k0, hk⟩, ?_⟩
  · rw [hf 138 (by omega)]
    rcases h2 with h2 | ⟨a1, a2, a3⟩
    · exact Or.inl h2
    · refine Or.inr ⟨a1, mt_frame a2 (fun a ha => hf a (by omega)) hn.2, ?_⟩
      unfold md
      rw [hf 138 (by omega)]
      rcases a3 with a3 | ⟨a3, a4⟩
      · exact Or.inl a3
      · exact Or.inr ⟨a3, fun a b b1 b2 b3 b4 => by rw [hf _ (by omega)]; exact a4 a b b1 b2 b3 b4⟩
  · rw [hf 197 (by omega)]
    rcases h4 with h4 | ⟨a1, a2⟩
    · exact Or.inl h4
    · exact Or.inr ⟨a1, stX_frame a2 (fun a ha => hf a (by omega))⟩
theorem md_frame {v' : VT} (hn : n ≤ 24) (h : md v n L) (hf : ∀ a, 138 ≤ a ∧ a ≤ 189 → v' a = v a) : md v' n L := by
  unfold md
  rw [hf 138 (by omega)]
  rcases h with a3 | ⟨a3, a4⟩
  · exact Or.inl a3
  · exact Or.inr ⟨a3, fun a b b1 b2 b3 b4 => by rw [hf _ (by omega)]; exact a4 a b b1 b2 b3 b4⟩
theorem S_sorted {q : VT → Prop} (w : wfL n L) (hn : 0 ≤ n ∧ n ≤ 24) (h : XC v n L) (hq : ∀ v', XF v v' → XC v' n L → v' 138 0 = 1 → mt v' n L → md v' n L → kOKx v' L → q v') : P_X10_sorted v q := by
  unfold P_X10_sorted
  refine S_measured w hn h (fun v1 f1 c1 k1 m1 d1 => ⟨fun hc => ?_, fun hc => ?_⟩)
  · rcases c1.2.2.1 with h3 | ⟨a1, a2⟩
    · exact absurd h3 hc
    · exact hq v1 f1 c1 k1 m1 d1 a2
  · refine S_collect w hn c1.1 m1 (fun v' hf k0 hk => ?_)
    exact hq v' (fun a ha => by rw [hf a (by omega)]; exact f1 a ha) (XC_collected hn c1 hf k0 hk) (by rw [hf 138 (by omega)]; exact k1) (mt_frame m1 (fun a ha => hf a (by omega)) hn.2) (md_frame hn.2 d1 (fun a ha => hf a (by omega))) hk
theorem S_seated {q : VT → Prop} (w : wfL n L) (hn : 0 ≤ n ∧ n ≤ 24) (h : XC v n L) (hq : ∀ v', XF v v' → XC v' n L → v' 138 0 = 1 → mt v' n L → md v' n L → kOKx v' L → stX v' n L → q v') : P_X10_seated v q := by
  unfold P_X10_seated
  refine S_measured w hn h (fun v1 f1 c1 k1 m1 d1 => ?_)
  intro K30 hK30
  have go : ∀ v30 : VT, XF v v30 → XC v30 n L → v30 138 0 = 1 → mt v30 n L → md v30 n L → kOKx v30 L → K30 v30 := by
    intro v30 f3 c3 k3 m3 d3 o3
    apply hK30
    refine ⟨fun hc => ?_, fun hc => ?_⟩
    · rcases c3.2.2.2 with h3 | ⟨a1, a2⟩
      · exact absurd h3 hc
      · exact hq v30 f3 c3 k3 m3 d3 o3 a2
    · refine S_settle w hn c3.1 m3 o3 (fun v' hf k0 hs => ?_)
      have ho := kOKx_frame o3 (v' := v') (fun a ha => hf a (by omega))
      have hm := mt_frame m3 (v' := v') (fun a ha => hf a (by omega)) hn.2
      have hd := md_frame hn.2 d3 (v' := v') (fun a ha => hf a (by omega))
      refine hq v' (fun a ha => by rw [hf a (by omega)]; exact f3 a ha) ⟨xG_frame c3.1 (hf 10 (by omega)) (hf 12 (by omega)) (hf 13 (by omega)) (hf 14 (by omega)), Or.inr ⟨by rw [hf 138 (by omega)]; exact k3, hm, hd⟩, ?_, Or.inr ⟨k0, hs⟩⟩ (by rw [hf 138 (by omega)]; exact k3) hm hd ho hs
      rw [hf 191 (by omega)]
      rcases c3.2.2.1 with h3 | ⟨a1, a2⟩
      · exact Or.inl h3
      · exact Or.inr ⟨a1, ho⟩
  refine ⟨fun hc => ?_, fun hc => ?_⟩
  · rcases c1.2.2.1 with h3 | ⟨a1, a2⟩
    · exact absurd h3 hc
    · exact go v1 f1 c1 k1 m1 d1 a2
  · refine S_collect w hn c1.1 m1 (fun v' hf k0 hk => ?_)
    exact go v' (fun a ha => by rw [hf a (by omega)]; exact f1 a ha) (XC_collected hn c1 hf k0 hk) (by rw [hf 138 (by omega)]; exact k1) (mt_frame m1 (fun a ha => hf a (by omega)) hn.2) (md_frame hn.2 d1 (fun a ha => hf a (by omega))) hk
end Caches
/-! ===== the reference: lays ===== -/
def laid (v : VT) (n : Int) (L : List Ln) : Prop := frOK v n L ∧ kOKm v L ∧ rsn n L (v 218 19) (v 226 0) (v 226 1) ∧ sOKm v n L
def MC (v : VT) (n : Int) (L : List Ln) : Prop := mG v 222 n L ∧ (v 218 15 = 0 ∨ (v 218 15 = 1 ∧ laid v n L))
def MF (v v' : VT) : Prop := (∀ a, ¬ (a = 218 ∨ (224 ≤ a ∧ a ≤ 235) ∨ a = 237 ∨ (240 ≤ a ∧ a ≤ 242)) → v' a = v a) ∧ ∀ j, j ≠ 15 → j ≠ 18 → j ≠ 19 → v' 218 j = v 218 j
theorem MF_rf (v : VT) : MF v v := ⟨fun _ _ => rfl, fun _ _ _ _ => rfl⟩
theorem MF_trans {v v' v'' : VT} (h1 : MF v v') (h2 : MF v' v'') : MF v v'' := ⟨fun a ha => by rw [h2.1 a ha]; exact h1.1 a ha, fun j a1 a2 a3 => by rw [h2.2 j a1 a2 a3]; exact h1.2 j a1 a2 a3⟩
theorem MC_frame {v v' : VT} {n : Int} {L : List Ln} (h : MC v n L) (h2 : v' 222 = v 222) (hf : ∀ a, 224 ≤ a ∧ a ≤ 228 → v' a = v a) (hj : ∀ j, j = 15 ∨ j = 18 ∨ j = 19 → v' 218 j = v 218 j) : MC v' n L := by
  refine ⟨mG_frame h.1 h2, ?_⟩
  rw [hj 15 (by omega)]
  rcases h.2 with h3 | ⟨a1, a2, a3, a4, a5⟩
  · exact Or.inl h3
  · refine Or.inr ⟨a1, ?_, ?_, ?_, ?_⟩
    · unfold frOK; rw [hf 224 (by omega)]; exact a2
    · unfold kOKm; rw [hj 18 (by omega), hf 225 (by omega), hf 227 (by omega)]; exact a3
    · rw [hj 19 (by omega), hf 226 (by omega)]; exact a4
    · unfold sOKm; rw [hj 19 (by omega), hf 228 (by omega)]; exact a5
theorem S_lays {n : Int} {L : List Ln} {v : VT} {q : VT → Prop} (w : wfL n L) (hn : 0 ≤ n ∧ n ≤ 24) (h : MC v n L) (hq : ∀ v', MF v v' → MC v' n L → laid v' n L → q v') : P_X11_lays v q := by
  unfold P_X11_lays
  refine ⟨fun hc v10 e10 => ?_, fun hc => ?_⟩
  · have f10 : ∀ a, a ≠ 218 → v10 a = v a := fun a ha => by rw [e10, upd2_off _ _ _ ha]
    have j10 : ∀ j, j ≠ 15 → v10 218 j = v 218 j := fun j hj => by rw [e10, upd2_j, if_neg hj]
    have g10 : mG v10 222 n L := mG_frame h.1 (f10 222 (by omega))
    refine S_laysFar w hn g10 (fun v14 f14 h14 => ?_)
    have g14 : mG v14 222 n L := mG_frame g10 (f14 222 (by omega))
    refine S_laysKinds w hn g14 h14 (fun v18 f18 j18 h18 => ?_)
    have g18 : mG v18 222 n L := mG_frame g14 (f18 222 (by omega) (by omega) (by omega) (by omega))
    have r18 : frOK v18 n L := by unfold frOK; rw [f18 224 (by omega) (by omega) (by omega) (by omega)]; exact h14
    refine S_laysReason w hn g18 r18 h18 (fun v22 z22 h22 => ?_)
    have g22 : mG v22 222 n L := mG_frame g18 (z22.1 222 (by omega) (by omega))
    have r22 : frOK v22 n L := by unfold frOK; rw [z22.1 224 (by omega) (by omega)]; exact r18
    have k22 : kOKm v22 L := by unfold kOKm; rw [z22.2 18 (by decide), z22.1 225 (by omega) (by omega), z22.1 227 (by omega) (by omega)]; exact h18
    refine S_laysSides w hn g22 r22 k22 h22 (fun v26 f26 h26 => ?_)
    have l26 : laid v26 n L := by
      refine ⟨?_, ?_, ?_, h26⟩
      · unfold frOK; rw [f26 224 (by omega)]; exact r22
      · unfold kOKm; rw [f26 218 (by omega), f26 225 (by omega), f26 227 (by omega)]; exact k22
      · rw [f26 218 (by omega), f26 226 (by omega)]; exact h22
    refine hq v26 ⟨fun a ha => ?_, fun j a1 a2 a3 => ?_⟩ ⟨mG_frame g22 (f26 222 (by omega)), Or.inr ⟨?_, l26⟩⟩ l26
    · rw [f26 a (by omega), z22.1 a (by omega) (by omega), f18 a (by omega) (by omega) (by omega) (by omega), f14 a (by omega), f10 a (by omega)]
    · rw [f26 218 (by omega), z22.2 j a3, j18 j a2, f14 218 (by omega), j10 j a1]
    · rw [f26 218 (by omega), z22.2 15 (by decide), j18 15 (by decide), f14 218 (by omega), e10, upd2_same]
  · rcases h.2 with h2 | ⟨a1, a2⟩
    · exact absurd h2 hc
    · exact hq v (MF_rf v) h a2
/-! ===== nodes, lines ===== -/
theorem S_isNode {n k : Int} {L : List Ln} {v : VT} {q : Int → Prop} (h : xG v 10 n L) (h0 : ¬ (0 ≤ k ∧ k < n) → q 0) (h1 : 0 ≤ k ∧ k < n → q 1) : P_X0_isNode 10 k v q := by
  unfold P_X0_isNode
  rw [h.1]
  exact ⟨fun hc => h0 (by omega), fun hc => ⟨fun hc2 => h0 (by omega), fun hc2 => h1 ⟨hc, hc2⟩⟩⟩
theorem S_isLine {n k : Int} {L : List Ln} {v : VT} {q : Int → Prop} (h : xG v 10 n L) (h0 : ¬ (0 ≤ k ∧ k < L.length) → q 0) (h1 : 0 ≤ k ∧ k < L.length → q 1) : P_X0_isLine 10 k v q := by
  unfold P_X0_isLine
  rw [h.2.1]
  exact ⟨fun hc => h0 (by omega), fun hc => ⟨fun hc2 => h0 (by omega), fun hc2 => h1 ⟨hc, hc2⟩⟩⟩
theorem S_isIn {x a b : Int} {v : VT} {q : Int → Prop} (h0 : ¬ (a ≤ x ∧ x ≤ b) → q 0) (h1 : a ≤ x ∧ x ≤ b → q 1) : P_X11_isIn x a b v q := by
  unfold P_X11_isIn
  exact ⟨fun hc => h0 (by omega), fun hc => ⟨fun hc2 => h0 (by omega), fun hc2 => h1 ⟨hc, hc2⟩⟩⟩
theorem S_isNodeM {n k : Int} {L : List Ln} {v : VT} {q : Int → Prop} (hn : 0 ≤ n ∧ n ≤ 24) (h : mG v 222 n L) (h0 : ¬ (0 ≤ k ∧ k < n) → q 0) (h1 : 0 ≤ k ∧ k < n → q 1) : P_X11_isNode k v q := by
  unfold P_X11_isNode
  rw [h.1]
  exact ⟨by omega, S_isIn (fun hc => ⟨Or.inl rfl, h0 (by omega)⟩) (fun hc => ⟨Or.inr rfl, h1 (by omega)⟩)⟩
theorem S_isLineM {n k : Int} {L : List Ln} {v : VT} {q : Int → Prop} (w : wfL n L) (h : mG v 222 n L) (h0 : ¬ (0 ≤ k ∧ k < L.length) → q 0) (h1 : 0 ≤ k ∧ k < L.length → q 1) : P_X11_isLine k v q := by
  have := w.2.2
  unfold P_X11_isLine
  rw [h.2.1]
  exact ⟨by omega, S_isIn (fun hc => ⟨Or.inl rfl, h0 (by omega)⟩) (fun hc => ⟨Or.inr rfl, h1 (by omega)⟩)⟩
theorem S_areNodes {n a b : Int} {L : List Ln} {v : VT} {q : Int → Prop} (h : xG v 10 n L) (h0 : ¬ ((0 ≤ a ∧ a < n) ∧ (0 ≤ b ∧ b < n)) → q 0) (h1 : (0 ≤ a ∧ a < n) → (0 ≤ b ∧ b < n) → q 1) : P_X10_areNodes a b v q := by
  unfold P_X10_areNodes
  refine S_isNode h (fun hc => ⟨fun _ => h0 (fun h => hc h.1), fun h => absurd rfl h⟩) (fun hc => ⟨fun h => absurd h (by decide), fun _ => ?_⟩)
  exact S_isNode h (fun hc2 => ⟨fun _ => h0 (fun h => hc2 h.2), fun h => absurd rfl h⟩) (fun hc2 => ⟨fun h => absurd h (by decide), fun _ => h1 hc hc2⟩)
theorem S_areNodesM {n a b : Int} {L : List Ln} {v : VT} {q : Int → VT → Prop} (w : wfL n L) (hn : 0 ≤ n ∧ n ≤ 24) (h : MC v n L) (hq : ∀ v', MF v v' → MC v' n L → laid v' n L → (¬ ((0 ≤ a ∧ a < n) ∧ (0 ≤ b ∧ b < n)) → q 0 v') ∧ ((0 ≤ a ∧ a < n) → (0 ≤ b ∧ b < n) → q 1 v')) : P_X11_areNodes a b v q := by
  unfold P_X11_areNodes
  refine S_lays w hn h (fun v1 f1 c1 l1 => ?_)
  have hq1 := hq v1 f1 c1 l1
  refine S_isNodeM hn c1.1 (fun hc => ⟨fun _ => hq1.1 (fun h => hc h.1), fun h => absurd rfl h⟩) (fun hc => ⟨fun h => absurd h (by decide), fun _ => ?_⟩)
  exact S_isNodeM hn c1.1 (fun hc2 => ⟨fun _ => hq1.1 (fun h => hc2 h.2), fun h => absurd rfl h⟩) (fun hc2 => ⟨fun h => absurd h (by decide), fun _ => hq1.2 hc hc2⟩)

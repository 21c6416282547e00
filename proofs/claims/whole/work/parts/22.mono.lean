/-! ===== monotony and frame of the predicates ===== -/
theorem cpy_off (v : VT) (a : Nat) {b a' : Nat} (n : Nat) (h : a' ≠ b) : cpy v a b n a' = v a' := by funext j; unfold cpy; rw [if_neg (fun q => h q.1)]
theorem N_X0_wipe {g : Nat} {v : VT} {q q' : VT → Prop} (h : P_X0_wipe g v q) (hq : ∀ w, q w → q' w) : P_X0_wipe g v q' := by
  unfold P_X0_wipe at h ⊢
  intro v2 ev2
  replace h := h v2 ev2
  intro v7 ev7
  replace h := h v7 ev7
  exact hq _ h
theorem F_X0_wipe {g : Nat} {v : VT} {q : VT → Prop} (h : P_X0_wipe g v q) : P_X0_wipe g v (fun w => q w ∧ ∀ a, ¬ (a = g) → w a = v a) := by
  unfold P_X0_wipe at h ⊢
  have hf : ∀ a, ¬ (a = g) → v a = v a := fun a _ => rfl
  intro v2 ev2
  replace h := h v2 ev2
  replace hf : ∀ a, ¬ (a = g) → v2 a = v a := fun a ha => by rw [ev2, upd2_off _ _ _ (by omega), hf a ha]
  intro v7 ev7
  replace h := h v7 ev7
  replace hf : ∀ a, ¬ (a = g) → v7 a = v a := fun a ha => by rw [ev7, upd2_off _ _ _ (by omega), hf a ha]
  exact ⟨h, hf⟩
theorem N_X0_takeFrom {g : Nat} {o : Nat} {v : VT} {q q' : VT → Prop} (h : P_X0_takeFrom g o v q) (hq : ∀ w, q w → q' w) : P_X0_takeFrom g o v q' := by
  unfold P_X0_takeFrom at h ⊢
  intro v5 ev5
  replace h := h v5 ev5
  intro v13 ev13
  replace h := h v13 ev13
  obtain ⟨ho1, h⟩ := h
  refine ⟨ho1, ?_⟩
  intro v30 ev30
  replace h := h v30 ev30
  obtain ⟨ho2, h⟩ := h
  refine ⟨ho2, ?_⟩
  intro v47 ev47
  replace h := h v47 ev47
  obtain ⟨ho3, h⟩ := h
  refine ⟨ho3, ?_⟩
  intro v64 ev64
  replace h := h v64 ev64
  obtain ⟨ho4, h⟩ := h
  refine ⟨ho4, ?_⟩
  intro v81 ev81
  replace h := h v81 ev81
  exact hq _ h
theorem F_X0_takeFrom {g : Nat} {o : Nat} {v : VT} {q : VT → Prop} (h : P_X0_takeFrom g o v q) : P_X0_takeFrom g o v (fun w => q w ∧ ∀ a, ¬ (a = g ∨ a = g + 1 ∨ a = g + 2 ∨ a = g + 3 ∨ a = g + 4) → w a = v a) := by
  unfold P_X0_takeFrom at h ⊢
  have hf : ∀ a, ¬ (a = g ∨ a = g + 1 ∨ a = g + 2 ∨ a = g + 3 ∨ a = g + 4) → v a = v a := fun a _ => rfl
  intro v5 ev5
  replace h := h v5 ev5
  replace hf : ∀ a, ¬ (a = g ∨ a = g + 1 ∨ a = g + 2 ∨ a = g + 3 ∨ a = g + 4) → v5 a = v a := fun a ha => by rw [ev5, upd2_off _ _ _ (by omega), hf a ha]
  intro v13 ev13
  replace h := h v13 ev13
  replace hf : ∀ a, ¬ (a = g ∨ a = g + 1 ∨ a = g + 2 ∨ a = g + 3 ∨ a = g + 4) → v13 a = v a := fun a ha => by rw [ev13, upd2_off _ _ _ (by omega), hf a ha]
  obtain ⟨ho1, h⟩ := h
  refine ⟨ho1, ?_⟩
  intro v30 ev30
  replace h := h v30 ev30
  replace hf : ∀ a, ¬ (a = g ∨ a = g + 1 ∨ a = g + 2 ∨ a = g + 3 ∨ a = g + 4) → v30 a = v a := fun a ha => by rw [ev30, cpy_off _ _ _ (by omega), hf a ha]
  obtain ⟨ho2, h⟩ := h
  refine ⟨ho2, ?_⟩
  intro v47 ev47
  replace h := h v47 ev47
  replace hf : ∀ a, ¬ (a = g ∨ a = g + 1 ∨ a = g + 2 ∨ a = g + 3 ∨ a = g + 4) → v47 a = v a := fun a ha => by rw [ev47, cpy_off _ _ _ (by omega), hf a ha]
  obtain ⟨ho3, h⟩ := h
  refine ⟨ho3, ?_⟩
  intro v64 ev64
  replace h := h v64 ev64
  replace hf : ∀ a, ¬ (a = g ∨ a = g + 1 ∨ a = g + 2 ∨ a = g + 3 ∨ a = g + 4) → v64 a = v a := fun a ha => by rw [ev64, cpy_off _ _ _ (by omega), hf a ha]
  obtain ⟨ho4, h⟩ := h
  refine ⟨ho4, ?_⟩
  intro v81 ev81
  replace h := h v81 ev81
  replace hf : ∀ a, ¬ (a = g ∨ a = g + 1 ∨ a = g + 2 ∨ a = g + 3 ∨ a = g + 4) → v81 a = v a := fun a ha => by rw [ev81, cpy_off _ _ _ (by omega), hf a ha]
  exact ⟨h, hf⟩
theorem N_X0_isNode {g : Nat} {x1 : Int} {v : VT} {q q' : Int → Prop} (h : P_X0_isNode g x1 v q) (hq : ∀ r, q r → q' r) : P_X0_isNode g x1 v q' := by
  unfold P_X0_isNode at h ⊢
  refine ⟨fun hc => ?_, fun hc => ?_⟩
  · replace h := h.1 hc
    exact hq _ h
  · replace h := h.2 hc
    refine ⟨fun hc => ?_, fun hc => ?_⟩
    · replace h := h.1 hc
      exact hq _ h
    · replace h := h.2 hc
      exact hq _ h
theorem N_X0_isLine {g : Nat} {x1 : Int} {v : VT} {q q' : Int → Prop} (h : P_X0_isLine g x1 v q) (hq : ∀ r, q r → q' r) : P_X0_isLine g x1 v q' := by
  unfold P_X0_isLine at h ⊢
  refine ⟨fun hc => ?_, fun hc => ?_⟩
  · replace h := h.1 hc
    exact hq _ h
  · replace h := h.2 hc
    refine ⟨fun hc => ?_, fun hc => ?_⟩
    · replace h := h.1 hc
      exact hq _ h
    · replace h := h.2 hc
      exact hq _ h
theorem N_X0_findName {g : Nat} {x1 : Int} {v : VT} {q q' : Int → Prop} (h : P_X0_findName g x1 v q) (hq : ∀ r, q r → q' r) : P_X0_findName g x1 v q' := by
  unfold P_X0_findName at h ⊢
  intro X2 hKX2
  refine n_cut (h X2) ?_ ?_
  · intro i2 h
    refine hKX2 i2 ?_
    refine ⟨fun hc => ?_, fun hc => ?_⟩
    · replace h := h.1 hc
      exact hq _ h
    · replace h := h.2 hc
      refine ⟨fun hc => ?_, fun hc => ?_⟩
      · replace h := h.1 hc
        exact hq _ h
      · replace h := h.2 hc
        obtain ⟨ho1, h⟩ := h
        refine ⟨ho1, ?_⟩
        refine ⟨fun hc => ?_, fun hc => ?_⟩
        · replace h := h.1 hc
          obtain ⟨ho2, h⟩ := h
          refine ⟨ho2, ?_⟩
          exact h
        · replace h := h.2 hc
          exact hq _ h
  · intro h
    exact h
theorem N_X0_findLine {g : Nat} {x1 : Int} {x2 : Int} {v : VT} {q q' : Int → Prop} (h : P_X0_findLine g x1 x2 v q) (hq : ∀ r, q r → q' r) : P_X0_findLine g x1 x2 v q' := by
  unfold P_X0_findLine at h ⊢
  intro X16 hKX16
  refine n_cut (h X16) ?_ ?_
  · intro i5 h
    refine hKX16 i5 ?_
    refine ⟨fun hc => ?_, fun hc => ?_⟩
    · replace h := h.1 hc
      exact hq _ h
    · replace h := h.2 hc
      obtain ⟨ho1, h⟩ := h
      refine ⟨ho1, ?_⟩
      refine ⟨fun hc => ?_, fun hc => ?_⟩
      · replace h := h.1 hc
        obtain ⟨ho2, h⟩ := h
        refine ⟨ho2, ?_⟩
        exact h
      · replace h := h.2 hc
        obtain ⟨ho3, h⟩ := h
        refine ⟨ho3, ?_⟩
        refine ⟨fun hc => ?_, fun hc => ?_⟩
        · replace h := h.1 hc
          obtain ⟨ho4, h⟩ := h
          refine ⟨ho4, ?_⟩
          exact h
        · replace h := h.2 hc
          exact hq _ h
  · intro h
    exact h
theorem N_X0_canJoin {g : Nat} {x1 : Int} {x2 : Int} {v : VT} {q q' : Int → Prop} (h : P_X0_canJoin g x1 x2 v q) (hq : ∀ r, q r → q' r) : P_X0_canJoin g x1 x2 v q' := by
  unfold P_X0_canJoin at h ⊢
  refine N_X0_isNode h (fun r2 h => ?_)
  refine ⟨fun hc => ?_, fun hc => ?_⟩
  · replace h := h.1 hc
    exact hq _ h
  · replace h := h.2 hc
    refine N_X0_isNode h (fun r10 h => ?_)
    refine ⟨fun hc => ?_, fun hc => ?_⟩
    · replace h := h.1 hc
      exact hq _ h
    · replace h := h.2 hc
      refine ⟨fun hc => ?_, fun hc => ?_⟩
      · replace h := h.1 hc
        exact hq _ h
      · replace h := h.2 hc
        refine ⟨fun hc => ?_, fun hc => ?_⟩
        · replace h := h.1 hc
          exact hq _ h
        · replace h := h.2 hc
          refine N_X0_findLine h (fun r33 h => ?_)
          refine ⟨fun hc => ?_, fun hc => ?_⟩
          · replace h := h.1 hc
            exact hq _ h
          · replace h := h.2 hc
            exact hq _ h
theorem N_X0_canGrow {g : Nat} {x1 : Int} {v : VT} {q q' : Int → Prop} (h : P_X0_canGrow g x1 v q) (hq : ∀ r, q r → q' r) : P_X0_canGrow g x1 v q' := by
  unfold P_X0_canGrow at h ⊢
  refine N_X0_isNode h (fun r2 h => ?_)
  refine ⟨fun hc => ?_, fun hc => ?_⟩
  · replace h := h.1 hc
    exact hq _ h
  · replace h := h.2 hc
    refine ⟨fun hc => ?_, fun hc => ?_⟩
    · replace h := h.1 hc
      exact hq _ h
    · replace h := h.2 hc
      refine ⟨fun hc => ?_, fun hc => ?_⟩
      · replace h := h.1 hc
        exact hq _ h
      · replace h := h.2 hc
        exact hq _ h
theorem N_X0_addNode {g : Nat} {x1 : Int} {v : VT} {q q' : VT → Prop} (h : P_X0_addNode g x1 v q) (hq : ∀ w, q w → q' w) : P_X0_addNode g x1 v q' := by
  unfold P_X0_addNode at h ⊢
  refine ⟨fun hc => ?_, fun hc => ?_⟩
  · replace h := h.1 hc
    exact hq _ h
  · replace h := h.2 hc
    obtain ⟨ho1, h⟩ := h
    refine ⟨ho1, ?_⟩
    intro v18 ev18
    replace h := h v18 ev18
    obtain ⟨ho2, h⟩ := h
    refine ⟨ho2, ?_⟩
    intro v26 ev26
    replace h := h v26 ev26
    exact hq _ h
theorem F_X0_addNode {g : Nat} {x1 : Int} {v : VT} {q : VT → Prop} (h : P_X0_addNode g x1 v q) : P_X0_addNode g x1 v (fun w => q w ∧ ∀ a, ¬ (a = g ∨ a = g + 1) → w a = v a) := by
  unfold P_X0_addNode at h ⊢
  have hf : ∀ a, ¬ (a = g ∨ a = g + 1) → v a = v a := fun a _ => rfl
  refine ⟨fun hc => ?_, fun hc => ?_⟩
  · replace h := h.1 hc
    exact ⟨h, hf⟩
  · replace h := h.2 hc
    obtain ⟨ho1, h⟩ := h
    refine ⟨ho1, ?_⟩
    intro v18 ev18
    replace h := h v18 ev18
    replace hf : ∀ a, ¬ (a = g ∨ a = g + 1) → v18 a = v a := fun a ha => by rw [ev18, upd2_off _ _ _ (by omega), hf a ha]
    obtain ⟨ho2, h⟩ := h
    refine ⟨ho2, ?_⟩
    intro v26 ev26
    replace h := h v26 ev26
    replace hf : ∀ a, ¬ (a = g ∨ a = g + 1) → v26 a = v a := fun a ha => by rw [ev26, upd2_off _ _ _ (by omega), hf a ha]
    exact ⟨h, hf⟩
theorem N_X0_addLine {g : Nat} {x1 : Int} {x2 : Int} {x3 : Int} {v : VT} {q q' : VT → Prop} (h : P_X0_addLine g x1 x2 x3 v q) (hq : ∀ w, q w → q' w) : P_X0_addLine g x1 x2 x3 v q' := by
  unfold P_X0_addLine at h ⊢
  refine ⟨fun hc => ?_, fun hc => ?_⟩
  · replace h := h.1 hc
    exact hq _ h
  · replace h := h.2 hc
    obtain ⟨ho1, h⟩ := h
    refine ⟨ho1, ?_⟩
    intro v22 ev22
    replace h := h v22 ev22
    obtain ⟨ho2, h⟩ := h
    refine ⟨ho2, ?_⟩
    intro v36 ev36
    replace h := h v36 ev36
    obtain ⟨ho3, h⟩ := h
    refine ⟨ho3, ?_⟩
    intro v46 ev46
    replace h := h v46 ev46
    obtain ⟨ho4, h⟩ := h
    refine ⟨ho4, ?_⟩
    intro v54 ev54
    replace h := h v54 ev54
    exact hq _ h
theorem F_X0_addLine {g : Nat} {x1 : Int} {x2 : Int} {x3 : Int} {v : VT} {q : VT → Prop} (h : P_X0_addLine g x1 x2 x3 v q) : P_X0_addLine g x1 x2 x3 v (fun w => q w ∧ ∀ a, ¬ (a = g ∨ a = g + 2 ∨ a = g + 3 ∨ a = g + 4) → w a = v a) := by
  unfold P_X0_addLine at h ⊢
  have hf : ∀ a, ¬ (a = g ∨ a = g + 2 ∨ a = g + 3 ∨ a = g + 4) → v a = v a := fun a _ => rfl
  refine ⟨fun hc => ?_, fun hc => ?_⟩
  · replace h := h.1 hc
    exact ⟨h, hf⟩
  · replace h := h.2 hc
    obtain ⟨ho1, h⟩ := h
    refine ⟨ho1, ?_⟩
    intro v22 ev22
    replace h := h v22 ev22
    replace hf : ∀ a, ¬ (a = g ∨ a = g + 2 ∨ a = g + 3 ∨ a = g + 4) → v22 a = v a := fun a ha => by rw [ev22, upd2_off _ _ _ (by omega), hf a ha]
    obtain ⟨ho2, h⟩ := h
    refine ⟨ho2, ?_⟩
    intro v36 ev36
    replace h := h v36 ev36
    replace hf : ∀ a, ¬ (a = g ∨ a = g + 2 ∨ a = g + 3 ∨ a = g + 4) → v36 a = v a := fun a ha => by rw [ev36, upd2_off _ _ _ (by omega), hf a ha]
    obtain ⟨ho3, h⟩ := h
    refine ⟨ho3, ?_⟩
    intro v46 ev46
    replace h := h v46 ev46
    replace hf : ∀ a, ¬ (a = g ∨ a = g + 2 ∨ a = g + 3 ∨ a = g + 4) → v46 a = v a := fun a ha => by rw [ev46, upd2_off _ _ _ (by omega), hf a ha]
    obtain ⟨ho4, h⟩ := h
    refine ⟨ho4, ?_⟩
    intro v54 ev54
    replace h := h v54 ev54
    replace hf : ∀ a, ¬ (a = g ∨ a = g + 2 ∨ a = g + 3 ∨ a = g + 4) → v54 a = v a := fun a ha => by rw [ev54, upd2_off _ _ _ (by omega), hf a ha]
    exact ⟨h, hf⟩
theorem N_X0_addLeaf {g : Nat} {x1 : Int} {v : VT} {q q' : VT → Prop} (h : P_X0_addLeaf g x1 v q) (hq : ∀ w, q w → q' w) : P_X0_addLeaf g x1 v q' := by
  unfold P_X0_addLeaf at h ⊢
  refine N_X0_addNode h (fun v2 h => ?_)
  obtain ⟨ho1, h⟩ := h
  refine ⟨ho1, ?_⟩
  refine N_X0_addLine h (fun v14 h => ?_)
  exact hq _ h
theorem F_X0_addLeaf {g : Nat} {x1 : Int} {v : VT} {q : VT → Prop} (h : P_X0_addLeaf g x1 v q) : P_X0_addLeaf g x1 v (fun w => q w ∧ ∀ a, ¬ (a = g ∨ a = g + 1 ∨ a = g + 2 ∨ a = g + 3 ∨ a = g + 4) → w a = v a) := by
  unfold P_X0_addLeaf at h ⊢
  have hf : ∀ a, ¬ (a = g ∨ a = g + 1 ∨ a = g + 2 ∨ a = g + 3 ∨ a = g + 4) → v a = v a := fun a _ => rfl
  refine N_X0_addNode (F_X0_addNode h) (fun v2 h => ?_)
  obtain ⟨h, hg⟩ := h
  replace hf : ∀ a, ¬ (a = g ∨ a = g + 1 ∨ a = g + 2 ∨ a = g + 3 ∨ a = g + 4) → v2 a = v a := fun a ha => by rw [hg a (by omega), hf a ha]
  clear hg
  obtain ⟨ho1, h⟩ := h
  refine ⟨ho1, ?_⟩
  refine N_X0_addLine (F_X0_addLine h) (fun v14 h => ?_)
  obtain ⟨h, hg⟩ := h
  replace hf : ∀ a, ¬ (a = g ∨ a = g + 1 ∨ a = g + 2 ∨ a = g + 3 ∨ a = g + 4) → v14 a = v a := fun a ha => by rw [hg a (by omega), hf a ha]
  clear hg
  exact ⟨h, hf⟩
theorem N_X0_removeLine {g : Nat} {x1 : Int} {v : VT} {q q' : VT → Prop} (h : P_X0_removeLine g x1 v q) (hq : ∀ w, q w → q' w) : P_X0_removeLine g x1 v q' := by
  unfold P_X0_removeLine at h ⊢
  intro v7 ev7
  replace h := h v7 ev7
  intro X12 hKX12
  refine n_cut (h X12) ?_ ?_
  · intro i3 v12 h
    refine hKX12 i3 v12 ?_
    refine ⟨fun hc => ?_, fun hc => ?_⟩
    · replace h := h.1 hc
      exact hq _ h
    · replace h := h.2 hc
      refine ⟨fun hc => ?_, fun hc => ?_⟩
      · replace h := h.1 hc
        obtain ⟨ho1, h⟩ := h
        refine ⟨ho1, ?_⟩
        exact h
      · replace h := h.2 hc
        obtain ⟨ho2, h⟩ := h
        refine ⟨ho2, ?_⟩
        obtain ⟨ho3, h⟩ := h
        refine ⟨ho3, ?_⟩
        obtain ⟨ho4, h⟩ := h
        refine ⟨ho4, ?_⟩
        refine N_X0_addLine h (fun v41 h => ?_)
        obtain ⟨ho5, h⟩ := h
        refine ⟨ho5, ?_⟩
        exact h
  · intro h
    exact h
theorem F_X0_removeLine {g : Nat} {x1 : Int} {v : VT} {q : VT → Prop} (h : P_X0_removeLine g x1 v q) : P_X0_removeLine g x1 v (fun w => q w ∧ ∀ a, ¬ (a = g ∨ a = g + 2 ∨ a = g + 3 ∨ a = g + 4) → w a = v a) := by
  unfold P_X0_removeLine at h ⊢
  have hf : ∀ a, ¬ (a = g ∨ a = g + 2 ∨ a = g + 3 ∨ a = g + 4) → v a = v a := fun a _ => rfl
  intro v7 ev7
  replace h := h v7 ev7
  replace hf : ∀ a, ¬ (a = g ∨ a = g + 2 ∨ a = g + 3 ∨ a = g + 4) → v7 a = v a := fun a ha => by rw [ev7, upd2_off _ _ _ (by omega), hf a ha]
  intro X12 hKX12
  refine n_cut (h (fun (i3 : Int) (v12 : VT) => (∀ a, ¬ (a = g ∨ a = g + 2 ∨ a = g + 3 ∨ a = g + 4) → v12 a = v a) → X12 i3 v12)) ?_ ?_
  · intro i3 v12 h hf
    refine hKX12 i3 v12 ?_
    refine ⟨fun hc => ?_, fun hc => ?_⟩
    · replace h := h.1 hc
      exact ⟨h, hf⟩
    · replace h := h.2 hc
      refine ⟨fun hc => ?_, fun hc => ?_⟩
      · replace h := h.1 hc
        obtain ⟨ho1, h⟩ := h
        refine ⟨ho1, ?_⟩
        exact h hf
      · replace h := h.2 hc
        obtain ⟨ho2, h⟩ := h
        refine ⟨ho2, ?_⟩
        obtain ⟨ho3, h⟩ := h
        refine ⟨ho3, ?_⟩
        obtain ⟨ho4, h⟩ := h
        refine ⟨ho4, ?_⟩
        refine N_X0_addLine (F_X0_addLine h) (fun v41 h => ?_)
        obtain ⟨h, hg⟩ := h
        replace hf : ∀ a, ¬ (a = g ∨ a = g + 2 ∨ a = g + 3 ∨ a = g + 4) → v41 a = v a := fun a ha => by rw [hg a (by omega), hf a ha]
        clear hg
        obtain ⟨ho5, h⟩ := h
        refine ⟨ho5, ?_⟩
        exact h hf
  · intro h
    exact h hf
theorem N_X0_removeNode {g : Nat} {x1 : Int} {v : VT} {q q' : VT → Prop} (h : P_X0_removeNode g x1 v q) (hq : ∀ w, q w → q' w) : P_X0_removeNode g x1 v q' := by
  unfold P_X0_removeNode at h ⊢
  intro v7 ev7
  replace h := h v7 ev7
  intro K91 hKK91
  refine n_cut (h K91) ?_ ?_
  · intro v91 h
    refine hKK91 v91 ?_
    obtain ⟨ho1, h⟩ := h
    refine ⟨ho1, ?_⟩
    intro v98 ev98
    replace h := h v98 ev98
    intro X103 hKX103
    refine n_cut (h X103) ?_ ?_
    · intro i3 v103 h
      refine hKX103 i3 v103 ?_
      refine ⟨fun hc => ?_, fun hc => ?_⟩
      · replace h := h.1 hc
        exact hq _ h
      · replace h := h.2 hc
        obtain ⟨ho2, h⟩ := h
        refine ⟨ho2, ?_⟩
        obtain ⟨ho3, h⟩ := h
        refine ⟨ho3, ?_⟩
        obtain ⟨ho4, h⟩ := h
        refine ⟨ho4, ?_⟩
        intro v124 ev124
        replace h := h v124 ev124
        obtain ⟨ho5, h⟩ := h
        refine ⟨ho5, ?_⟩
        exact h
    · intro h
      exact h
  · intro h
    intro X12 hKX12
    refine n_cut (h X12) ?_ ?_
    · intro i3_1 v12 h
      refine hKX12 i3_1 v12 ?_
      refine ⟨fun hc => ?_, fun hc => ?_⟩
      · replace h := h.1 hc
        exact h
      · replace h := h.2 hc
        obtain ⟨ho6, h⟩ := h
        refine ⟨ho6, ?_⟩
        intro l4 el4
        replace h := h l4 el4
        obtain ⟨ho7, h⟩ := h
        refine ⟨ho7, ?_⟩
        intro l5 el5
        replace h := h l5 el5
        refine ⟨fun hc => ?_, fun hc => ?_⟩
        · replace h := h.1 hc
          obtain ⟨ho8, h⟩ := h
          refine ⟨ho8, ?_⟩
          exact h
        · replace h := h.2 hc
          refine ⟨fun hc => ?_, fun hc => ?_⟩
          · replace h := h.1 hc
            obtain ⟨ho9, h⟩ := h
            refine ⟨ho9, ?_⟩
            exact h
          · replace h := h.2 hc
            intro K61 hKK61
            refine n_cut (h K61) ?_ ?_
            · intro s0 h
              refine hKK61 s0 ?_
              refine ⟨fun hc => ?_, fun hc => ?_⟩
              · replace h := h.1 hc
                obtain ⟨ho10, h⟩ := h
                refine ⟨ho10, ?_⟩
                refine N_X0_addLine h (fun v82 h => ?_)
                obtain ⟨ho11, h⟩ := h
                refine ⟨ho11, ?_⟩
                exact h
              · replace h := h.2 hc
                obtain ⟨ho12, h⟩ := h
                refine ⟨ho12, ?_⟩
                obtain ⟨ho13, h⟩ := h
                refine ⟨ho13, ?_⟩
                refine N_X0_addLine h (fun v82_1 h => ?_)
                obtain ⟨ho14, h⟩ := h
                refine ⟨ho14, ?_⟩
                exact h
            · intro h
              refine ⟨fun hc => ?_, fun hc => ?_⟩
              · replace h := h.1 hc
                exact h
              · replace h := h.2 hc
                obtain ⟨ho15, h⟩ := h
                refine ⟨ho15, ?_⟩
                exact h
    · intro h
      exact h
theorem F_X0_removeNode {g : Nat} {x1 : Int} {v : VT} {q : VT → Prop} (h : P_X0_removeNode g x1 v q) : P_X0_removeNode g x1 v (fun w => q w ∧ ∀ a, ¬ (a = g ∨ a = g + 1 ∨ a = g + 2 ∨ a = g + 3 ∨ a = g + 4) → w a = v a) := by
  unfold P_X0_removeNode at h ⊢
  have hf : ∀ a, ¬ (a = g ∨ a = g + 1 ∨ a = g + 2 ∨ a = g + 3 ∨ a = g + 4) → v a = v a := fun a _ => rfl
  intro v7 ev7
  replace h := h v7 ev7
  replace hf : ∀ a, ¬ (a = g ∨ a = g + 1 ∨ a = g + 2 ∨ a = g + 3 ∨ a = g + 4) → v7 a = v a := fun a ha => by rw [ev7, upd2_off _ _ _ (by omega), hf a ha]
  intro K91 hKK91
  refine n_cut (h (fun (v91 : VT) => (∀ a, ¬ (a = g ∨ a = g + 1 ∨ a = g + 2 ∨ a = g + 3 ∨ a = g + 4) → v91 a = v a) → K91 v91)) ?_ ?_
  · intro v91 h hf
    refine hKK91 v91 ?_
    obtain ⟨ho1, h⟩ := h
    refine ⟨ho1, ?_⟩
    intro v98 ev98
    replace h := h v98 ev98
    replace hf : ∀ a, ¬ (a = g ∨ a = g + 1 ∨ a = g + 2 ∨ a = g + 3 ∨ a = g + 4) → v98 a = v a := fun a ha => by rw [ev98, upd2_off _ _ _ (by omega), hf a ha]
    intro X103 hKX103
    refine n_cut (h (fun (i3 : Int) (v103 : VT) => (∀ a, ¬ (a = g ∨ a = g + 1 ∨ a = g + 2 ∨ a = g + 3 ∨ a = g + 4) → v103 a = v a) → X103 i3 v103)) ?_ ?_
    · intro i3 v103 h hf
      refine hKX103 i3 v103 ?_
      refine ⟨fun hc => ?_, fun hc => ?_⟩
      · replace h := h.1 hc
        exact ⟨h, hf⟩
      · replace h := h.2 hc
        obtain ⟨ho2, h⟩ := h
        refine ⟨ho2, ?_⟩
        obtain ⟨ho3, h⟩ := h
        refine ⟨ho3, ?_⟩
        obtain ⟨ho4, h⟩ := h
        refine ⟨ho4, ?_⟩
        intro v124 ev124
        replace h := h v124 ev124
        replace hf : ∀ a, ¬ (a = g ∨ a = g + 1 ∨ a = g + 2 ∨ a = g + 3 ∨ a = g + 4) → v124 a = v a := fun a ha => by rw [ev124, upd2_off _ _ _ (by omega), hf a ha]
        obtain ⟨ho5, h⟩ := h
        refine ⟨ho5, ?_⟩
        exact h hf
    · intro h
      exact h hf
  · intro h
    intro X12 hKX12
    refine n_cut (h (fun (i3_1 : Int) (v12 : VT) => (∀ a, ¬ (a = g ∨ a = g + 1 ∨ a = g + 2 ∨ a = g + 3 ∨ a = g + 4) → v12 a = v a) → X12 i3_1 v12)) ?_ ?_
    · intro i3_1 v12 h hf
      refine hKX12 i3_1 v12 ?_
      refine ⟨fun hc => ?_, fun hc => ?_⟩
      · replace h := h.1 hc
        exact h hf
      · replace h := h.2 hc
        obtain ⟨ho6, h⟩ := h
        refine ⟨ho6, ?_⟩
        intro l4 el4
        replace h := h l4 el4
        obtain ⟨ho7, h⟩ := h
        refine ⟨ho7, ?_⟩
        intro l5 el5
        replace h := h l5 el5
        refine ⟨fun hc => ?_, fun hc => ?_⟩
        · replace h := h.1 hc
          obtain ⟨ho8, h⟩ := h
          refine ⟨ho8, ?_⟩
          exact h hf
        · replace h := h.2 hc
          refine ⟨fun hc => ?_, fun hc => ?_⟩
          · replace h := h.1 hc
            obtain ⟨ho9, h⟩ := h
            refine ⟨ho9, ?_⟩
            exact h hf
          · replace h := h.2 hc
            intro K61 hKK61
            refine n_cut (h K61) ?_ ?_
            · intro s0 h
              refine hKK61 s0 ?_
              refine ⟨fun hc => ?_, fun hc => ?_⟩
              · replace h := h.1 hc
                obtain ⟨ho10, h⟩ := h
                refine ⟨ho10, ?_⟩
                refine N_X0_addLine (F_X0_addLine h) (fun v82 h => ?_)
                obtain ⟨h, hg⟩ := h
                replace hf : ∀ a, ¬ (a = g ∨ a = g + 1 ∨ a = g + 2 ∨ a = g + 3 ∨ a = g + 4) → v82 a = v a := fun a ha => by rw [hg a (by omega), hf a ha]
                clear hg
                obtain ⟨ho11, h⟩ := h
                refine ⟨ho11, ?_⟩
                exact h hf
              · replace h := h.2 hc
                obtain ⟨ho12, h⟩ := h
                refine ⟨ho12, ?_⟩
                obtain ⟨ho13, h⟩ := h
                refine ⟨ho13, ?_⟩
                refine N_X0_addLine (F_X0_addLine h) (fun v82_1 h => ?_)
                obtain ⟨h, hg⟩ := h
                replace hf : ∀ a, ¬ (a = g ∨ a = g + 1 ∨ a = g + 2 ∨ a = g + 3 ∨ a = g + 4) → v82_1 a = v a := fun a ha => by rw [hg a (by omega), hf a ha]
                clear hg
                obtain ⟨ho14, h⟩ := h
                refine ⟨ho14, ?_⟩
                exact h hf
            · intro h
              refine ⟨fun hc => ?_, fun hc => ?_⟩
              · replace h := h.1 hc
                exact h
              · replace h := h.2 hc
                obtain ⟨ho15, h⟩ := h
                refine ⟨ho15, ?_⟩
                exact h
    · intro h
      exact h hf
theorem N_X0_merge {g : Nat} {v : VT} {q q' : VT → Prop} (h : P_X0_merge g v q) (hq : ∀ w, q w → q' w) : P_X0_merge g v q' := by
  unfold P_X0_merge at h ⊢
  intro K47 hKK47
  refine n_cut (h K47) ?_ ?_
  · intro i2 v47 h
    refine hKK47 i2 v47 ?_
    intro v49 ev49
    replace h := h v49 ev49
    intro v59 ev59
    replace h := h v59 ev59
    intro X65 hKX65
    refine n_cut (h X65) ?_ ?_
    · intro i4 v65 h
      refine hKX65 i4 v65 ?_
      refine ⟨fun hc => ?_, fun hc => ?_⟩
      · replace h := h.1 hc
        exact hq _ h
      · replace h := h.2 hc
        obtain ⟨ho1, h⟩ := h
        refine ⟨ho1, ?_⟩
        obtain ⟨ho2, h⟩ := h
        refine ⟨ho2, ?_⟩
        obtain ⟨ho3, h⟩ := h
        refine ⟨ho3, ?_⟩
        intro l5 el5
        replace h := h l5 el5
        obtain ⟨ho4, h⟩ := h
        refine ⟨ho4, ?_⟩
        obtain ⟨ho5, h⟩ := h
        refine ⟨ho5, ?_⟩
        obtain ⟨ho6, h⟩ := h
        refine ⟨ho6, ?_⟩
        intro l6 el6
        replace h := h l6 el6
        refine ⟨fun hc => ?_, fun hc => ?_⟩
        · replace h := h.1 hc
          obtain ⟨ho7, h⟩ := h
          refine ⟨ho7, ?_⟩
          exact h
        · replace h := h.2 hc
          refine N_X0_findLine h (fun r115 h => ?_)
          refine ⟨fun hc => ?_, fun hc => ?_⟩
          · replace h := h.1 hc
            obtain ⟨ho8, h⟩ := h
            refine ⟨ho8, ?_⟩
            exact h
          · replace h := h.2 hc
            obtain ⟨ho9, h⟩ := h
            refine ⟨ho9, ?_⟩
            refine N_X0_addLine h (fun v134 h => ?_)
            obtain ⟨ho10, h⟩ := h
            refine ⟨ho10, ?_⟩
            exact h
    · intro h
      exact h
  · intro h
    intro X4 hKX4
    refine n_cut (h X4) ?_ ?_
    · intro i2_1 i3 v4 h
      refine hKX4 i2_1 i3 v4 ?_
      refine ⟨fun hc => ?_, fun hc => ?_⟩
      · replace h := h.1 hc
        exact h
      · replace h := h.2 hc
        obtain ⟨ho11, h⟩ := h
        refine ⟨ho11, ?_⟩
        refine ⟨fun hc => ?_, fun hc => ?_⟩
        · replace h := h.1 hc
          obtain ⟨ho12, h⟩ := h
          refine ⟨ho12, ?_⟩
          exact h
        · replace h := h.2 hc
          obtain ⟨ho13, h⟩ := h
          refine ⟨ho13, ?_⟩
          intro v25 ev25
          replace h := h v25 ev25
          obtain ⟨ho14, h⟩ := h
          refine ⟨ho14, ?_⟩
          obtain ⟨ho15, h⟩ := h
          refine ⟨ho15, ?_⟩
          intro v37 ev37
          replace h := h v37 ev37
          obtain ⟨ho16, h⟩ := h
          refine ⟨ho16, ?_⟩
          obtain ⟨ho17, h⟩ := h
          refine ⟨ho17, ?_⟩
          exact h
    · intro h
      exact h
theorem F_X0_merge {g : Nat} {v : VT} {q : VT → Prop} (h : P_X0_merge g v q) : P_X0_merge g v (fun w => q w ∧ ∀ a, ¬ (a = g ∨ a = g + 1 ∨ a = g + 2 ∨ a = g + 3 ∨ a = g + 4 ∨ a = g + 5) → w a = v a) := by
  unfold P_X0_merge at h ⊢
  have hf : ∀ a, ¬ (a = g ∨ a = g + 1 ∨ a = g + 2 ∨ a = g + 3 ∨ a = g + 4 ∨ a = g + 5) → v a = v a := fun a _ => rfl
  intro K47 hKK47
  refine n_cut (h (fun (i2 : Int) (v47 : VT) => (∀ a, ¬ (a = g ∨ a = g + 1 ∨ a = g + 2 ∨ a = g + 3 ∨ a = g + 4 ∨ a = g + 5) → v47 a = v a) → K47 i2 v47)) ?_ ?_
  · intro i2 v47 h hf
    refine hKK47 i2 v47 ?_
    intro v49 ev49
    replace h := h v49 ev49
    replace hf : ∀ a, ¬ (a = g ∨ a = g + 1 ∨ a = g + 2 ∨ a = g + 3 ∨ a = g + 4 ∨ a = g + 5) → v49 a = v a := fun a ha => by rw [ev49, upd2_off _ _ _ (by omega), hf a ha]
    intro v59 ev59
    replace h := h v59 ev59
    replace hf : ∀ a, ¬ (a = g ∨ a = g + 1 ∨ a = g + 2 ∨ a = g + 3 ∨ a = g + 4 ∨ a = g + 5) → v59 a = v a := fun a ha => by rw [ev59, upd2_off _ _ _ (by omega), hf a ha]
    intro X65 hKX65
    refine n_cut (h (fun (i4 : Int) (v65 : VT) => (∀ a, ¬ (a = g ∨ a = g + 1 ∨ a = g + 2 ∨ a = g + 3 ∨ a = g + 4 ∨ a = g + 5) → v65 a = v a) → X65 i4 v65)) ?_ ?_
    · intro i4 v65 h hf
      refine hKX65 i4 v65 ?_
      refine ⟨fun hc => ?_, fun hc => ?_⟩
      · replace h := h.1 hc
        exact ⟨h, hf⟩
      · replace h := h.2 hc
        obtain ⟨ho1, h⟩ := h
        refine ⟨ho1, ?_⟩
        obtain ⟨ho2, h⟩ := h
        refine ⟨ho2, ?_⟩
        obtain ⟨ho3, h⟩ := h
        refine ⟨ho3, ?_⟩
        intro l5 el5
        replace h := h l5 el5
        obtain ⟨ho4, h⟩ := h
        refine ⟨ho4, ?_⟩
        obtain ⟨ho5, h⟩ := h
        refine ⟨ho5, ?_⟩
        obtain ⟨ho6, h⟩ := h
        refine ⟨ho6, ?_⟩
        intro l6 el6
        replace h := h l6 el6
        refine ⟨fun hc => ?_, fun hc => ?_⟩
        · replace h := h.1 hc
          obtain ⟨ho7, h⟩ := h
          refine ⟨ho7, ?_⟩
          exact h hf
        · replace h := h.2 hc
          refine N_X0_findLine h (fun r115 h => ?_)
          refine ⟨fun hc => ?_, fun hc => ?_⟩
          · replace h := h.1 hc
            obtain ⟨ho8, h⟩ := h
            refine ⟨ho8, ?_⟩
            exact h hf
          · replace h := h.2 hc
            obtain ⟨ho9, h⟩ := h
            refine ⟨ho9, ?_⟩
            refine N_X0_addLine (F_X0_addLine h) (fun v134 h => ?_)
            obtain ⟨h, hg⟩ := h
            replace hf : ∀ a, ¬ (a = g ∨ a = g + 1 ∨ a = g + 2 ∨ a = g + 3 ∨ a = g + 4 ∨ a = g + 5) → v134 a = v a := fun a ha => by rw [hg a (by omega), hf a ha]
            clear hg
            obtain ⟨ho10, h⟩ := h
            refine ⟨ho10, ?_⟩
            exact h hf
    · intro h
      exact h hf
  · intro h
    intro X4 hKX4
    refine n_cut (h (fun (i2_1 : Int) (i3 : Int) (v4 : VT) => (∀ a, ¬ (a = g ∨ a = g + 1 ∨ a = g + 2 ∨ a = g + 3 ∨ a = g + 4 ∨ a = g + 5) → v4 a = v a) → X4 i2_1 i3 v4)) ?_ ?_
    · intro i2_1 i3 v4 h hf
      refine hKX4 i2_1 i3 v4 ?_
      refine ⟨fun hc => ?_, fun hc => ?_⟩
      · replace h := h.1 hc
        exact h hf
      · replace h := h.2 hc
        obtain ⟨ho11, h⟩ := h
        refine ⟨ho11, ?_⟩
        refine ⟨fun hc => ?_, fun hc => ?_⟩
        · replace h := h.1 hc
          obtain ⟨ho12, h⟩ := h
          refine ⟨ho12, ?_⟩
          exact h hf
        · replace h := h.2 hc
          obtain ⟨ho13, h⟩ := h
          refine ⟨ho13, ?_⟩
          intro v25 ev25
          replace h := h v25 ev25
          replace hf : ∀ a, ¬ (a = g ∨ a = g + 1 ∨ a = g + 2 ∨ a = g + 3 ∨ a = g + 4 ∨ a = g + 5) → v25 a = v a := fun a ha => by rw [ev25, upd2_off _ _ _ (by omega), hf a ha]
          obtain ⟨ho14, h⟩ := h
          refine ⟨ho14, ?_⟩
          obtain ⟨ho15, h⟩ := h
          refine ⟨ho15, ?_⟩
          intro v37 ev37
          replace h := h v37 ev37
          replace hf : ∀ a, ¬ (a = g ∨ a = g + 1 ∨ a = g + 2 ∨ a = g + 3 ∨ a = g + 4 ∨ a = g + 5) → v37 a = v a := fun a ha => by rw [ev37, upd2_off _ _ _ (by omega), hf a ha]
          obtain ⟨ho16, h⟩ := h
          refine ⟨ho16, ?_⟩
          obtain ⟨ho17, h⟩ := h
          refine ⟨ho17, ?_⟩
          exact h hf
    · intro h
      exact h hf
theorem N_X10_allBits {x0 : Int} {v : VT} {q q' : Int → Prop} (h : P_X10_allBits x0 v q) (hq : ∀ r, q r → q' r) : P_X10_allBits x0 v q' := by
  unfold P_X10_allBits at h ⊢
  obtain ⟨ho1, h⟩ := h
  refine ⟨ho1, ?_⟩
  exact hq _ h
theorem N_J6_bitCount_0f7a4 {x0 : Int} {v : VT} {q q' : Int → Prop} (h : P_J6_bitCount_0f7a4 x0 v q) (hq : ∀ r, q r → q' r) : P_J6_bitCount_0f7a4 x0 v q' := by
  unfold P_J6_bitCount_0f7a4 at h ⊢
  obtain ⟨ho1, h⟩ := h
  refine ⟨ho1, ?_⟩
  intro l0 el0
  replace h := h l0 el0
  obtain ⟨ho2, h⟩ := h
  refine ⟨ho2, ?_⟩
  intro l0_1 el0_1
  replace h := h l0_1 el0_1
  obtain ⟨ho3, h⟩ := h
  refine ⟨ho3, ?_⟩
  intro l0_2 el0_2
  replace h := h l0_2 el0_2
  obtain ⟨ho4, h⟩ := h
  refine ⟨ho4, ?_⟩
  intro l0_3 el0_3
  replace h := h l0_3 el0_3
  obtain ⟨ho5, h⟩ := h
  refine ⟨ho5, ?_⟩
  intro l0_4 el0_4
  replace h := h l0_4 el0_4
  exact hq _ h
theorem N_X0_canOpen {g : Nat} {x1 : Int} {x2 : Int} {v : VT} {q q' : Int → Prop} (h : P_X0_canOpen g x1 x2 v q) (hq : ∀ r, q r → q' r) : P_X0_canOpen g x1 x2 v q' := by
  unfold P_X0_canOpen at h ⊢
  refine N_X10_allBits h (fun r11 h => ?_)
  refine ⟨fun hc => ?_, fun hc => ?_⟩
  · replace h := h.1 hc
    exact hq _ h
  · replace h := h.2 hc
    refine ⟨fun hc => ?_, fun hc => ?_⟩
    · replace h := h.1 hc
      refine N_J6_bitCount_0f7a4 h (fun r24 h => ?_)
      intro K104 hKK104
      refine n_cut (h K104) ?_ ?_
      · intro i5 h
        refine hKK104 i5 ?_
        obtain ⟨ho1, h⟩ := h
        refine ⟨ho1, ?_⟩
        refine ⟨fun hc => ?_, fun hc => ?_⟩
        · replace h := h.1 hc
          exact hq _ h
        · replace h := h.2 hc
          obtain ⟨ho2, h⟩ := h
          refine ⟨ho2, ?_⟩
          refine ⟨fun hc => ?_, fun hc => ?_⟩
          · replace h := h.1 hc
            exact hq _ h
          · replace h := h.2 hc
            exact hq _ h
      · intro h
        intro X36 hKX36
        refine n_cut (h X36) ?_ ?_
        · intro i5_1 i6 h
          refine hKX36 i5_1 i6 ?_
          refine ⟨fun hc => ?_, fun hc => ?_⟩
          · replace h := h.1 hc
            exact h
          · replace h := h.2 hc
            obtain ⟨ho3, h⟩ := h
            refine ⟨ho3, ?_⟩
            obtain ⟨ho4, h⟩ := h
            refine ⟨ho4, ?_⟩
            intro l7 el7
            replace h := h l7 el7
            refine ⟨fun hc => ?_, fun hc => ?_⟩
            · replace h := h.1 hc
              refine ⟨fun hc => ?_, fun hc => ?_⟩
              · replace h := h.1 hc
                obtain ⟨ho5, h⟩ := h
                refine ⟨ho5, ?_⟩
                exact h
              · replace h := h.2 hc
                obtain ⟨ho6, h⟩ := h
                refine ⟨ho6, ?_⟩
                obtain ⟨ho7, h⟩ := h
                refine ⟨ho7, ?_⟩
                exact h
            · replace h := h.2 hc
              refine ⟨fun hc => ?_, fun hc => ?_⟩
              · replace h := h.1 hc
                refine ⟨fun hc => ?_, fun hc => ?_⟩
                · replace h := h.1 hc
                  obtain ⟨ho8, h⟩ := h
                  refine ⟨ho8, ?_⟩
                  exact h
                · replace h := h.2 hc
                  obtain ⟨ho9, h⟩ := h
                  refine ⟨ho9, ?_⟩
                  obtain ⟨ho10, h⟩ := h
                  refine ⟨ho10, ?_⟩
                  exact h
              · replace h := h.2 hc
                exact hq _ h
        · intro h
          exact h
    · replace h := h.2 hc
      exact hq _ h
theorem N_X10_hasBit {x0 : Int} {x1 : Int} {v : VT} {q q' : Int → Prop} (h : P_X10_hasBit x0 x1 v q) (hq : ∀ r, q r → q' r) : P_X10_hasBit x0 x1 v q' := by
  unfold P_X10_hasBit at h ⊢
  refine ⟨fun hc => ?_, fun hc => ?_⟩
  · replace h := h.1 hc
    exact hq _ h
  · replace h := h.2 hc
    exact hq _ h
theorem N_X0_moveToSecond {g : Nat} {x1 : Int} {x2 : Int} {x3 : Int} {v : VT} {q q' : VT → Prop} (h : P_X0_moveToSecond g x1 x2 x3 v q) (hq : ∀ w, q w → q' w) : P_X0_moveToSecond g x1 x2 x3 v q' := by
  unfold P_X0_moveToSecond at h ⊢
  obtain ⟨ho1, h⟩ := h
  refine ⟨ho1, ?_⟩
  intro l4 el4
  replace h := h l4 el4
  obtain ⟨ho2, h⟩ := h
  refine ⟨ho2, ?_⟩
  intro l5 el5
  replace h := h l5 el5
  refine N_X10_hasBit h (fun r19 h => ?_)
  intro K58 hKK58
  refine n_cut (h K58) ?_ ?_
  · intro h
    refine hKK58  ?_
    refine N_X10_hasBit h (fun r61 h => ?_)
    refine ⟨fun hc => ?_, fun hc => ?_⟩
    · replace h := h.1 hc
      exact hq _ h
    · replace h := h.2 hc
      refine N_X10_hasBit h (fun r70 h => ?_)
      refine ⟨fun hc => ?_, fun hc => ?_⟩
      · replace h := h.1 hc
        exact hq _ h
      · replace h := h.2 hc
        obtain ⟨ho3, h⟩ := h
        refine ⟨ho3, ?_⟩
        obtain ⟨ho4, h⟩ := h
        refine ⟨ho4, ?_⟩
        intro v88 ev88
        replace h := h v88 ev88
        exact hq _ h
  · intro h
    refine ⟨fun hc => ?_, fun hc => ?_⟩
    · replace h := h.1 hc
      exact h
    · replace h := h.2 hc
      refine N_X10_hasBit h (fun r28 h => ?_)
      refine ⟨fun hc => ?_, fun hc => ?_⟩
      · replace h := h.1 hc
        exact h
      · replace h := h.2 hc
        obtain ⟨ho5, h⟩ := h
        refine ⟨ho5, ?_⟩
        intro v41 ev41
        replace h := h v41 ev41
        obtain ⟨ho6, h⟩ := h
        refine ⟨ho6, ?_⟩
        obtain ⟨ho7, h⟩ := h
        refine ⟨ho7, ?_⟩
        intro v54 ev54
        replace h := h v54 ev54
        exact hq _ h
theorem F_X0_moveToSecond {g : Nat} {x1 : Int} {x2 : Int} {x3 : Int} {v : VT} {q : VT → Prop} (h : P_X0_moveToSecond g x1 x2 x3 v q) : P_X0_moveToSecond g x1 x2 x3 v (fun w => q w ∧ ∀ a, ¬ (a = g + 2 ∨ a = g + 3) → w a = v a) := by
  unfold P_X0_moveToSecond at h ⊢
  have hf : ∀ a, ¬ (a = g + 2 ∨ a = g + 3) → v a = v a := fun a _ => rfl
  obtain ⟨ho1, h⟩ := h
  refine ⟨ho1, ?_⟩
  intro l4 el4
  replace h := h l4 el4
  obtain ⟨ho2, h⟩ := h
  refine ⟨ho2, ?_⟩
  intro l5 el5
  replace h := h l5 el5
  refine N_X10_hasBit h (fun r19 h => ?_)
  intro K58 hKK58
  refine n_cut (h K58) ?_ ?_
  · intro h
    refine hKK58  ?_
    refine N_X10_hasBit h (fun r61 h => ?_)
    refine ⟨fun hc => ?_, fun hc => ?_⟩
    · replace h := h.1 hc
      exact ⟨h, hf⟩
    · replace h := h.2 hc
      refine N_X10_hasBit h (fun r70 h => ?_)
      refine ⟨fun hc => ?_, fun hc => ?_⟩
      · replace h := h.1 hc
        exact ⟨h, hf⟩
      · replace h := h.2 hc
        obtain ⟨ho3, h⟩ := h
        refine ⟨ho3, ?_⟩
        obtain ⟨ho4, h⟩ := h
        refine ⟨ho4, ?_⟩
        intro v88 ev88
        replace h := h v88 ev88
        replace hf : ∀ a, ¬ (a = g + 2 ∨ a = g + 3) → v88 a = v a := fun a ha => by rw [ev88, upd2_off _ _ _ (by omega), hf a ha]
        exact ⟨h, hf⟩
  · intro h
    refine ⟨fun hc => ?_, fun hc => ?_⟩
    · replace h := h.1 hc
      exact h
    · replace h := h.2 hc
      refine N_X10_hasBit h (fun r28 h => ?_)
      refine ⟨fun hc => ?_, fun hc => ?_⟩
      · replace h := h.1 hc
        exact h
      · replace h := h.2 hc
        obtain ⟨ho5, h⟩ := h
        refine ⟨ho5, ?_⟩
        intro v41 ev41
        replace h := h v41 ev41
        replace hf : ∀ a, ¬ (a = g + 2 ∨ a = g + 3) → v41 a = v a := fun a ha => by rw [ev41, upd2_off _ _ _ (by omega), hf a ha]
        obtain ⟨ho6, h⟩ := h
        refine ⟨ho6, ?_⟩
        obtain ⟨ho7, h⟩ := h
        refine ⟨ho7, ?_⟩
        intro v54 ev54
        replace h := h v54 ev54
        replace hf : ∀ a, ¬ (a = g + 2 ∨ a = g + 3) → v54 a = v a := fun a ha => by rw [ev54, upd2_off _ _ _ (by omega), hf a ha]
        exact ⟨h, hf⟩
theorem N_X0_doubleAlong {g : Nat} {x1 : Int} {x2 : Int} {v : VT} {q q' : VT → Prop} (h : P_X0_doubleAlong g x1 x2 v q) (hq : ∀ w, q w → q' w) : P_X0_doubleAlong g x1 x2 v q' := by
  unfold P_X0_doubleAlong at h ⊢
  intro K57 hKK57
  refine n_cut (h K57) ?_ ?_
  · intro v57 h
    refine hKK57 v57 ?_
    intro K136 hKK136
    refine n_cut (h K136) ?_ ?_
    · intro v136 h
      refine hKK136 v136 ?_
      intro K164 hKK164
      refine n_cut (h K164) ?_ ?_
      · intro v164 h
        refine hKK164 v164 ?_
        intro X167 hKX167
        refine n_cut (h X167) ?_ ?_
        · intro i6 v167 h
          refine hKX167 i6 v167 ?_
          refine ⟨fun hc => ?_, fun hc => ?_⟩
          · replace h := h.1 hc
            exact hq _ h
          · replace h := h.2 hc
            refine N_X10_hasBit h (fun r177 h => ?_)
            refine ⟨fun hc => ?_, fun hc => ?_⟩
            · replace h := h.1 hc
              obtain ⟨ho1, h⟩ := h
              refine ⟨ho1, ?_⟩
              exact h
            · replace h := h.2 hc
              obtain ⟨ho2, h⟩ := h
              refine ⟨ho2, ?_⟩
              refine N_X0_addLine h (fun v194 h => ?_)
              obtain ⟨ho3, h⟩ := h
              refine ⟨ho3, ?_⟩
              exact h
        · intro h
          exact h
      · intro h
        intro X139 hKX139
        refine n_cut (h X139) ?_ ?_
        · intro i6_1 v139 h
          refine hKX139 i6_1 v139 ?_
          refine ⟨fun hc => ?_, fun hc => ?_⟩
          · replace h := h.1 hc
            exact h
          · replace h := h.2 hc
            refine N_X0_moveToSecond h (fun v155 h => ?_)
            obtain ⟨ho4, h⟩ := h
            refine ⟨ho4, ?_⟩
            exact h
        · intro h
          exact h
    · intro h
      intro X60 hKX60
      refine n_cut (h X60) ?_ ?_
      · intro i6_2 v60 h
        refine hKX60 i6_2 v60 ?_
        refine ⟨fun hc => ?_, fun hc => ?_⟩
        · replace h := h.1 hc
          exact h
        · replace h := h.2 hc
          obtain ⟨ho5, h⟩ := h
          refine ⟨ho5, ?_⟩
          refine N_X10_hasBit h (fun r75 h => ?_)
          refine ⟨fun hc => ?_, fun hc => ?_⟩
          · replace h := h.1 hc
            obtain ⟨ho6, h⟩ := h
            refine ⟨ho6, ?_⟩
            exact h
          · replace h := h.2 hc
            obtain ⟨ho7, h⟩ := h
            refine ⟨ho7, ?_⟩
            refine N_X10_hasBit h (fun r89 h => ?_)
            refine ⟨fun hc => ?_, fun hc => ?_⟩
            · replace h := h.1 hc
              obtain ⟨ho8, h⟩ := h
              refine ⟨ho8, ?_⟩
              exact h
            · replace h := h.2 hc
              obtain ⟨ho9, h⟩ := h
              refine ⟨ho9, ?_⟩
              obtain ⟨ho10, h⟩ := h
              refine ⟨ho10, ?_⟩
              obtain ⟨ho11, h⟩ := h
              refine ⟨ho11, ?_⟩
              obtain ⟨ho12, h⟩ := h
              refine ⟨ho12, ?_⟩
              obtain ⟨ho13, h⟩ := h
              refine ⟨ho13, ?_⟩
              refine N_X0_addLine h (fun v127 h => ?_)
              obtain ⟨ho14, h⟩ := h
              refine ⟨ho14, ?_⟩
              exact h
      · intro h
        exact h
  · intro h
    intro X19 hKX19
    refine n_cut (h X19) ?_ ?_
    · intro i6_3 v19 h
      refine hKX19 i6_3 v19 ?_
      refine ⟨fun hc => ?_, fun hc => ?_⟩
      · replace h := h.1 hc
        exact h
      · replace h := h.2 hc
        refine N_X10_hasBit h (fun r29 h => ?_)
        refine ⟨fun hc => ?_, fun hc => ?_⟩
        · replace h := h.1 hc
          obtain ⟨ho15, h⟩ := h
          refine ⟨ho15, ?_⟩
          exact h
        · replace h := h.2 hc
          obtain ⟨ho16, h⟩ := h
          refine ⟨ho16, ?_⟩
          intro v45 ev45
          replace h := h v45 ev45
          refine N_X0_addNode h (fun v48 h => ?_)
          obtain ⟨ho17, h⟩ := h
          refine ⟨ho17, ?_⟩
          exact h
    · intro h
      exact h
theorem F_X0_doubleAlong {g : Nat} {x1 : Int} {x2 : Int} {v : VT} {q : VT → Prop} (h : P_X0_doubleAlong g x1 x2 v q) : P_X0_doubleAlong g x1 x2 v (fun w => q w ∧ ∀ a, ¬ (a = g ∨ a = g + 1 ∨ a = g + 2 ∨ a = g + 3 ∨ a = g + 4 ∨ a = g + 5) → w a = v a) := by
  unfold P_X0_doubleAlong at h ⊢
  have hf : ∀ a, ¬ (a = g ∨ a = g + 1 ∨ a = g + 2 ∨ a = g + 3 ∨ a = g + 4 ∨ a = g + 5) → v a = v a := fun a _ => rfl
  intro K57 hKK57
  refine n_cut (h (fun (v57 : VT) => (∀ a, ¬ (a = g ∨ a = g + 1 ∨ a = g + 2 ∨ a = g + 3 ∨ a = g + 4 ∨ a = g + 5) → v57 a = v a) → K57 v57)) ?_ ?_
  · intro v57 h hf
    refine hKK57 v57 ?_
    intro K136 hKK136
    refine n_cut (h (fun (v136 : VT) => (∀ a, ¬ (a = g ∨ a = g + 1 ∨ a = g + 2 ∨ a = g + 3 ∨ a = g + 4 ∨ a = g + 5) → v136 a = v a) → K136 v136)) ?_ ?_
    · intro v136 h hf
      refine hKK136 v136 ?_
      intro K164 hKK164
      refine n_cut (h (fun (v164 : VT) => (∀ a, ¬ (a = g ∨ a = g + 1 ∨ a = g + 2 ∨ a = g + 3 ∨ a = g + 4 ∨ a = g + 5) → v164 a = v a) → K164 v164)) ?_ ?_
      · intro v164 h hf
        refine hKK164 v164 ?_
        intro X167 hKX167
        refine n_cut (h (fun (i6 : Int) (v167 : VT) => (∀ a, ¬ (a = g ∨ a = g + 1 ∨ a = g + 2 ∨ a = g + 3 ∨ a = g + 4 ∨ a = g + 5) → v167 a = v a) → X167 i6 v167)) ?_ ?_
        · intro i6 v167 h hf
          refine hKX167 i6 v167 ?_
          refine ⟨fun hc => ?_, fun hc => ?_⟩
          · replace h := h.1 hc
            exact ⟨h, hf⟩
          · replace h := h.2 hc
            refine N_X10_hasBit h (fun r177 h => ?_)
            refine ⟨fun hc => ?_, fun hc => ?_⟩
            · replace h := h.1 hc
              obtain ⟨ho1, h⟩ := h
              refine ⟨ho1, ?_⟩
              exact h hf
            · replace h := h.2 hc
              obtain ⟨ho2, h⟩ := h
              refine ⟨ho2, ?_⟩
              refine N_X0_addLine (F_X0_addLine h) (fun v194 h => ?_)
              obtain ⟨h, hg⟩ := h
              replace hf : ∀ a, ¬ (a = g ∨ a = g + 1 ∨ a = g + 2 ∨ a = g + 3 ∨ a = g + 4 ∨ a = g + 5) → v194 a = v a := fun a ha => by rw [hg a (by omega), hf a ha]
              clear hg
              obtain ⟨ho3, h⟩ := h
              refine ⟨ho3, ?_⟩
              exact h hf
        · intro h
          exact h hf
      · intro h
        intro X139 hKX139
        refine n_cut (h (fun (i6_1 : Int) (v139 : VT) => (∀ a, ¬ (a = g ∨ a = g + 1 ∨ a = g + 2 ∨ a = g + 3 ∨ a = g + 4 ∨ a = g + 5) → v139 a = v a) → X139 i6_1 v139)) ?_ ?_
        · intro i6_1 v139 h hf
          refine hKX139 i6_1 v139 ?_
          refine ⟨fun hc => ?_, fun hc => ?_⟩
          · replace h := h.1 hc
            exact h hf
          · replace h := h.2 hc
            refine N_X0_moveToSecond (F_X0_moveToSecond h) (fun v155 h => ?_)
            obtain ⟨h, hg⟩ := h
            replace hf : ∀ a, ¬ (a = g ∨ a = g + 1 ∨ a = g + 2 ∨ a = g + 3 ∨ a = g + 4 ∨ a = g + 5) → v155 a = v a := fun a ha => by rw [hg a (by omega), hf a ha]
            clear hg
            obtain ⟨ho4, h⟩ := h
            refine ⟨ho4, ?_⟩
            exact h hf
        · intro h
          exact h hf
    · intro h
      intro X60 hKX60
      refine n_cut (h (fun (i6_2 : Int) (v60 : VT) => (∀ a, ¬ (a = g ∨ a = g + 1 ∨ a = g + 2 ∨ a = g + 3 ∨ a = g + 4 ∨ a = g + 5) → v60 a = v a) → X60 i6_2 v60)) ?_ ?_
      · intro i6_2 v60 h hf
        refine hKX60 i6_2 v60 ?_
        refine ⟨fun hc => ?_, fun hc => ?_⟩
        · replace h := h.1 hc
          exact h hf
        · replace h := h.2 hc
          obtain ⟨ho5, h⟩ := h
          refine ⟨ho5, ?_⟩
          refine N_X10_hasBit h (fun r75 h => ?_)
          refine ⟨fun hc => ?_, fun hc => ?_⟩
          · replace h := h.1 hc
            obtain ⟨ho6, h⟩ := h
            refine ⟨ho6, ?_⟩
            exact h hf
          · replace h := h.2 hc
            obtain ⟨ho7, h⟩ := h
            refine ⟨ho7, ?_⟩
            refine N_X10_hasBit h (fun r89 h => ?_)
            refine ⟨fun hc => ?_, fun hc => ?_⟩
            · replace h := h.1 hc
              obtain ⟨ho8, h⟩ := h
              refine ⟨ho8, ?_⟩
              exact h hf
            · replace h := h.2 hc
              obtain ⟨ho9, h⟩ := h
              refine ⟨ho9, ?_⟩
              obtain ⟨ho10, h⟩ := h
              refine ⟨ho10, ?_⟩
              obtain ⟨ho11, h⟩ := h
              refine ⟨ho11, ?_⟩
              obtain ⟨ho12, h⟩ := h
              refine ⟨ho12, ?_⟩
              obtain ⟨ho13, h⟩ := h
              refine ⟨ho13, ?_⟩
              refine N_X0_addLine (F_X0_addLine h) (fun v127 h => ?_)
              obtain ⟨h, hg⟩ := h
              replace hf : ∀ a, ¬ (a = g ∨ a = g + 1 ∨ a = g + 2 ∨ a = g + 3 ∨ a = g + 4 ∨ a = g + 5) → v127 a = v a := fun a ha => by rw [hg a (by omega), hf a ha]
              clear hg
              obtain ⟨ho14, h⟩ := h
              refine ⟨ho14, ?_⟩
              exact h hf
      · intro h
        exact h hf
  · intro h
    intro X19 hKX19
    refine n_cut (h (fun (i6_3 : Int) (v19 : VT) => (∀ a, ¬ (a = g ∨ a = g + 1 ∨ a = g + 2 ∨ a = g + 3 ∨ a = g + 4 ∨ a = g + 5) → v19 a = v a) → X19 i6_3 v19)) ?_ ?_
    · intro i6_3 v19 h hf
      refine hKX19 i6_3 v19 ?_
      refine ⟨fun hc => ?_, fun hc => ?_⟩
      · replace h := h.1 hc
        exact h hf
      · replace h := h.2 hc
        refine N_X10_hasBit h (fun r29 h => ?_)
        refine ⟨fun hc => ?_, fun hc => ?_⟩
        · replace h := h.1 hc
          obtain ⟨ho15, h⟩ := h
          refine ⟨ho15, ?_⟩
          exact h hf
        · replace h := h.2 hc
          obtain ⟨ho16, h⟩ := h
          refine ⟨ho16, ?_⟩
          intro v45 ev45
          replace h := h v45 ev45
          replace hf : ∀ a, ¬ (a = g ∨ a = g + 1 ∨ a = g + 2 ∨ a = g + 3 ∨ a = g + 4 ∨ a = g + 5) → v45 a = v a := fun a ha => by rw [ev45, upd2_off _ _ _ (by omega), hf a ha]
          refine N_X0_addNode (F_X0_addNode h) (fun v48 h => ?_)
          obtain ⟨h, hg⟩ := h
          replace hf : ∀ a, ¬ (a = g ∨ a = g + 1 ∨ a = g + 2 ∨ a = g + 3 ∨ a = g + 4 ∨ a = g + 5) → v48 a = v a := fun a ha => by rw [hg a (by omega), hf a ha]
          clear hg
          obtain ⟨ho17, h⟩ := h
          refine ⟨ho17, ?_⟩
          exact h hf
    · intro h
      exact h hf
theorem N_X2_areAlike {x2 : Int} {x3 : Int} {v : VT} {q q' : Int → Prop} (h : P_X2_areAlike x2 x3 v q) (hq : ∀ r, q r → q' r) : P_X2_areAlike x2 x3 v q' := by
  unfold P_X2_areAlike at h ⊢
  obtain ⟨ho1, h⟩ := h
  refine ⟨ho1, ?_⟩
  obtain ⟨ho2, h⟩ := h
  refine ⟨ho2, ?_⟩
  obtain ⟨ho3, h⟩ := h
  refine ⟨ho3, ?_⟩
  obtain ⟨ho4, h⟩ := h
  refine ⟨ho4, ?_⟩
  obtain ⟨ho5, h⟩ := h
  refine ⟨ho5, ?_⟩
  intro l6 el6
  replace h := h l6 el6
  obtain ⟨ho6, h⟩ := h
  refine ⟨ho6, ?_⟩
  intro l7 el7
  replace h := h l7 el7
  obtain ⟨ho7, h⟩ := h
  refine ⟨ho7, ?_⟩
  refine ⟨fun hc => ?_, fun hc => ?_⟩
  · replace h := h.1 hc
    obtain ⟨ho8, h⟩ := h
    refine ⟨ho8, ?_⟩
    obtain ⟨ho9, h⟩ := h
    refine ⟨ho9, ?_⟩
    obtain ⟨ho10, h⟩ := h
    refine ⟨ho10, ?_⟩
    obtain ⟨ho11, h⟩ := h
    refine ⟨ho11, ?_⟩
    obtain ⟨ho12, h⟩ := h
    refine ⟨ho12, ?_⟩
    obtain ⟨ho13, h⟩ := h
    refine ⟨ho13, ?_⟩
    refine ⟨fun hc => ?_, fun hc => ?_⟩
    · replace h := h.1 hc
      exact hq _ h
    · replace h := h.2 hc
      exact hq _ h
  · replace h := h.2 hc
    exact hq _ h
theorem N_X1_collectFrom {x3 : Int} {v : VT} {q q' : VT → Prop} (h : P_X1_collectFrom x3 v q) (hq : ∀ w, q w → q' w) : P_X1_collectFrom x3 v q' := by
  unfold P_X1_collectFrom at h ⊢
  obtain ⟨ho1, h⟩ := h
  refine ⟨ho1, ?_⟩
  intro v9 ev9
  replace h := h v9 ev9
  intro v16 ev16
  replace h := h v16 ev16
  intro K114 hKK114
  refine n_cut (h K114) ?_ ?_
  · intro i4 v114 h
    refine hKK114 i4 v114 ?_
    obtain ⟨ho2, h⟩ := h
    refine ⟨ho2, ?_⟩
    intro v123 ev123
    replace h := h v123 ev123
    obtain ⟨ho3, h⟩ := h
    refine ⟨ho3, ?_⟩
    intro v134 ev134
    replace h := h v134 ev134
    obtain ⟨ho4, h⟩ := h
    refine ⟨ho4, ?_⟩
    intro v142 ev142
    replace h := h v142 ev142
    exact hq _ h
  · intro h
    intro X23 hKX23
    refine n_cut (h X23) ?_ ?_
    · intro i4_1 i5 v23 h
      refine hKX23 i4_1 i5 v23 ?_
      refine ⟨fun hc => ?_, fun hc => ?_⟩
      · replace h := h.1 hc
        exact h
      · replace h := h.2 hc
        refine ⟨fun hc => ?_, fun hc => ?_⟩
        · replace h := h.1 hc
          exact h
        · replace h := h.2 hc
          obtain ⟨ho5, h⟩ := h
          refine ⟨ho5, ?_⟩
          intro X42 hKX42
          refine n_cut (h X42) ?_ ?_
          · intro i4_2 i6 v42 h
            refine hKX42 i4_2 i6 v42 ?_
            refine ⟨fun hc => ?_, fun hc => ?_⟩
            · replace h := h.1 hc
              obtain ⟨ho6, h⟩ := h
              refine ⟨ho6, ?_⟩
              exact h
            · replace h := h.2 hc
              obtain ⟨ho7, h⟩ := h
              refine ⟨ho7, ?_⟩
              refine ⟨fun hc => ?_, fun hc => ?_⟩
              · replace h := h.1 hc
                obtain ⟨ho8, h⟩ := h
                refine ⟨ho8, ?_⟩
                exact h
              · replace h := h.2 hc
                obtain ⟨ho9, h⟩ := h
                refine ⟨ho9, ?_⟩
                refine N_X2_areAlike h (fun r73 h => ?_)
                refine ⟨fun hc => ?_, fun hc => ?_⟩
                · replace h := h.1 hc
                  obtain ⟨ho10, h⟩ := h
                  refine ⟨ho10, ?_⟩
                  exact h
                · replace h := h.2 hc
                  obtain ⟨ho11, h⟩ := h
                  refine ⟨ho11, ?_⟩
                  intro v89 ev89
                  replace h := h v89 ev89
                  obtain ⟨ho12, h⟩ := h
                  refine ⟨ho12, ?_⟩
                  intro v98 ev98
                  replace h := h v98 ev98
                  obtain ⟨ho13, h⟩ := h
                  refine ⟨ho13, ?_⟩
                  obtain ⟨ho14, h⟩ := h
                  refine ⟨ho14, ?_⟩
                  exact h
          · intro h
            exact h
    · intro h
      exact h
theorem F_X1_collectFrom {x3 : Int} {v : VT} {q : VT → Prop} (h : P_X1_collectFrom x3 v q) : P_X1_collectFrom x3 v (fun w => q w ∧ ∀ a, ¬ ((191 ≤ a ∧ a ≤ 194) ∨ a = 196) → w a = v a) := by
  unfold P_X1_collectFrom at h ⊢
  have hf : ∀ a, ¬ ((191 ≤ a ∧ a ≤ 194) ∨ a = 196) → v a = v a := fun a _ => rfl
  obtain ⟨ho1, h⟩ := h
  refine ⟨ho1, ?_⟩
  intro v9 ev9
  replace h := h v9 ev9
  replace hf : ∀ a, ¬ ((191 ≤ a ∧ a ≤ 194) ∨ a = 196) → v9 a = v a := fun a ha => by rw [ev9, upd2_off _ _ _ (by omega), hf a ha]
  intro v16 ev16
  replace h := h v16 ev16
  replace hf : ∀ a, ¬ ((191 ≤ a ∧ a ≤ 194) ∨ a = 196) → v16 a = v a := fun a ha => by rw [ev16, upd2_off _ _ _ (by omega), hf a ha]
  intro K114 hKK114
  refine n_cut (h (fun (i4 : Int) (v114 : VT) => (∀ a, ¬ ((191 ≤ a ∧ a ≤ 194) ∨ a = 196) → v114 a = v a) → K114 i4 v114)) ?_ ?_
  · intro i4 v114 h hf
    refine hKK114 i4 v114 ?_
    obtain ⟨ho2, h⟩ := h
    refine ⟨ho2, ?_⟩
    intro v123 ev123
    replace h := h v123 ev123
    replace hf : ∀ a, ¬ ((191 ≤ a ∧ a ≤ 194) ∨ a = 196) → v123 a = v a := fun a ha => by rw [ev123, upd2_off _ _ _ (by omega), hf a ha]
    obtain ⟨ho3, h⟩ := h
    refine ⟨ho3, ?_⟩
    intro v134 ev134
    replace h := h v134 ev134
    replace hf : ∀ a, ¬ ((191 ≤ a ∧ a ≤ 194) ∨ a = 196) → v134 a = v a := fun a ha => by rw [ev134, upd2_off _ _ _ (by omega), hf a ha]
    obtain ⟨ho4, h⟩ := h
    refine ⟨ho4, ?_⟩
    intro v142 ev142
    replace h := h v142 ev142
    replace hf : ∀ a, ¬ ((191 ≤ a ∧ a ≤ 194) ∨ a = 196) → v142 a = v a := fun a ha => by rw [ev142, upd2_off _ _ _ (by omega), hf a ha]
    exact ⟨h, hf⟩
  · intro h
    intro X23 hKX23
    refine n_cut (h (fun (i4_1 : Int) (i5 : Int) (v23 : VT) => (∀ a, ¬ ((191 ≤ a ∧ a ≤ 194) ∨ a = 196) → v23 a = v a) → X23 i4_1 i5 v23)) ?_ ?_
    · intro i4_1 i5 v23 h hf
      refine hKX23 i4_1 i5 v23 ?_
      refine ⟨fun hc => ?_, fun hc => ?_⟩
      · replace h := h.1 hc
        exact h hf
      · replace h := h.2 hc
        refine ⟨fun hc => ?_, fun hc => ?_⟩
        · replace h := h.1 hc
          exact h hf
        · replace h := h.2 hc
          obtain ⟨ho5, h⟩ := h
          refine ⟨ho5, ?_⟩
          intro X42 hKX42
          refine n_cut (h (fun (i4_2 : Int) (i6 : Int) (v42 : VT) => (∀ a, ¬ ((191 ≤ a ∧ a ≤ 194) ∨ a = 196) → v42 a = v a) → X42 i4_2 i6 v42)) ?_ ?_
          · intro i4_2 i6 v42 h hf
            refine hKX42 i4_2 i6 v42 ?_
            refine ⟨fun hc => ?_, fun hc => ?_⟩
            · replace h := h.1 hc
              obtain ⟨ho6, h⟩ := h
              refine ⟨ho6, ?_⟩
              exact h hf
            · replace h := h.2 hc
              obtain ⟨ho7, h⟩ := h
              refine ⟨ho7, ?_⟩
              refine ⟨fun hc => ?_, fun hc => ?_⟩
              · replace h := h.1 hc
                obtain ⟨ho8, h⟩ := h
                refine ⟨ho8, ?_⟩
                exact h hf
              · replace h := h.2 hc
                obtain ⟨ho9, h⟩ := h
                refine ⟨ho9, ?_⟩
                refine N_X2_areAlike h (fun r73 h => ?_)
                refine ⟨fun hc => ?_, fun hc => ?_⟩
                · replace h := h.1 hc
                  obtain ⟨ho10, h⟩ := h
                  refine ⟨ho10, ?_⟩
                  exact h hf
                · replace h := h.2 hc
                  obtain ⟨ho11, h⟩ := h
                  refine ⟨ho11, ?_⟩
                  intro v89 ev89
                  replace h := h v89 ev89
                  replace hf : ∀ a, ¬ ((191 ≤ a ∧ a ≤ 194) ∨ a = 196) → v89 a = v a := fun a ha => by rw [ev89, upd2_off _ _ _ (by omega), hf a ha]
                  obtain ⟨ho12, h⟩ := h
                  refine ⟨ho12, ?_⟩
                  intro v98 ev98
                  replace h := h v98 ev98
                  replace hf : ∀ a, ¬ ((191 ≤ a ∧ a ≤ 194) ∨ a = 196) → v98 a = v a := fun a ha => by rw [ev98, upd2_off _ _ _ (by omega), hf a ha]
                  obtain ⟨ho13, h⟩ := h
                  refine ⟨ho13, ?_⟩
                  obtain ⟨ho14, h⟩ := h
                  refine ⟨ho14, ?_⟩
                  exact h hf
          · intro h
            exact h hf
    · intro h
      exact h hf
theorem N_X1_collect  {v : VT} {q q' : VT → Prop} (h : P_X1_collect  v q) (hq : ∀ w, q w → q' w) : P_X1_collect  v q' := by
  unfold P_X1_collect at h ⊢
  intro v2 ev2
  replace h := h v2 ev2
  intro K28 hKK28
  refine n_cut (h K28) ?_ ?_
  · intro v28 h
    refine hKK28 v28 ?_
    intro X30 hKX30
    refine n_cut (h X30) ?_ ?_
    · intro i3 v30 h
      refine hKX30 i3 v30 ?_
      refine ⟨fun hc => ?_, fun hc => ?_⟩
      · replace h := h.1 hc
        intro v63 ev63
        replace h := h v63 ev63
        exact hq _ h
      · replace h := h.2 hc
        obtain ⟨ho1, h⟩ := h
        refine ⟨ho1, ?_⟩
        refine ⟨fun hc => ?_, fun hc => ?_⟩
        · replace h := h.1 hc
          obtain ⟨ho2, h⟩ := h
          refine ⟨ho2, ?_⟩
          exact h
        · replace h := h.2 hc
          refine N_X1_collectFrom h (fun v52 h => ?_)
          obtain ⟨ho3, h⟩ := h
          refine ⟨ho3, ?_⟩
          exact h
    · intro h
      exact h
  · intro h
    intro X7 hKX7
    refine n_cut (h X7) ?_ ?_
    · intro i3_1 v7 h
      refine hKX7 i3_1 v7 ?_
      refine ⟨fun hc => ?_, fun hc => ?_⟩
      · replace h := h.1 hc
        exact h
      · replace h := h.2 hc
        obtain ⟨ho4, h⟩ := h
        refine ⟨ho4, ?_⟩
        intro v21 ev21
        replace h := h v21 ev21
        obtain ⟨ho5, h⟩ := h
        refine ⟨ho5, ?_⟩
        exact h
    · intro h
      exact h
theorem F_X1_collect  {v : VT} {q : VT → Prop} (h : P_X1_collect  v q) : P_X1_collect  v (fun w => q w ∧ ∀ a, ¬ ((191 ≤ a ∧ a ≤ 194) ∨ a = 196) → w a = v a) := by
  unfold P_X1_collect at h ⊢
  have hf : ∀ a, ¬ ((191 ≤ a ∧ a ≤ 194) ∨ a = 196) → v a = v a := fun a _ => rfl
  intro v2 ev2
  replace h := h v2 ev2
  replace hf : ∀ a, ¬ ((191 ≤ a ∧ a ≤ 194) ∨ a = 196) → v2 a = v a := fun a ha => by rw [ev2, upd2_off _ _ _ (by omega), hf a ha]
  intro K28 hKK28
  refine n_cut (h (fun (v28 : VT) => (∀ a, ¬ ((191 ≤ a ∧ a ≤ 194) ∨ a = 196) → v28 a = v a) → K28 v28)) ?_ ?_
  · intro v28 h hf
    refine hKK28 v28 ?_
    intro X30 hKX30
    refine n_cut (h (fun (i3 : Int) (v30 : VT) => (∀ a, ¬ ((191 ≤ a ∧ a ≤ 194) ∨ a = 196) → v30 a = v a) → X30 i3 v30)) ?_ ?_
    · intro i3 v30 h hf
      refine hKX30 i3 v30 ?_
      refine ⟨fun hc => ?_, fun hc => ?_⟩
      · replace h := h.1 hc
        intro v63 ev63
        replace h := h v63 ev63
        replace hf : ∀ a, ¬ ((191 ≤ a ∧ a ≤ 194) ∨ a = 196) → v63 a = v a := fun a ha => by rw [ev63, upd2_off _ _ _ (by omega), hf a ha]
        exact ⟨h, hf⟩
      · replace h := h.2 hc
        obtain ⟨ho1, h⟩ := h
        refine ⟨ho1, ?_⟩
        refine ⟨fun hc => ?_, fun hc => ?_⟩
        · replace h := h.1 hc
          obtain ⟨ho2, h⟩ := h
          refine ⟨ho2, ?_⟩
          exact h hf
        · replace h := h.2 hc
          refine N_X1_collectFrom (F_X1_collectFrom h) (fun v52 h => ?_)
          obtain ⟨h, hg⟩ := h
          replace hf : ∀ a, ¬ ((191 ≤ a ∧ a ≤ 194) ∨ a = 196) → v52 a = v a := fun a ha => by rw [hg a (by omega), hf a ha]
          clear hg
          obtain ⟨ho3, h⟩ := h
          refine ⟨ho3, ?_⟩
          exact h hf
    · intro h
      exact h hf
  · intro h
    intro X7 hKX7
    refine n_cut (h (fun (i3_1 : Int) (v7 : VT) => (∀ a, ¬ ((191 ≤ a ∧ a ≤ 194) ∨ a = 196) → v7 a = v a) → X7 i3_1 v7)) ?_ ?_
    · intro i3_1 v7 h hf
      refine hKX7 i3_1 v7 ?_
      refine ⟨fun hc => ?_, fun hc => ?_⟩
      · replace h := h.1 hc
        exact h hf
      · replace h := h.2 hc
        obtain ⟨ho4, h⟩ := h
        refine ⟨ho4, ?_⟩
        intro v21 ev21
        replace h := h v21 ev21
        replace hf : ∀ a, ¬ ((191 ≤ a ∧ a ≤ 194) ∨ a = 196) → v21 a = v a := fun a ha => by rw [ev21, upd2_off _ _ _ (by omega), hf a ha]
        obtain ⟨ho5, h⟩ := h
        refine ⟨ho5, ?_⟩
        exact h hf
    · intro h
      exact h hf
theorem N_X1_isFair  {v : VT} {q q' : Int → Prop} (h : P_X1_isFair  v q) (hq : ∀ r, q r → q' r) : P_X1_isFair  v q' := by
  unfold P_X1_isFair at h ⊢
  intro X2 hKX2
  refine n_cut (h X2) ?_ ?_
  · intro i2 h
    refine hKX2 i2 ?_
    refine ⟨fun hc => ?_, fun hc => ?_⟩
    · replace h := h.1 hc
      exact hq _ h
    · replace h := h.2 hc
      obtain ⟨ho1, h⟩ := h
      refine ⟨ho1, ?_⟩
      obtain ⟨ho2, h⟩ := h
      refine ⟨ho2, ?_⟩
      obtain ⟨ho3, h⟩ := h
      refine ⟨ho3, ?_⟩
      obtain ⟨ho4, h⟩ := h
      refine ⟨ho4, ?_⟩
      refine ⟨fun hc => ?_, fun hc => ?_⟩
      · replace h := h.1 hc
        obtain ⟨ho5, h⟩ := h
        refine ⟨ho5, ?_⟩
        exact h
      · replace h := h.2 hc
        exact hq _ h
  · intro h
    exact h
theorem N_X1_unite {x1 : Int} {x2 : Int} {x3 : Int} {v : VT} {q q' : VT → Prop} (h : P_X1_unite x1 x2 x3 v q) (hq : ∀ w, q w → q' w) : P_X1_unite x1 x2 x3 v q' := by
  unfold P_X1_unite at h ⊢
  intro X17 hKX17
  refine n_cut (h X17) ?_ ?_
  · intro i6 v17 h
    refine hKX17 i6 v17 ?_
    refine ⟨fun hc => ?_, fun hc => ?_⟩
    · replace h := h.1 hc
      exact hq _ h
    · replace h := h.2 hc
      obtain ⟨ho1, h⟩ := h
      refine ⟨ho1, ?_⟩
      refine ⟨fun hc => ?_, fun hc => ?_⟩
      · replace h := h.1 hc
        obtain ⟨ho2, h⟩ := h
        refine ⟨ho2, ?_⟩
        exact h
      · replace h := h.2 hc
        obtain ⟨ho3, h⟩ := h
        refine ⟨ho3, ?_⟩
        intro v43 ev43
        replace h := h v43 ev43
        obtain ⟨ho4, h⟩ := h
        refine ⟨ho4, ?_⟩
        exact h
  · intro h
    exact h
theorem F_X1_unite {x1 : Int} {x2 : Int} {x3 : Int} {v : VT} {q : VT → Prop} (h : P_X1_unite x1 x2 x3 v q) : P_X1_unite x1 x2 x3 v (fun w => q w ∧ ∀ a, ¬ (a = 195) → w a = v a) := by
  unfold P_X1_unite at h ⊢
  have hf : ∀ a, ¬ (a = 195) → v a = v a := fun a _ => rfl
  intro X17 hKX17
  refine n_cut (h (fun (i6 : Int) (v17 : VT) => (∀ a, ¬ (a = 195) → v17 a = v a) → X17 i6 v17)) ?_ ?_
  · intro i6 v17 h hf
    refine hKX17 i6 v17 ?_
    refine ⟨fun hc => ?_, fun hc => ?_⟩
    · replace h := h.1 hc
      exact ⟨h, hf⟩
    · replace h := h.2 hc
      obtain ⟨ho1, h⟩ := h
      refine ⟨ho1, ?_⟩
      refine ⟨fun hc => ?_, fun hc => ?_⟩
      · replace h := h.1 hc
        obtain ⟨ho2, h⟩ := h
        refine ⟨ho2, ?_⟩
        exact h hf
      · replace h := h.2 hc
        obtain ⟨ho3, h⟩ := h
        refine ⟨ho3, ?_⟩
        intro v43 ev43
        replace h := h v43 ev43
        replace hf : ∀ a, ¬ (a = 195) → v43 a = v a := fun a ha => by rw [ev43, upd2_off _ _ _ (by omega), hf a ha]
        obtain ⟨ho4, h⟩ := h
        refine ⟨ho4, ?_⟩
        exact h hf
  · intro h
    exact h hf
theorem N_X1_gather {x2 : Int} {v : VT} {q q' : VT → Prop} (h : P_X1_gather x2 v q) (hq : ∀ w, q w → q' w) : P_X1_gather x2 v q' := by
  unfold P_X1_gather at h ⊢
  intro K23 hKK23
  refine n_cut (h K23) ?_ ?_
  · intro v23 h
    refine hKK23 v23 ?_
    intro X25 hKX25
    refine n_cut (h X25) ?_ ?_
    · intro i3 v25 h
      refine hKX25 i3 v25 ?_
      refine ⟨fun hc => ?_, fun hc => ?_⟩
      · replace h := h.1 hc
        exact hq _ h
      · replace h := h.2 hc
        obtain ⟨ho1, h⟩ := h
        refine ⟨ho1, ?_⟩
        refine ⟨fun hc => ?_, fun hc => ?_⟩
        · replace h := h.1 hc
          obtain ⟨ho2, h⟩ := h
          refine ⟨ho2, ?_⟩
          exact h
        · replace h := h.2 hc
          obtain ⟨ho3, h⟩ := h
          refine ⟨ho3, ?_⟩
          obtain ⟨ho4, h⟩ := h
          refine ⟨ho4, ?_⟩
          obtain ⟨ho5, h⟩ := h
          refine ⟨ho5, ?_⟩
          obtain ⟨ho6, h⟩ := h
          refine ⟨ho6, ?_⟩
          refine N_X1_unite h (fun v70 h => ?_)
          obtain ⟨ho7, h⟩ := h
          refine ⟨ho7, ?_⟩
          exact h
    · intro h
      exact h
  · intro h
    intro X2 hKX2
    refine n_cut (h X2) ?_ ?_
    · intro i3_1 v2 h
      refine hKX2 i3_1 v2 ?_
      refine ⟨fun hc => ?_, fun hc => ?_⟩
      · replace h := h.1 hc
        exact h
      · replace h := h.2 hc
        obtain ⟨ho8, h⟩ := h
        refine ⟨ho8, ?_⟩
        intro v16 ev16
        replace h := h v16 ev16
        obtain ⟨ho9, h⟩ := h
        refine ⟨ho9, ?_⟩
        exact h
    · intro h
      exact h
theorem F_X1_gather {x2 : Int} {v : VT} {q : VT → Prop} (h : P_X1_gather x2 v q) : P_X1_gather x2 v (fun w => q w ∧ ∀ a, ¬ (a = 195) → w a = v a) := by
  unfold P_X1_gather at h ⊢
  have hf : ∀ a, ¬ (a = 195) → v a = v a := fun a _ => rfl
  intro K23 hKK23
  refine n_cut (h (fun (v23 : VT) => (∀ a, ¬ (a = 195) → v23 a = v a) → K23 v23)) ?_ ?_
  · intro v23 h hf
    refine hKK23 v23 ?_
    intro X25 hKX25
    refine n_cut (h (fun (i3 : Int) (v25 : VT) => (∀ a, ¬ (a = 195) → v25 a = v a) → X25 i3 v25)) ?_ ?_
    · intro i3 v25 h hf
      refine hKX25 i3 v25 ?_
      refine ⟨fun hc => ?_, fun hc => ?_⟩
      · replace h := h.1 hc
        exact ⟨h, hf⟩
      · replace h := h.2 hc
        obtain ⟨ho1, h⟩ := h
        refine ⟨ho1, ?_⟩
        refine ⟨fun hc => ?_, fun hc => ?_⟩
        · replace h := h.1 hc
          obtain ⟨ho2, h⟩ := h
          refine ⟨ho2, ?_⟩
          exact h hf
        · replace h := h.2 hc
          obtain ⟨ho3, h⟩ := h
          refine ⟨ho3, ?_⟩
          obtain ⟨ho4, h⟩ := h
          refine ⟨ho4, ?_⟩
          obtain ⟨ho5, h⟩ := h
          refine ⟨ho5, ?_⟩
          obtain ⟨ho6, h⟩ := h
          refine ⟨ho6, ?_⟩
          refine N_X1_unite (F_X1_unite h) (fun v70 h => ?_)
          obtain ⟨h, hg⟩ := h
          replace hf : ∀ a, ¬ (a = 195) → v70 a = v a := fun a ha => by rw [hg a (by omega), hf a ha]
          clear hg
          obtain ⟨ho7, h⟩ := h
          refine ⟨ho7, ?_⟩
          exact h hf
    · intro h
      exact h hf
  · intro h
    intro X2 hKX2
    refine n_cut (h (fun (i3_1 : Int) (v2 : VT) => (∀ a, ¬ (a = 195) → v2 a = v a) → X2 i3_1 v2)) ?_ ?_
    · intro i3_1 v2 h hf
      refine hKX2 i3_1 v2 ?_
      refine ⟨fun hc => ?_, fun hc => ?_⟩
      · replace h := h.1 hc
        exact h hf
      · replace h := h.2 hc
        obtain ⟨ho8, h⟩ := h
        refine ⟨ho8, ?_⟩
        intro v16 ev16
        replace h := h v16 ev16
        replace hf : ∀ a, ¬ (a = 195) → v16 a = v a := fun a ha => by rw [ev16, upd2_off _ _ _ (by omega), hf a ha]
        obtain ⟨ho9, h⟩ := h
        refine ⟨ho9, ?_⟩
        exact h hf
    · intro h
      exact h hf
theorem N_X2_measureFrom {x1 : Int} {v : VT} {q q' : VT → Prop} (h : P_X2_measureFrom x1 v q) (hq : ∀ w, q w → q' w) : P_X2_measureFrom x1 v q' := by
  unfold P_X2_measureFrom at h ⊢
  obtain ⟨ho1, h⟩ := h
  refine ⟨ho1, ?_⟩
  intro K27 hKK27
  refine n_cut (h K27) ?_ ?_
  · intro v27 h
    refine hKK27 v27 ?_
    intro K119 hKK119
    refine n_cut (h K119) ?_ ?_
    · intro i3 v119 h
      refine hKK119 i3 v119 ?_
      refine ⟨fun hc => ?_, fun hc => ?_⟩
      · replace h := h.1 hc
        intro v143 ev143
        replace h := h v143 ev143
        exact hq _ h
      · replace h := h.2 hc
        refine N_X10_allBits h (fun r132 h => ?_)
        refine ⟨fun hc => ?_, fun hc => ?_⟩
        · replace h := h.1 hc
          intro v143_1 ev143_1
          replace h := h v143_1 ev143_1
          exact hq _ h
        · replace h := h.2 hc
          intro v143_2 ev143_2
          replace h := h v143_2 ev143_2
          exact hq _ h
    · intro h
      intro X37 hKX37
      refine n_cut (h X37) ?_ ?_
      · intro i3_1 i4 i5 v37 h
        refine hKX37 i3_1 i4 i5 v37 ?_
        refine ⟨fun hc => ?_, fun hc => ?_⟩
        · replace h := h.1 hc
          exact h
        · replace h := h.2 hc
          refine ⟨fun hc => ?_, fun hc => ?_⟩
          · replace h := h.1 hc
            exact h
          · replace h := h.2 hc
            intro K100 hKK100
            refine n_cut (h K100) ?_ ?_
            · intro i6 v100 h
              refine hKK100 i6 v100 ?_
              intro l4 el4
              replace h := h l4 el4
              obtain ⟨ho2, h⟩ := h
              refine ⟨ho2, ?_⟩
              exact h
            · intro h
              intro X57 hKX57
              refine n_cut (h X57) ?_ ?_
              · intro i6_1 i7 v57 h
                refine hKX57 i6_1 i7 v57 ?_
                refine ⟨fun hc => ?_, fun hc => ?_⟩
                · replace h := h.1 hc
                  exact h
                · replace h := h.2 hc
                  refine N_X10_hasBit h (fun r70 h => ?_)
                  refine ⟨fun hc => ?_, fun hc => ?_⟩
                  · replace h := h.1 hc
                    obtain ⟨ho3, h⟩ := h
                    refine ⟨ho3, ?_⟩
                    exact h
                  · replace h := h.2 hc
                    obtain ⟨ho4, h⟩ := h
                    refine ⟨ho4, ?_⟩
                    intro v81 ev81
                    replace h := h v81 ev81
                    obtain ⟨ho5, h⟩ := h
                    refine ⟨ho5, ?_⟩
                    intro l6 el6
                    replace h := h l6 el6
                    obtain ⟨ho6, h⟩ := h
                    refine ⟨ho6, ?_⟩
                    exact h
              · intro h
                exact h
      · intro h
        exact h
  · intro h
    intro X9 hKX9
    refine n_cut (h X9) ?_ ?_
    · intro i3_2 v9 h
      refine hKX9 i3_2 v9 ?_
      refine ⟨fun hc => ?_, fun hc => ?_⟩
      · replace h := h.1 hc
        exact h
      · replace h := h.2 hc
        obtain ⟨ho7, h⟩ := h
        refine ⟨ho7, ?_⟩
        intro v20 ev20
        replace h := h v20 ev20
        obtain ⟨ho8, h⟩ := h
        refine ⟨ho8, ?_⟩
        exact h
    · intro h
      exact h
theorem F_X2_measureFrom {x1 : Int} {v : VT} {q : VT → Prop} (h : P_X2_measureFrom x1 v q) : P_X2_measureFrom x1 v (fun w => q w ∧ ∀ a, ¬ (a = 138 ∨ (141 ≤ a ∧ a ≤ 164)) → w a = v a) := by
  unfold P_X2_measureFrom at h ⊢
  have hf : ∀ a, ¬ (a = 138 ∨ (141 ≤ a ∧ a ≤ 164)) → v a = v a := fun a _ => rfl
  obtain ⟨ho1, h⟩ := h
  refine ⟨ho1, ?_⟩
  intro K27 hKK27
  refine n_cut (h (fun (v27 : VT) => (∀ a, ¬ (a = 138 ∨ (141 ≤ a ∧ a ≤ 164)) → v27 a = v a) → K27 v27)) ?_ ?_
  · intro v27 h hf
    refine hKK27 v27 ?_
    intro K119 hKK119
    refine n_cut (h (fun (i3 : Int) (v119 : VT) => (∀ a, ¬ (a = 138 ∨ (141 ≤ a ∧ a ≤ 164)) → v119 a = v a) → K119 i3 v119)) ?_ ?_
    · intro i3 v119 h hf
      refine hKK119 i3 v119 ?_
      refine ⟨fun hc => ?_, fun hc => ?_⟩
      · replace h := h.1 hc
        intro v143 ev143
        replace h := h v143 ev143
        replace hf : ∀ a, ¬ (a = 138 ∨ (141 ≤ a ∧ a ≤ 164)) → v143 a = v a := fun a ha => by rw [ev143, upd2_off _ _ _ (by omega), hf a ha]
        exact ⟨h, hf⟩
      · replace h := h.2 hc
        refine N_X10_allBits h (fun r132 h => ?_)
        refine ⟨fun hc => ?_, fun hc => ?_⟩
        · replace h := h.1 hc
          intro v143_1 ev143_1
          replace h := h v143_1 ev143_1
          replace hf : ∀ a, ¬ (a = 138 ∨ (141 ≤ a ∧ a ≤ 164)) → v143_1 a = v a := fun a ha => by rw [ev143_1, upd2_off _ _ _ (by omega), hf a ha]
          exact ⟨h, hf⟩
        · replace h := h.2 hc
          intro v143_2 ev143_2
          replace h := h v143_2 ev143_2
          replace hf : ∀ a, ¬ (a = 138 ∨ (141 ≤ a ∧ a ≤ 164)) → v143_2 a = v a := fun a ha => by rw [ev143_2, upd2_off _ _ _ (by omega), hf a ha]
          exact ⟨h, hf⟩
    · intro h
      intro X37 hKX37
      refine n_cut (h (fun (i3_1 : Int) (i4 : Int) (i5 : Int) (v37 : VT) => (∀ a, ¬ (a = 138 ∨ (141 ≤ a ∧ a ≤ 164)) → v37 a = v a) → X37 i3_1 i4 i5 v37)) ?_ ?_
      · intro i3_1 i4 i5 v37 h hf
        refine hKX37 i3_1 i4 i5 v37 ?_
        refine ⟨fun hc => ?_, fun hc => ?_⟩
        · replace h := h.1 hc
          exact h hf
        · replace h := h.2 hc
          refine ⟨fun hc => ?_, fun hc => ?_⟩
          · replace h := h.1 hc
            exact h hf
          · replace h := h.2 hc
            intro K100 hKK100
            refine n_cut (h (fun (i6 : Int) (v100 : VT) => (∀ a, ¬ (a = 138 ∨ (141 ≤ a ∧ a ≤ 164)) → v100 a = v a) → K100 i6 v100)) ?_ ?_
            · intro i6 v100 h hf
              refine hKK100 i6 v100 ?_
              intro l4 el4
              replace h := h l4 el4
              obtain ⟨ho2, h⟩ := h
              refine ⟨ho2, ?_⟩
              exact h hf
            · intro h
              intro X57 hKX57
              refine n_cut (h (fun (i6_1 : Int) (i7 : Int) (v57 : VT) => (∀ a, ¬ (a = 138 ∨ (141 ≤ a ∧ a ≤ 164)) → v57 a = v a) → X57 i6_1 i7 v57)) ?_ ?_
              · intro i6_1 i7 v57 h hf
                refine hKX57 i6_1 i7 v57 ?_
                refine ⟨fun hc => ?_, fun hc => ?_⟩
                · replace h := h.1 hc
                  exact h hf
                · replace h := h.2 hc
                  refine N_X10_hasBit h (fun r70 h => ?_)
                  refine ⟨fun hc => ?_, fun hc => ?_⟩
                  · replace h := h.1 hc
                    obtain ⟨ho3, h⟩ := h
                    refine ⟨ho3, ?_⟩
                    exact h hf
                  · replace h := h.2 hc
                    obtain ⟨ho4, h⟩ := h
                    refine ⟨ho4, ?_⟩
                    intro v81 ev81
                    replace h := h v81 ev81
                    replace hf : ∀ a, ¬ (a = 138 ∨ (141 ≤ a ∧ a ≤ 164)) → v81 a = v a := fun a ha => by rw [ev81, upd2_off _ _ _ (by omega), hf a ha]
                    obtain ⟨ho5, h⟩ := h
                    refine ⟨ho5, ?_⟩
                    intro l6 el6
                    replace h := h l6 el6
                    obtain ⟨ho6, h⟩ := h
                    refine ⟨ho6, ?_⟩
                    exact h hf
              · intro h
                exact h hf
      · intro h
        exact h hf
  · intro h
    intro X9 hKX9
    refine n_cut (h (fun (i3_2 : Int) (v9 : VT) => (∀ a, ¬ (a = 138 ∨ (141 ≤ a ∧ a ≤ 164)) → v9 a = v a) → X9 i3_2 v9)) ?_ ?_
    · intro i3_2 v9 h hf
      refine hKX9 i3_2 v9 ?_
      refine ⟨fun hc => ?_, fun hc => ?_⟩
      · replace h := h.1 hc
        exact h hf
      · replace h := h.2 hc
        obtain ⟨ho7, h⟩ := h
        refine ⟨ho7, ?_⟩
        intro v20 ev20
        replace h := h v20 ev20
        replace hf : ∀ a, ¬ (a = 138 ∨ (141 ≤ a ∧ a ≤ 164)) → v20 a = v a := fun a ha => by rw [ev20, upd2_off _ _ _ (by omega), hf a ha]
        obtain ⟨ho8, h⟩ := h
        refine ⟨ho8, ?_⟩
        exact h hf
    · intro h
      exact h hf
theorem N_X2_measure  {v : VT} {q q' : VT → Prop} (h : P_X2_measure  v q) (hq : ∀ w, q w → q' w) : P_X2_measure  v q' := by
  unfold P_X2_measure at h ⊢
  intro v5 ev5
  replace h := h v5 ev5
  intro v10 ev10
  replace h := h v10 ev10
  intro v15 ev15
  replace h := h v15 ev15
  intro K41 hKK41
  refine n_cut (h K41) ?_ ?_
  · intro v41 h
    refine hKK41 v41 ?_
    intro K101 hKK101
    refine n_cut (h K101) ?_ ?_
    · intro v101 h
      refine hKK101 v101 ?_
      intro X103 hKX103
      refine n_cut (h X103) ?_ ?_
      · intro i2 v103 h
        refine hKX103 i2 v103 ?_
        refine ⟨fun hc => ?_, fun hc => ?_⟩
        · replace h := h.1 hc
          intro v124 ev124
          replace h := h v124 ev124
          exact hq _ h
        · replace h := h.2 hc
          refine N_X2_measureFrom h (fun v113 h => ?_)
          obtain ⟨ho1, h⟩ := h
          refine ⟨ho1, ?_⟩
          exact h
      · intro h
        exact h
    · intro h
      intro X43 hKX43
      refine n_cut (h X43) ?_ ?_
      · intro i2_1 v43 h
        refine hKX43 i2_1 v43 ?_
        refine ⟨fun hc => ?_, fun hc => ?_⟩
        · replace h := h.1 hc
          exact h
        · replace h := h.2 hc
          obtain ⟨ho2, h⟩ := h
          refine ⟨ho2, ?_⟩
          obtain ⟨ho3, h⟩ := h
          refine ⟨ho3, ?_⟩
          obtain ⟨ho4, h⟩ := h
          refine ⟨ho4, ?_⟩
          obtain ⟨ho5, h⟩ := h
          refine ⟨ho5, ?_⟩
          intro v72 ev72
          replace h := h v72 ev72
          obtain ⟨ho6, h⟩ := h
          refine ⟨ho6, ?_⟩
          obtain ⟨ho7, h⟩ := h
          refine ⟨ho7, ?_⟩
          obtain ⟨ho8, h⟩ := h
          refine ⟨ho8, ?_⟩
          obtain ⟨ho9, h⟩ := h
          refine ⟨ho9, ?_⟩
          intro v94 ev94
          replace h := h v94 ev94
          obtain ⟨ho10, h⟩ := h
          refine ⟨ho10, ?_⟩
          exact h
      · intro h
        exact h
  · intro h
    intro X20 hKX20
    refine n_cut (h X20) ?_ ?_
    · intro i2_2 v20 h
      refine hKX20 i2_2 v20 ?_
      refine ⟨fun hc => ?_, fun hc => ?_⟩
      · replace h := h.1 hc
        exact h
      · replace h := h.2 hc
        obtain ⟨ho11, h⟩ := h
        refine ⟨ho11, ?_⟩
        intro v34 ev34
        replace h := h v34 ev34
        obtain ⟨ho12, h⟩ := h
        refine ⟨ho12, ?_⟩
        exact h
    · intro h
      exact h
theorem F_X2_measure  {v : VT} {q : VT → Prop} (h : P_X2_measure  v q) : P_X2_measure  v (fun w => q w ∧ ∀ a, ¬ ((138 ≤ a ∧ a ≤ 139) ∨ (141 ≤ a ∧ a ≤ 164)) → w a = v a) := by
  unfold P_X2_measure at h ⊢
  have hf : ∀ a, ¬ ((138 ≤ a ∧ a ≤ 139) ∨ (141 ≤ a ∧ a ≤ 164)) → v a = v a := fun a _ => rfl
  intro v5 ev5
  replace h := h v5 ev5
  replace hf : ∀ a, ¬ ((138 ≤ a ∧ a ≤ 139) ∨ (141 ≤ a ∧ a ≤ 164)) → v5 a = v a := fun a ha => by rw [ev5, upd2_off _ _ _ (by omega), hf a ha]
  intro v10 ev10
  replace h := h v10 ev10
  replace hf : ∀ a, ¬ ((138 ≤ a ∧ a ≤ 139) ∨ (141 ≤ a ∧ a ≤ 164)) → v10 a = v a := fun a ha => by rw [ev10, upd2_off _ _ _ (by omega), hf a ha]
  intro v15 ev15
  replace h := h v15 ev15
  replace hf : ∀ a, ¬ ((138 ≤ a ∧ a ≤ 139) ∨ (141 ≤ a ∧ a ≤ 164)) → v15 a = v a := fun a ha => by rw [ev15, upd2_off _ _ _ (by omega), hf a ha]
  intro K41 hKK41
  refine n_cut (h (fun (v41 : VT) => (∀ a, ¬ ((138 ≤ a ∧ a ≤ 139) ∨ (141 ≤ a ∧ a ≤ 164)) → v41 a = v a) → K41 v41)) ?_ ?_
  · intro v41 h hf
    refine hKK41 v41 ?_
    intro K101 hKK101
    refine n_cut (h (fun (v101 : VT) => (∀ a, ¬ ((138 ≤ a ∧ a ≤ 139) ∨ (141 ≤ a ∧ a ≤ 164)) → v101 a = v a) → K101 v101)) ?_ ?_
    · intro v101 h hf
      refine hKK101 v101 ?_
      intro X103 hKX103
      refine n_cut (h (fun (i2 : Int) (v103 : VT) => (∀ a, ¬ ((138 ≤ a ∧ a ≤ 139) ∨ (141 ≤ a ∧ a ≤ 164)) → v103 a = v a) → X103 i2 v103)) ?_ ?_
      · intro i2 v103 h hf
        refine hKX103 i2 v103 ?_
        refine ⟨fun hc => ?_, fun hc => ?_⟩
        · replace h := h.1 hc
          intro v124 ev124
          replace h := h v124 ev124
          replace hf : ∀ a, ¬ ((138 ≤ a ∧ a ≤ 139) ∨ (141 ≤ a ∧ a ≤ 164)) → v124 a = v a := fun a ha => by rw [ev124, upd2_off _ _ _ (by omega), hf a ha]
          exact ⟨h, hf⟩
        · replace h := h.2 hc
          refine N_X2_measureFrom (F_X2_measureFrom h) (fun v113 h => ?_)
          obtain ⟨h, hg⟩ := h
          replace hf : ∀ a, ¬ ((138 ≤ a ∧ a ≤ 139) ∨ (141 ≤ a ∧ a ≤ 164)) → v113 a = v a := fun a ha => by rw [hg a (by omega), hf a ha]
          clear hg
          obtain ⟨ho1, h⟩ := h
          refine ⟨ho1, ?_⟩
          exact h hf
      · intro h
        exact h hf
    · intro h
      intro X43 hKX43
      refine n_cut (h (fun (i2_1 : Int) (v43 : VT) => (∀ a, ¬ ((138 ≤ a ∧ a ≤ 139) ∨ (141 ≤ a ∧ a ≤ 164)) → v43 a = v a) → X43 i2_1 v43)) ?_ ?_
      · intro i2_1 v43 h hf
        refine hKX43 i2_1 v43 ?_
        refine ⟨fun hc => ?_, fun hc => ?_⟩
        · replace h := h.1 hc
          exact h hf
        · replace h := h.2 hc
          obtain ⟨ho2, h⟩ := h
          refine ⟨ho2, ?_⟩
          obtain ⟨ho3, h⟩ := h
          refine ⟨ho3, ?_⟩
          obtain ⟨ho4, h⟩ := h
          refine ⟨ho4, ?_⟩
          obtain ⟨ho5, h⟩ := h
          refine ⟨ho5, ?_⟩
          intro v72 ev72
          replace h := h v72 ev72
          replace hf : ∀ a, ¬ ((138 ≤ a ∧ a ≤ 139) ∨ (141 ≤ a ∧ a ≤ 164)) → v72 a = v a := fun a ha => by rw [ev72, upd2_off _ _ _ (by omega), hf a ha]
          obtain ⟨ho6, h⟩ := h
          refine ⟨ho6, ?_⟩
          obtain ⟨ho7, h⟩ := h
          refine ⟨ho7, ?_⟩
          obtain ⟨ho8, h⟩ := h
          refine ⟨ho8, ?_⟩
          obtain ⟨ho9, h⟩ := h
          refine ⟨ho9, ?_⟩
          intro v94 ev94
          replace h := h v94 ev94
          replace hf : ∀ a, ¬ ((138 ≤ a ∧ a ≤ 139) ∨ (141 ≤ a ∧ a ≤ 164)) → v94 a = v a := fun a ha => by rw [ev94, upd2_off _ _ _ (by omega), hf a ha]
          obtain ⟨ho10, h⟩ := h
          refine ⟨ho10, ?_⟩
          exact h hf
      · intro h
        exact h hf
  · intro h
    intro X20 hKX20
    refine n_cut (h (fun (i2_2 : Int) (v20 : VT) => (∀ a, ¬ ((138 ≤ a ∧ a ≤ 139) ∨ (141 ≤ a ∧ a ≤ 164)) → v20 a = v a) → X20 i2_2 v20)) ?_ ?_
    · intro i2_2 v20 h hf
      refine hKX20 i2_2 v20 ?_
      refine ⟨fun hc => ?_, fun hc => ?_⟩
      · replace h := h.1 hc
        exact h hf
      · replace h := h.2 hc
        obtain ⟨ho11, h⟩ := h
        refine ⟨ho11, ?_⟩
        intro v34 ev34
        replace h := h v34 ev34
        replace hf : ∀ a, ¬ ((138 ≤ a ∧ a ≤ 139) ∨ (141 ≤ a ∧ a ≤ 164)) → v34 a = v a := fun a ha => by rw [ev34, upd2_off _ _ _ (by omega), hf a ha]
        obtain ⟨ho12, h⟩ := h
        refine ⟨ho12, ?_⟩
        exact h hf
    · intro h
      exact h hf
theorem N_X2_countInto {x1 : Int} {x2 : Int} {v : VT} {q q' : Int → Prop} (h : P_X2_countInto x1 x2 v q) (hq : ∀ r, q r → q' r) : P_X2_countInto x1 x2 v q' := by
  unfold P_X2_countInto at h ⊢
  intro X5 hKX5
  refine n_cut (h X5) ?_ ?_
  · intro i3 i5 h
    refine hKX5 i3 i5 ?_
    refine ⟨fun hc => ?_, fun hc => ?_⟩
    · replace h := h.1 hc
      exact hq _ h
    · replace h := h.2 hc
      obtain ⟨ho1, h⟩ := h
      refine ⟨ho1, ?_⟩
      refine N_X10_hasBit h (fun r22 h => ?_)
      refine ⟨fun hc => ?_, fun hc => ?_⟩
      · replace h := h.1 hc
        obtain ⟨ho2, h⟩ := h
        refine ⟨ho2, ?_⟩
        exact h
      · replace h := h.2 hc
        obtain ⟨ho3, h⟩ := h
        refine ⟨ho3, ?_⟩
        obtain ⟨ho4, h⟩ := h
        refine ⟨ho4, ?_⟩
        obtain ⟨ho5, h⟩ := h
        refine ⟨ho5, ?_⟩
        obtain ⟨ho6, h⟩ := h
        refine ⟨ho6, ?_⟩
        obtain ⟨ho7, h⟩ := h
        refine ⟨ho7, ?_⟩
        refine ⟨fun hc => ?_, fun hc => ?_⟩
        · replace h := h.1 hc
          obtain ⟨ho8, h⟩ := h
          refine ⟨ho8, ?_⟩
          exact h
        · replace h := h.2 hc
          obtain ⟨ho9, h⟩ := h
          refine ⟨ho9, ?_⟩
          obtain ⟨ho10, h⟩ := h
          refine ⟨ho10, ?_⟩
          intro l3 el3
          replace h := h l3 el3
          obtain ⟨ho11, h⟩ := h
          refine ⟨ho11, ?_⟩
          exact h
  · intro h
    exact h
theorem N_X2_countWays {x1 : Int} {x2 : Int} {v : VT} {q q' : Int → VT → Prop} (h : P_X2_countWays x1 x2 v q) (hq : ∀ r w, q r w → q' r w) : P_X2_countWays x1 x2 v q' := by
  unfold P_X2_countWays at h ⊢
  obtain ⟨ho1, h⟩ := h
  refine ⟨ho1, ?_⟩
  obtain ⟨ho2, h⟩ := h
  refine ⟨ho2, ?_⟩
  refine ⟨fun hc => ?_, fun hc => ?_⟩
  · replace h := h.1 hc
    intro X16 hKX16
    refine n_cut (h X16) ?_ ?_
    · intro i3 v16 h
      refine hKX16 i3 v16 ?_
      obtain ⟨ho3, h⟩ := h
      refine ⟨ho3, ?_⟩
      obtain ⟨ho4, h⟩ := h
      refine ⟨ho4, ?_⟩
      refine ⟨fun hc => ?_, fun hc => ?_⟩
      · replace h := h.1 hc
        obtain ⟨ho5, h⟩ := h
        refine ⟨ho5, ?_⟩
        obtain ⟨ho6, h⟩ := h
        refine ⟨ho6, ?_⟩
        exact hq _ _ h
      · replace h := h.2 hc
        intro X31 hKX31
        refine n_cut (h X31) ?_ ?_
        · intro i4 v31 h
          refine hKX31 i4 v31 ?_
          refine ⟨fun hc => ?_, fun hc => ?_⟩
          · replace h := h.1 hc
            obtain ⟨ho7, h⟩ := h
            refine ⟨ho7, ?_⟩
            exact h
          · replace h := h.2 hc
            obtain ⟨ho8, h⟩ := h
            refine ⟨ho8, ?_⟩
            obtain ⟨ho9, h⟩ := h
            refine ⟨ho9, ?_⟩
            refine ⟨fun hc => ?_, fun hc => ?_⟩
            · replace h := h.1 hc
              obtain ⟨ho10, h⟩ := h
              refine ⟨ho10, ?_⟩
              exact h
            · replace h := h.2 hc
              refine ⟨fun hc => ?_, fun hc => ?_⟩
              · replace h := h.1 hc
                refine N_X2_countInto h (fun r71 h => ?_)
                obtain ⟨ho11, h⟩ := h
                refine ⟨ho11, ?_⟩
                intro v74 ev74
                replace h := h v74 ev74
                obtain ⟨ho12, h⟩ := h
                refine ⟨ho12, ?_⟩
                exact h
              · replace h := h.2 hc
                obtain ⟨ho13, h⟩ := h
                refine ⟨ho13, ?_⟩
                intro v74_1 ev74_1
                replace h := h v74_1 ev74_1
                obtain ⟨ho14, h⟩ := h
                refine ⟨ho14, ?_⟩
                exact h
        · intro h
          exact h
    · intro h
      exact h
  · replace h := h.2 hc
    exact hq _ _ h
theorem F_X2_countWays {x1 : Int} {x2 : Int} {v : VT} {q : Int → VT → Prop} (h : P_X2_countWays x1 x2 v q) : P_X2_countWays x1 x2 v (fun r w => q r w ∧ ∀ a, ¬ (a = 190) → w a = v a) := by
  unfold P_X2_countWays at h ⊢
  have hf : ∀ a, ¬ (a = 190) → v a = v a := fun a _ => rfl
  obtain ⟨ho1, h⟩ := h
  refine ⟨ho1, ?_⟩
  obtain ⟨ho2, h⟩ := h
  refine ⟨ho2, ?_⟩
  refine ⟨fun hc => ?_, fun hc => ?_⟩
  · replace h := h.1 hc
    intro X16 hKX16
    refine n_cut (h (fun (i3 : Int) (v16 : VT) => (∀ a, ¬ (a = 190) → v16 a = v a) → X16 i3 v16)) ?_ ?_
    · intro i3 v16 h hf
      refine hKX16 i3 v16 ?_
      obtain ⟨ho3, h⟩ := h
      refine ⟨ho3, ?_⟩
      obtain ⟨ho4, h⟩ := h
      refine ⟨ho4, ?_⟩
      refine ⟨fun hc => ?_, fun hc => ?_⟩
      · replace h := h.1 hc
        obtain ⟨ho5, h⟩ := h
        refine ⟨ho5, ?_⟩
        obtain ⟨ho6, h⟩ := h
        refine ⟨ho6, ?_⟩
        exact ⟨h, hf⟩
      · replace h := h.2 hc
        intro X31 hKX31
        refine n_cut (h (fun (i4 : Int) (v31 : VT) => (∀ a, ¬ (a = 190) → v31 a = v a) → X31 i4 v31)) ?_ ?_
        · intro i4 v31 h hf
          refine hKX31 i4 v31 ?_
          refine ⟨fun hc => ?_, fun hc => ?_⟩
          · replace h := h.1 hc
            obtain ⟨ho7, h⟩ := h
            refine ⟨ho7, ?_⟩
            exact h hf
          · replace h := h.2 hc
            obtain ⟨ho8, h⟩ := h
            refine ⟨ho8, ?_⟩
            obtain ⟨ho9, h⟩ := h
            refine ⟨ho9, ?_⟩
            refine ⟨fun hc => ?_, fun hc => ?_⟩
            · replace h := h.1 hc
              obtain ⟨ho10, h⟩ := h
              refine ⟨ho10, ?_⟩
              exact h hf
            · replace h := h.2 hc
              refine ⟨fun hc => ?_, fun hc => ?_⟩
              · replace h := h.1 hc
                refine N_X2_countInto h (fun r71 h => ?_)
                obtain ⟨ho11, h⟩ := h
                refine ⟨ho11, ?_⟩
                intro v74 ev74
                replace h := h v74 ev74
                replace hf : ∀ a, ¬ (a = 190) → v74 a = v a := fun a ha => by rw [ev74, upd2_off _ _ _ (by omega), hf a ha]
                obtain ⟨ho12, h⟩ := h
                refine ⟨ho12, ?_⟩
                exact h hf
              · replace h := h.2 hc
                obtain ⟨ho13, h⟩ := h
                refine ⟨ho13, ?_⟩
                intro v74_1 ev74_1
                replace h := h v74_1 ev74_1
                replace hf : ∀ a, ¬ (a = 190) → v74_1 a = v a := fun a ha => by rw [ev74_1, upd2_off _ _ _ (by omega), hf a ha]
                obtain ⟨ho14, h⟩ := h
                refine ⟨ho14, ?_⟩
                exact h hf
        · intro h
          exact h hf
    · intro h
      exact h hf
  · replace h := h.2 hc
    exact ⟨h, hf⟩
theorem N_X2_findAmid {x1 : Int} {x2 : Int} {v : VT} {q q' : Int → Prop} (h : P_X2_findAmid x1 x2 v q) (hq : ∀ r, q r → q' r) : P_X2_findAmid x1 x2 v q' := by
  unfold P_X2_findAmid at h ⊢
  obtain ⟨ho1, h⟩ := h
  refine ⟨ho1, ?_⟩
  obtain ⟨ho2, h⟩ := h
  refine ⟨ho2, ?_⟩
  intro l3 el3
  replace h := h l3 el3
  intro X15 hKX15
  refine n_cut (h X15) ?_ ?_
  · intro i4 i5 h
    refine hKX15 i4 i5 ?_
    refine ⟨fun hc => ?_, fun hc => ?_⟩
    · replace h := h.1 hc
      exact hq _ h
    · replace h := h.2 hc
      refine ⟨fun hc => ?_, fun hc => ?_⟩
      · replace h := h.1 hc
        exact hq _ h
      · replace h := h.2 hc
        obtain ⟨ho3, h⟩ := h
        refine ⟨ho3, ?_⟩
        obtain ⟨ho4, h⟩ := h
        refine ⟨ho4, ?_⟩
        refine ⟨fun hc => ?_, fun hc => ?_⟩
        · replace h := h.1 hc
          obtain ⟨ho5, h⟩ := h
          refine ⟨ho5, ?_⟩
          exact h
        · replace h := h.2 hc
          obtain ⟨ho6, h⟩ := h
          refine ⟨ho6, ?_⟩
          obtain ⟨ho7, h⟩ := h
          refine ⟨ho7, ?_⟩
          obtain ⟨ho8, h⟩ := h
          refine ⟨ho8, ?_⟩
          obtain ⟨ho9, h⟩ := h
          refine ⟨ho9, ?_⟩
          obtain ⟨ho10, h⟩ := h
          refine ⟨ho10, ?_⟩
          refine ⟨fun hc => ?_, fun hc => ?_⟩
          · replace h := h.1 hc
            obtain ⟨ho11, h⟩ := h
            refine ⟨ho11, ?_⟩
            exact h
          · replace h := h.2 hc
            intro l4 el4
            replace h := h l4 el4
            obtain ⟨ho12, h⟩ := h
            refine ⟨ho12, ?_⟩
            exact h
  · intro h
    exact h
theorem N_X2_amid {x1 : Int} {x2 : Int} {v : VT} {q q' : Int → VT → Prop} (h : P_X2_amid x1 x2 v q) (hq : ∀ r w, q r w → q' r w) : P_X2_amid x1 x2 v q' := by
  unfold P_X2_amid at h ⊢
  refine ⟨fun hc => ?_, fun hc => ?_⟩
  · replace h := h.1 hc
    obtain ⟨ho1, h⟩ := h
    refine ⟨ho1, ?_⟩
    obtain ⟨ho2, h⟩ := h
    refine ⟨ho2, ?_⟩
    exact hq _ _ h
  · replace h := h.2 hc
    intro K75 hKK75
    refine n_cut (h K75) ?_ ?_
    · intro v75 h
      refine hKK75 v75 ?_
      intro v77 ev77
      replace h := h v77 ev77
      obtain ⟨ho3, h⟩ := h
      refine ⟨ho3, ?_⟩
      obtain ⟨ho4, h⟩ := h
      refine ⟨ho4, ?_⟩
      exact hq _ _ h
    · intro h
      intro X9 hKX9
      refine n_cut (h X9) ?_ ?_
      · intro i3 v9 h
        refine hKX9 i3 v9 ?_
        refine ⟨fun hc => ?_, fun hc => ?_⟩
        · replace h := h.1 hc
          exact h
        · replace h := h.2 hc
          intro X20 hKX20
          refine n_cut (h X20) ?_ ?_
          · intro i4 v20 h
            refine hKX20 i4 v20 ?_
            refine ⟨fun hc => ?_, fun hc => ?_⟩
            · replace h := h.1 hc
              obtain ⟨ho5, h⟩ := h
              refine ⟨ho5, ?_⟩
              exact h
            · replace h := h.2 hc
              obtain ⟨ho6, h⟩ := h
              refine ⟨ho6, ?_⟩
              refine N_X2_findAmid h (fun r41 h => ?_)
              obtain ⟨ho7, h⟩ := h
              refine ⟨ho7, ?_⟩
              intro v44 ev44
              replace h := h v44 ev44
              obtain ⟨ho8, h⟩ := h
              refine ⟨ho8, ?_⟩
              obtain ⟨ho9, h⟩ := h
              refine ⟨ho9, ?_⟩
              obtain ⟨ho10, h⟩ := h
              refine ⟨ho10, ?_⟩
              obtain ⟨ho11, h⟩ := h
              refine ⟨ho11, ?_⟩
              intro v62 ev62
              replace h := h v62 ev62
              obtain ⟨ho12, h⟩ := h
              refine ⟨ho12, ?_⟩
              exact h
          · intro h
            exact h
      · intro h
        exact h
theorem F_X2_amid {x1 : Int} {x2 : Int} {v : VT} {q : Int → VT → Prop} (h : P_X2_amid x1 x2 v q) : P_X2_amid x1 x2 v (fun r w => q r w ∧ ∀ a, ¬ (a = 138 ∨ (166 ≤ a ∧ a ≤ 189)) → w a = v a) := by
  unfold P_X2_amid at h ⊢
  have hf : ∀ a, ¬ (a = 138 ∨ (166 ≤ a ∧ a ≤ 189)) → v a = v a := fun a _ => rfl
  refine ⟨fun hc => ?_, fun hc => ?_⟩
  · replace h := h.1 hc
    obtain ⟨ho1, h⟩ := h
    refine ⟨ho1, ?_⟩
    obtain ⟨ho2, h⟩ := h
    refine ⟨ho2, ?_⟩
    exact ⟨h, hf⟩
  · replace h := h.2 hc
    intro K75 hKK75
    refine n_cut (h (fun (v75 : VT) => (∀ a, ¬ (a = 138 ∨ (166 ≤ a ∧ a ≤ 189)) → v75 a = v a) → K75 v75)) ?_ ?_
    · intro v75 h hf
      refine hKK75 v75 ?_
      intro v77 ev77
      replace h := h v77 ev77
      replace hf : ∀ a, ¬ (a = 138 ∨ (166 ≤ a ∧ a ≤ 189)) → v77 a = v a := fun a ha => by rw [ev77, upd2_off _ _ _ (by omega), hf a ha]
      obtain ⟨ho3, h⟩ := h
      refine ⟨ho3, ?_⟩
      obtain ⟨ho4, h⟩ := h
      refine ⟨ho4, ?_⟩
      exact ⟨h, hf⟩
    · intro h
      intro X9 hKX9
      refine n_cut (h (fun (i3 : Int) (v9 : VT) => (∀ a, ¬ (a = 138 ∨ (166 ≤ a ∧ a ≤ 189)) → v9 a = v a) → X9 i3 v9)) ?_ ?_
      · intro i3 v9 h hf
        refine hKX9 i3 v9 ?_
        refine ⟨fun hc => ?_, fun hc => ?_⟩
        · replace h := h.1 hc
          exact h hf
        · replace h := h.2 hc
          intro X20 hKX20
          refine n_cut (h (fun (i4 : Int) (v20 : VT) => (∀ a, ¬ (a = 138 ∨ (166 ≤ a ∧ a ≤ 189)) → v20 a = v a) → X20 i4 v20)) ?_ ?_
          · intro i4 v20 h hf
            refine hKX20 i4 v20 ?_
            refine ⟨fun hc => ?_, fun hc => ?_⟩
            · replace h := h.1 hc
              obtain ⟨ho5, h⟩ := h
              refine ⟨ho5, ?_⟩
              exact h hf
            · replace h := h.2 hc
              obtain ⟨ho6, h⟩ := h
              refine ⟨ho6, ?_⟩
              refine N_X2_findAmid h (fun r41 h => ?_)
              obtain ⟨ho7, h⟩ := h
              refine ⟨ho7, ?_⟩
              intro v44 ev44
              replace h := h v44 ev44
              replace hf : ∀ a, ¬ (a = 138 ∨ (166 ≤ a ∧ a ≤ 189)) → v44 a = v a := fun a ha => by rw [ev44, upd2_off _ _ _ (by omega), hf a ha]
              obtain ⟨ho8, h⟩ := h
              refine ⟨ho8, ?_⟩
              obtain ⟨ho9, h⟩ := h
              refine ⟨ho9, ?_⟩
              obtain ⟨ho10, h⟩ := h
              refine ⟨ho10, ?_⟩
              obtain ⟨ho11, h⟩ := h
              refine ⟨ho11, ?_⟩
              intro v62 ev62
              replace h := h v62 ev62
              replace hf : ∀ a, ¬ (a = 138 ∨ (166 ≤ a ∧ a ≤ 189)) → v62 a = v a := fun a ha => by rw [ev62, upd2_off _ _ _ (by omega), hf a ha]
              obtain ⟨ho12, h⟩ := h
              refine ⟨ho12, ?_⟩
              exact h hf
          · intro h
            exact h hf
      · intro h
        exact h hf
theorem N_X2_mostFrom {x1 : Int} {v : VT} {q q' : Int → Prop} (h : P_X2_mostFrom x1 v q) (hq : ∀ r, q r → q' r) : P_X2_mostFrom x1 v q' := by
  unfold P_X2_mostFrom at h ⊢
  intro X4 hKX4
  refine n_cut (h X4) ?_ ?_
  · intro i2 i3 h
    refine hKX4 i2 i3 ?_
    refine ⟨fun hc => ?_, fun hc => ?_⟩
    · replace h := h.1 hc
      exact hq _ h
    · replace h := h.2 hc
      obtain ⟨ho1, h⟩ := h
      refine ⟨ho1, ?_⟩
      obtain ⟨ho2, h⟩ := h
      refine ⟨ho2, ?_⟩
      intro l2 el2
      replace h := h l2 el2
      obtain ⟨ho3, h⟩ := h
      refine ⟨ho3, ?_⟩
      exact h
  · intro h
    exact h
theorem N_X2_sumAll  {v : VT} {q q' : Int → Prop} (h : P_X2_sumAll  v q) (hq : ∀ r, q r → q' r) : P_X2_sumAll  v q' := by
  unfold P_X2_sumAll at h ⊢
  intro X4 hKX4
  refine n_cut (h X4) ?_ ?_
  · intro i1 i2 h
    refine hKX4 i1 i2 ?_
    refine ⟨fun hc => ?_, fun hc => ?_⟩
    · replace h := h.1 hc
      exact hq _ h
    · replace h := h.2 hc
      obtain ⟨ho1, h⟩ := h
      refine ⟨ho1, ?_⟩
      intro X16 hKX16
      refine n_cut (h X16) ?_ ?_
      · intro i1_1 i3 h
        refine hKX16 i1_1 i3 ?_
        refine ⟨fun hc => ?_, fun hc => ?_⟩
        · replace h := h.1 hc
          obtain ⟨ho2, h⟩ := h
          refine ⟨ho2, ?_⟩
          exact h
        · replace h := h.2 hc
          obtain ⟨ho3, h⟩ := h
          refine ⟨ho3, ?_⟩
          obtain ⟨ho4, h⟩ := h
          refine ⟨ho4, ?_⟩
          obtain ⟨ho5, h⟩ := h
          refine ⟨ho5, ?_⟩
          intro l1 el1
          replace h := h l1 el1
          obtain ⟨ho6, h⟩ := h
          refine ⟨ho6, ?_⟩
          exact h
      · intro h
        exact h
  · intro h
    exact h
theorem N_X2_firstWithoutMedian  {v : VT} {q q' : Int → VT → Prop} (h : P_X2_firstWithoutMedian  v q) (hq : ∀ r w, q r w → q' r w) : P_X2_firstWithoutMedian  v q' := by
  unfold P_X2_firstWithoutMedian at h ⊢
  intro K65 hKK65
  refine n_cut (h K65) ?_ ?_
  · intro i1 i2 i3 v65 h
    refine hKK65 i1 i2 i3 v65 ?_
    exact hq _ _ h
  · intro h
    intro X2 hKX2
    refine n_cut (h X2) ?_ ?_
    · intro i1_1 v2 h
      refine hKX2 i1_1 v2 ?_
      refine ⟨fun hc => ?_, fun hc => ?_⟩
      · replace h := h.1 hc
        exact hq _ _ h
      · replace h := h.2 hc
        obtain ⟨ho1, h⟩ := h
        refine ⟨ho1, ?_⟩
        intro X14 hKX14
        refine n_cut (h X14) ?_ ?_
        · intro i2_1 v14 h
          refine hKX14 i2_1 v14 ?_
          refine ⟨fun hc => ?_, fun hc => ?_⟩
          · replace h := h.1 hc
            obtain ⟨ho2, h⟩ := h
            refine ⟨ho2, ?_⟩
            exact h
          · replace h := h.2 hc
            obtain ⟨ho3, h⟩ := h
            refine ⟨ho3, ?_⟩
            intro X26 hKX26
            refine n_cut (h X26) ?_ ?_
            · intro i3_1 v26 h
              refine hKX26 i3_1 v26 ?_
              refine ⟨fun hc => ?_, fun hc => ?_⟩
              · replace h := h.1 hc
                obtain ⟨ho4, h⟩ := h
                refine ⟨ho4, ?_⟩
                exact h
              · replace h := h.2 hc
                refine N_X2_amid h (fun r37 v37 h => ?_)
                refine N_X2_amid h (fun r43 v43 h => ?_)
                refine N_X2_amid h (fun r50 v50 h => ?_)
                intro l4 el4
                replace h := h l4 el4
                refine N_J6_bitCount_0f7a4 h (fun r58 h => ?_)
                refine ⟨fun hc => ?_, fun hc => ?_⟩
                · replace h := h.1 hc
                  obtain ⟨ho5, h⟩ := h
                  refine ⟨ho5, ?_⟩
                  exact h
                · replace h := h.2 hc
                  exact h
            · intro h
              exact h
        · intro h
          exact h
    · intro h
      exact h
theorem F_X2_firstWithoutMedian  {v : VT} {q : Int → VT → Prop} (h : P_X2_firstWithoutMedian  v q) : P_X2_firstWithoutMedian  v (fun r w => q r w ∧ ∀ a, ¬ (a = 138 ∨ (166 ≤ a ∧ a ≤ 189)) → w a = v a) := by
  unfold P_X2_firstWithoutMedian at h ⊢
  have hf : ∀ a, ¬ (a = 138 ∨ (166 ≤ a ∧ a ≤ 189)) → v a = v a := fun a _ => rfl
  intro K65 hKK65
  refine n_cut (h (fun (i1 : Int) (i2 : Int) (i3 : Int) (v65 : VT) => (∀ a, ¬ (a = 138 ∨ (166 ≤ a ∧ a ≤ 189)) → v65 a = v a) → K65 i1 i2 i3 v65)) ?_ ?_
  · intro i1 i2 i3 v65 h hf
    refine hKK65 i1 i2 i3 v65 ?_
    exact ⟨h, hf⟩
  · intro h
    intro X2 hKX2
    refine n_cut (h (fun (i1_1 : Int) (v2 : VT) => (∀ a, ¬ (a = 138 ∨ (166 ≤ a ∧ a ≤ 189)) → v2 a = v a) → X2 i1_1 v2)) ?_ ?_
    · intro i1_1 v2 h hf
      refine hKX2 i1_1 v2 ?_
      refine ⟨fun hc => ?_, fun hc => ?_⟩
      · replace h := h.1 hc
        exact ⟨h, hf⟩
      · replace h := h.2 hc
        obtain ⟨ho1, h⟩ := h
        refine ⟨ho1, ?_⟩
        intro X14 hKX14
        refine n_cut (h (fun (i2_1 : Int) (v14 : VT) => (∀ a, ¬ (a = 138 ∨ (166 ≤ a ∧ a ≤ 189)) → v14 a = v a) → X14 i2_1 v14)) ?_ ?_
        · intro i2_1 v14 h hf
          refine hKX14 i2_1 v14 ?_
          refine ⟨fun hc => ?_, fun hc => ?_⟩
          · replace h := h.1 hc
            obtain ⟨ho2, h⟩ := h
            refine ⟨ho2, ?_⟩
            exact h hf
          · replace h := h.2 hc
            obtain ⟨ho3, h⟩ := h
            refine ⟨ho3, ?_⟩
            intro X26 hKX26
            refine n_cut (h (fun (i3_1 : Int) (v26 : VT) => (∀ a, ¬ (a = 138 ∨ (166 ≤ a ∧ a ≤ 189)) → v26 a = v a) → X26 i3_1 v26)) ?_ ?_
            · intro i3_1 v26 h hf
              refine hKX26 i3_1 v26 ?_
              refine ⟨fun hc => ?_, fun hc => ?_⟩
              · replace h := h.1 hc
                obtain ⟨ho4, h⟩ := h
                refine ⟨ho4, ?_⟩
                exact h hf
              · replace h := h.2 hc
                refine N_X2_amid (F_X2_amid h) (fun r37 v37 h => ?_)
                obtain ⟨h, hg⟩ := h
                replace hf : ∀ a, ¬ (a = 138 ∨ (166 ≤ a ∧ a ≤ 189)) → v37 a = v a := fun a ha => by rw [hg a (by omega), hf a ha]
                clear hg
                refine N_X2_amid (F_X2_amid h) (fun r43 v43 h => ?_)
                obtain ⟨h, hg⟩ := h
                replace hf : ∀ a, ¬ (a = 138 ∨ (166 ≤ a ∧ a ≤ 189)) → v43 a = v a := fun a ha => by rw [hg a (by omega), hf a ha]
                clear hg
                refine N_X2_amid (F_X2_amid h) (fun r50 v50 h => ?_)
                obtain ⟨h, hg⟩ := h
                replace hf : ∀ a, ¬ (a = 138 ∨ (166 ≤ a ∧ a ≤ 189)) → v50 a = v a := fun a ha => by rw [hg a (by omega), hf a ha]
                clear hg
                intro l4 el4
                replace h := h l4 el4
                refine N_J6_bitCount_0f7a4 h (fun r58 h => ?_)
                refine ⟨fun hc => ?_, fun hc => ?_⟩
                · replace h := h.1 hc
                  obtain ⟨ho5, h⟩ := h
                  refine ⟨ho5, ?_⟩
                  exact h hf
                · replace h := h.2 hc
                  exact h hf
            · intro h
              exact h hf
        · intro h
          exact h hf
    · intro h
      exact h hf
theorem N_X2_isTrueFrom {x1 : Int} {x2 : Int} {v : VT} {q q' : Int → Prop} (h : P_X2_isTrueFrom x1 x2 v q) (hq : ∀ r, q r → q' r) : P_X2_isTrueFrom x1 x2 v q' := by
  unfold P_X2_isTrueFrom at h ⊢
  intro X10 hKX10
  refine n_cut (h X10) ?_ ?_
  · intro i3 i4 i5 h
    refine hKX10 i3 i4 i5 ?_
    refine ⟨fun hc => ?_, fun hc => ?_⟩
    · replace h := h.1 hc
      refine ⟨fun hc => ?_, fun hc => ?_⟩
      · replace h := h.1 hc
        exact hq _ h
      · replace h := h.2 hc
        exact hq _ h
    · replace h := h.2 hc
      refine ⟨fun hc => ?_, fun hc => ?_⟩
      · replace h := h.1 hc
        refine ⟨fun hc => ?_, fun hc => ?_⟩
        · replace h := h.1 hc
          exact hq _ h
        · replace h := h.2 hc
          exact hq _ h
      · replace h := h.2 hc
        intro K83 hKK83
        refine n_cut (h K83) ?_ ?_
        · intro i6 h
          refine hKK83 i6 ?_
          intro l4 el4
          replace h := h l4 el4
          obtain ⟨ho1, h⟩ := h
          refine ⟨ho1, ?_⟩
          exact h
        · intro h
          intro X30 hKX30
          refine n_cut (h X30) ?_ ?_
          · intro i6_1 i7 h
            refine hKX30 i6_1 i7 ?_
            refine ⟨fun hc => ?_, fun hc => ?_⟩
            · replace h := h.1 hc
              exact h
            · replace h := h.2 hc
              refine N_X10_hasBit h (fun r43 h => ?_)
              refine ⟨fun hc => ?_, fun hc => ?_⟩
              · replace h := h.1 hc
                obtain ⟨ho2, h⟩ := h
                refine ⟨ho2, ?_⟩
                exact h
              · replace h := h.2 hc
                obtain ⟨ho3, h⟩ := h
                refine ⟨ho3, ?_⟩
                obtain ⟨ho4, h⟩ := h
                refine ⟨ho4, ?_⟩
                refine ⟨fun hc => ?_, fun hc => ?_⟩
                · replace h := h.1 hc
                  obtain ⟨ho5, h⟩ := h
                  refine ⟨ho5, ?_⟩
                  intro l6 el6
                  replace h := h l6 el6
                  obtain ⟨ho6, h⟩ := h
                  refine ⟨ho6, ?_⟩
                  exact h
                · replace h := h.2 hc
                  exact hq _ h
          · intro h
            exact h
  · intro h
    exact h
theorem N_X2_isTrue {x1 : Int} {v : VT} {q q' : Int → Prop} (h : P_X2_isTrue x1 v q) (hq : ∀ r, q r → q' r) : P_X2_isTrue x1 v q' := by
  unfold P_X2_isTrue at h ⊢
  intro X2 hKX2
  refine n_cut (h X2) ?_ ?_
  · intro i2 h
    refine hKX2 i2 ?_
    refine ⟨fun hc => ?_, fun hc => ?_⟩
    · replace h := h.1 hc
      exact hq _ h
    · replace h := h.2 hc
      refine N_X10_hasBit h (fun r12 h => ?_)
      refine ⟨fun hc => ?_, fun hc => ?_⟩
      · replace h := h.1 hc
        obtain ⟨ho1, h⟩ := h
        refine ⟨ho1, ?_⟩
        exact h
      · replace h := h.2 hc
        refine N_X2_isTrueFrom h (fun r21 h => ?_)
        refine ⟨fun hc => ?_, fun hc => ?_⟩
        · replace h := h.1 hc
          obtain ⟨ho2, h⟩ := h
          refine ⟨ho2, ?_⟩
          exact h
        · replace h := h.2 hc
          exact hq _ h
  · intro h
    exact h
theorem N_X2_widen {x1 : Int} {v : VT} {q q' : Int → VT → Prop} (h : P_X2_widen x1 v q) (hq : ∀ r w, q r w → q' r w) : P_X2_widen x1 v q' := by
  unfold P_X2_widen at h ⊢
  intro X4 hKX4
  refine n_cut (h X4) ?_ ?_
  · intro i2 i3 v4 h
    refine hKX4 i2 i3 v4 ?_
    refine ⟨fun hc => ?_, fun hc => ?_⟩
    · replace h := h.1 hc
      exact hq _ _ h
    · replace h := h.2 hc
      obtain ⟨ho1, h⟩ := h
      refine ⟨ho1, ?_⟩
      intro X17 hKX17
      refine n_cut (h X17) ?_ ?_
      · intro i2_1 i4 v17 h
        refine hKX17 i2_1 i4 v17 ?_
        refine N_X10_hasBit h (fun r19 h => ?_)
        refine ⟨fun hc => ?_, fun hc => ?_⟩
        · replace h := h.1 hc
          obtain ⟨ho2, h⟩ := h
          refine ⟨ho2, ?_⟩
          exact h
        · replace h := h.2 hc
          refine ⟨fun hc => ?_, fun hc => ?_⟩
          · replace h := h.1 hc
            obtain ⟨ho3, h⟩ := h
            refine ⟨ho3, ?_⟩
            exact h
          · replace h := h.2 hc
            refine N_X10_hasBit h (fun r37 h => ?_)
            refine ⟨fun hc => ?_, fun hc => ?_⟩
            · replace h := h.1 hc
              obtain ⟨ho4, h⟩ := h
              refine ⟨ho4, ?_⟩
              exact h
            · replace h := h.2 hc
              refine N_X2_amid h (fun r48 v48 h => ?_)
              intro l2 el2
              replace h := h l2 el2
              obtain ⟨ho5, h⟩ := h
              refine ⟨ho5, ?_⟩
              exact h
      · intro h
        exact h
  · intro h
    exact h
theorem F_X2_widen {x1 : Int} {v : VT} {q : Int → VT → Prop} (h : P_X2_widen x1 v q) : P_X2_widen x1 v (fun r w => q r w ∧ ∀ a, ¬ (a = 138 ∨ (166 ≤ a ∧ a ≤ 189)) → w a = v a) := by
  unfold P_X2_widen at h ⊢
  have hf : ∀ a, ¬ (a = 138 ∨ (166 ≤ a ∧ a ≤ 189)) → v a = v a := fun a _ => rfl
  intro X4 hKX4
  refine n_cut (h (fun (i2 : Int) (i3 : Int) (v4 : VT) => (∀ a, ¬ (a = 138 ∨ (166 ≤ a ∧ a ≤ 189)) → v4 a = v a) → X4 i2 i3 v4)) ?_ ?_
  · intro i2 i3 v4 h hf
    refine hKX4 i2 i3 v4 ?_
    refine ⟨fun hc => ?_, fun hc => ?_⟩
    · replace h := h.1 hc
      exact ⟨h, hf⟩
    · replace h := h.2 hc
      obtain ⟨ho1, h⟩ := h
      refine ⟨ho1, ?_⟩
      intro X17 hKX17
      refine n_cut (h (fun (i2_1 : Int) (i4 : Int) (v17 : VT) => (∀ a, ¬ (a = 138 ∨ (166 ≤ a ∧ a ≤ 189)) → v17 a = v a) → X17 i2_1 i4 v17)) ?_ ?_
      · intro i2_1 i4 v17 h hf
        refine hKX17 i2_1 i4 v17 ?_
        refine N_X10_hasBit h (fun r19 h => ?_)
        refine ⟨fun hc => ?_, fun hc => ?_⟩
        · replace h := h.1 hc
          obtain ⟨ho2, h⟩ := h
          refine ⟨ho2, ?_⟩
          exact h hf
        · replace h := h.2 hc
          refine ⟨fun hc => ?_, fun hc => ?_⟩
          · replace h := h.1 hc
            obtain ⟨ho3, h⟩ := h
            refine ⟨ho3, ?_⟩
            exact h hf
          · replace h := h.2 hc
            refine N_X10_hasBit h (fun r37 h => ?_)
            refine ⟨fun hc => ?_, fun hc => ?_⟩
            · replace h := h.1 hc
              obtain ⟨ho4, h⟩ := h
              refine ⟨ho4, ?_⟩
              exact h hf
            · replace h := h.2 hc
              refine N_X2_amid (F_X2_amid h) (fun r48 v48 h => ?_)
              obtain ⟨h, hg⟩ := h
              replace hf : ∀ a, ¬ (a = 138 ∨ (166 ≤ a ∧ a ≤ 189)) → v48 a = v a := fun a ha => by rw [hg a (by omega), hf a ha]
              clear hg
              intro l2 el2
              replace h := h l2 el2
              obtain ⟨ho5, h⟩ := h
              refine ⟨ho5, ?_⟩
              exact h hf
      · intro h
        exact h hf
  · intro h
    exact h hf
theorem N_X2_close {x1 : Int} {v : VT} {q q' : Int → VT → Prop} (h : P_X2_close x1 v q) (hq : ∀ r w, q r w → q' r w) : P_X2_close x1 v q' := by
  unfold P_X2_close at h ⊢
  intro X4 hKX4
  refine n_cut (h X4) ?_ ?_
  · intro i2 i3 v4 h
    refine hKX4 i2 i3 v4 ?_
    refine ⟨fun hc => ?_, fun hc => ?_⟩
    · replace h := h.1 hc
      exact hq _ _ h
    · replace h := h.2 hc
      refine N_X2_widen h (fun r12 v12 h => ?_)
      refine ⟨fun hc => ?_, fun hc => ?_⟩
      · replace h := h.1 hc
        obtain ⟨ho1, h⟩ := h
        refine ⟨ho1, ?_⟩
        exact h
      · replace h := h.2 hc
        exact hq _ _ h
  · intro h
    exact h
theorem F_X2_close {x1 : Int} {v : VT} {q : Int → VT → Prop} (h : P_X2_close x1 v q) : P_X2_close x1 v (fun r w => q r w ∧ ∀ a, ¬ (a = 138 ∨ (166 ≤ a ∧ a ≤ 189)) → w a = v a) := by
  unfold P_X2_close at h ⊢
  have hf : ∀ a, ¬ (a = 138 ∨ (166 ≤ a ∧ a ≤ 189)) → v a = v a := fun a _ => rfl
  intro X4 hKX4
  refine n_cut (h (fun (i2 : Int) (i3 : Int) (v4 : VT) => (∀ a, ¬ (a = 138 ∨ (166 ≤ a ∧ a ≤ 189)) → v4 a = v a) → X4 i2 i3 v4)) ?_ ?_
  · intro i2 i3 v4 h hf
    refine hKX4 i2 i3 v4 ?_
    refine ⟨fun hc => ?_, fun hc => ?_⟩
    · replace h := h.1 hc
      exact ⟨h, hf⟩
    · replace h := h.2 hc
      refine N_X2_widen (F_X2_widen h) (fun r12 v12 h => ?_)
      obtain ⟨h, hg⟩ := h
      replace hf : ∀ a, ¬ (a = 138 ∨ (166 ≤ a ∧ a ≤ 189)) → v12 a = v a := fun a ha => by rw [hg a (by omega), hf a ha]
      clear hg
      refine ⟨fun hc => ?_, fun hc => ?_⟩
      · replace h := h.1 hc
        obtain ⟨ho1, h⟩ := h
        refine ⟨ho1, ?_⟩
        exact h hf
      · replace h := h.2 hc
        exact ⟨h, hf⟩
  · intro h
    exact h hf
theorem N_X2_liesAhead {x1 : Int} {x2 : Int} {x3 : Int} {v : VT} {q q' : Int → Prop} (h : P_X2_liesAhead x1 x2 x3 v q) (hq : ∀ r, q r → q' r) : P_X2_liesAhead x1 x2 x3 v q' := by
  unfold P_X2_liesAhead at h ⊢
  intro X3 hKX3
  refine n_cut (h X3) ?_ ?_
  · intro i4 h
    refine hKX3 i4 ?_
    refine ⟨fun hc => ?_, fun hc => ?_⟩
    · replace h := h.1 hc
      exact hq _ h
    · replace h := h.2 hc
      refine N_X10_hasBit h (fun r15 h => ?_)
      refine ⟨fun hc => ?_, fun hc => ?_⟩
      · replace h := h.1 hc
        obtain ⟨ho1, h⟩ := h
        refine ⟨ho1, ?_⟩
        exact h
      · replace h := h.2 hc
        obtain ⟨ho2, h⟩ := h
        refine ⟨ho2, ?_⟩
        obtain ⟨ho3, h⟩ := h
        refine ⟨ho3, ?_⟩
        obtain ⟨ho4, h⟩ := h
        refine ⟨ho4, ?_⟩
        obtain ⟨ho5, h⟩ := h
        refine ⟨ho5, ?_⟩
        obtain ⟨ho6, h⟩ := h
        refine ⟨ho6, ?_⟩
        obtain ⟨ho7, h⟩ := h
        refine ⟨ho7, ?_⟩
        obtain ⟨ho8, h⟩ := h
        refine ⟨ho8, ?_⟩
        refine ⟨fun hc => ?_, fun hc => ?_⟩
        · replace h := h.1 hc
          obtain ⟨ho9, h⟩ := h
          refine ⟨ho9, ?_⟩
          exact h
        · replace h := h.2 hc
          exact hq _ h
  · intro h
    exact h
theorem N_X2_findGate {x1 : Int} {x2 : Int} {v : VT} {q q' : Int → Prop} (h : P_X2_findGate x1 x2 v q) (hq : ∀ r, q r → q' r) : P_X2_findGate x1 x2 v q' := by
  unfold P_X2_findGate at h ⊢
  intro X2 hKX2
  refine n_cut (h X2) ?_ ?_
  · intro i3 h
    refine hKX2 i3 ?_
    refine ⟨fun hc => ?_, fun hc => ?_⟩
    · replace h := h.1 hc
      exact hq _ h
    · replace h := h.2 hc
      refine N_X10_hasBit h (fun r12 h => ?_)
      refine ⟨fun hc => ?_, fun hc => ?_⟩
      · replace h := h.1 hc
        obtain ⟨ho1, h⟩ := h
        refine ⟨ho1, ?_⟩
        exact h
      · replace h := h.2 hc
        refine N_X2_liesAhead h (fun r22 h => ?_)
        refine ⟨fun hc => ?_, fun hc => ?_⟩
        · replace h := h.1 hc
          obtain ⟨ho2, h⟩ := h
          refine ⟨ho2, ?_⟩
          exact h
        · replace h := h.2 hc
          exact hq _ h
  · intro h
    exact h
theorem N_X3_forget  {v : VT} {q q' : VT → Prop} (h : P_X3_forget  v q) (hq : ∀ w, q w → q' w) : P_X3_forget  v q' := by
  unfold P_X3_forget at h ⊢
  intro v2 ev2
  replace h := h v2 ev2
  exact hq _ h
theorem F_X3_forget  {v : VT} {q : VT → Prop} (h : P_X3_forget  v q) : P_X3_forget  v (fun w => q w ∧ ∀ a, ¬ (a = 16) → w a = v a) := by
  unfold P_X3_forget at h ⊢
  have hf : ∀ a, ¬ (a = 16) → v a = v a := fun a _ => rfl
  intro v2 ev2
  replace h := h v2 ev2
  replace hf : ∀ a, ¬ (a = 16) → v2 a = v a := fun a ha => by rw [ev2, upd2_off _ _ _ (by omega), hf a ha]
  exact ⟨h, hf⟩
theorem N_X3_keep  {v : VT} {q q' : VT → Prop} (h : P_X3_keep  v q) (hq : ∀ w, q w → q' w) : P_X3_keep  v q' := by
  unfold P_X3_keep at h ⊢
  obtain ⟨ho1, h⟩ := h
  refine ⟨ho1, ?_⟩
  refine N_X0_takeFrom h (fun v10 h => ?_)
  obtain ⟨ho2, h⟩ := h
  refine ⟨ho2, ?_⟩
  intro v23 ev23
  replace h := h v23 ev23
  obtain ⟨ho3, h⟩ := h
  refine ⟨ho3, ?_⟩
  intro v38 ev38
  replace h := h v38 ev38
  exact hq _ h
theorem F_X3_keep  {v : VT} {q : VT → Prop} (h : P_X3_keep  v q) : P_X3_keep  v (fun w => q w ∧ ∀ a, ¬ (a = 16 ∨ (18 ≤ a ∧ a ≤ 137)) → w a = v a) := by
  unfold P_X3_keep at h ⊢
  have hf : ∀ a, ¬ (a = 16 ∨ (18 ≤ a ∧ a ≤ 137)) → v a = v a := fun a _ => rfl
  obtain ⟨ho1, h⟩ := h
  refine ⟨ho1, ?_⟩
  refine N_X0_takeFrom (F_X0_takeFrom h) (fun v10 h => ?_)
  obtain ⟨h, hg⟩ := h
  replace hf : ∀ a, ¬ (a = 16 ∨ (18 ≤ a ∧ a ≤ 137)) → v10 a = v a := fun a ha => by rw [hg a (by omega), hf a ha]
  clear hg
  obtain ⟨ho2, h⟩ := h
  refine ⟨ho2, ?_⟩
  intro v23 ev23
  replace h := h v23 ev23
  replace hf : ∀ a, ¬ (a = 16 ∨ (18 ≤ a ∧ a ≤ 137)) → v23 a = v a := fun a ha => by rw [ev23, upd2_off _ _ _ (by omega), hf a ha]
  obtain ⟨ho3, h⟩ := h
  refine ⟨ho3, ?_⟩
  intro v38 ev38
  replace h := h v38 ev38
  replace hf : ∀ a, ¬ (a = 16 ∨ (18 ≤ a ∧ a ≤ 137)) → v38 a = v a := fun a ha => by rw [ev38, upd2_off _ _ _ (by omega), hf a ha]
  exact ⟨h, hf⟩
theorem N_X3_bringBack  {v : VT} {q q' : VT → Prop} (h : P_X3_bringBack  v q) (hq : ∀ w, q w → q' w) : P_X3_bringBack  v q' := by
  unfold P_X3_bringBack at h ⊢
  refine ⟨fun hc => ?_, fun hc => ?_⟩
  · replace h := h.1 hc
    exact hq _ h
  · replace h := h.2 hc
    obtain ⟨ho1, h⟩ := h
    refine ⟨ho1, ?_⟩
    obtain ⟨ho2, h⟩ := h
    refine ⟨ho2, ?_⟩
    intro v20 ev20
    replace h := h v20 ev20
    obtain ⟨ho3, h⟩ := h
    refine ⟨ho3, ?_⟩
    intro v30 ev30
    replace h := h v30 ev30
    obtain ⟨ho4, h⟩ := h
    refine ⟨ho4, ?_⟩
    refine N_X0_takeFrom h (fun v43 h => ?_)
    exact hq _ h
theorem F_X3_bringBack  {v : VT} {q : VT → Prop} (h : P_X3_bringBack  v q) : P_X3_bringBack  v (fun w => q w ∧ ∀ a, ¬ ((10 ≤ a ∧ a ≤ 14) ∨ a = 16) → w a = v a) := by
  unfold P_X3_bringBack at h ⊢
  have hf : ∀ a, ¬ ((10 ≤ a ∧ a ≤ 14) ∨ a = 16) → v a = v a := fun a _ => rfl
  refine ⟨fun hc => ?_, fun hc => ?_⟩
  · replace h := h.1 hc
    exact ⟨h, hf⟩
  · replace h := h.2 hc
    obtain ⟨ho1, h⟩ := h
    refine ⟨ho1, ?_⟩
    obtain ⟨ho2, h⟩ := h
    refine ⟨ho2, ?_⟩
    intro v20 ev20
    replace h := h v20 ev20
    replace hf : ∀ a, ¬ ((10 ≤ a ∧ a ≤ 14) ∨ a = 16) → v20 a = v a := fun a ha => by rw [ev20, upd2_off _ _ _ (by omega), hf a ha]
    obtain ⟨ho3, h⟩ := h
    refine ⟨ho3, ?_⟩
    intro v30 ev30
    replace h := h v30 ev30
    replace hf : ∀ a, ¬ ((10 ≤ a ∧ a ≤ 14) ∨ a = 16) → v30 a = v a := fun a ha => by rw [ev30, upd2_off _ _ _ (by omega), hf a ha]
    obtain ⟨ho4, h⟩ := h
    refine ⟨ho4, ?_⟩
    refine N_X0_takeFrom (F_X0_takeFrom h) (fun v43 h => ?_)
    obtain ⟨h, hg⟩ := h
    replace hf : ∀ a, ¬ ((10 ≤ a ∧ a ≤ 14) ∨ a = 16) → v43 a = v a := fun a ha => by rw [hg a (by omega), hf a ha]
    clear hg
    exact ⟨h, hf⟩
theorem N_X4_add {x1 : Int} {v : VT} {q q' : VT → Prop} (h : P_X4_add x1 v q) (hq : ∀ w, q w → q' w) : P_X4_add x1 v q' := by
  unfold P_X4_add at h ⊢
  refine ⟨fun hc => ?_, fun hc => ?_⟩
  · replace h := h.1 hc
    exact hq _ h
  · replace h := h.2 hc
    obtain ⟨ho1, h⟩ := h
    refine ⟨ho1, ?_⟩
    intro v21 ev21
    replace h := h v21 ev21
    obtain ⟨ho2, h⟩ := h
    refine ⟨ho2, ?_⟩
    intro v29 ev29
    replace h := h v29 ev29
    exact hq _ h
theorem F_X4_add {x1 : Int} {v : VT} {q : VT → Prop} (h : P_X4_add x1 v q) : P_X4_add x1 v (fun w => q w ∧ ∀ a, ¬ ((205 ≤ a ∧ a ≤ 206)) → w a = v a) := by
  unfold P_X4_add at h ⊢
  have hf : ∀ a, ¬ ((205 ≤ a ∧ a ≤ 206)) → v a = v a := fun a _ => rfl
  refine ⟨fun hc => ?_, fun hc => ?_⟩
  · replace h := h.1 hc
    exact ⟨h, hf⟩
  · replace h := h.2 hc
    obtain ⟨ho1, h⟩ := h
    refine ⟨ho1, ?_⟩
    intro v21 ev21
    replace h := h v21 ev21
    replace hf : ∀ a, ¬ ((205 ≤ a ∧ a ≤ 206)) → v21 a = v a := fun a ha => by rw [ev21, upd2_off _ _ _ (by omega), hf a ha]
    obtain ⟨ho2, h⟩ := h
    refine ⟨ho2, ?_⟩
    intro v29 ev29
    replace h := h v29 ev29
    replace hf : ∀ a, ¬ ((205 ≤ a ∧ a ≤ 206)) → v29 a = v a := fun a ha => by rw [ev29, upd2_off _ _ _ (by omega), hf a ha]
    exact ⟨h, hf⟩
theorem N_X4_checkOf {a0 : Nat} {n0 : Nat} {x1 : Int} {v : VT} {q q' : Int → Prop} (h : P_X4_checkOf a0 n0 x1 v q) (hq : ∀ r, q r → q' r) : P_X4_checkOf a0 n0 x1 v q' := by
  unfold P_X4_checkOf at h ⊢
  intro X6 hKX6
  refine n_cut (h X6) ?_ ?_
  · intro i2 i3 h
    refine hKX6 i2 i3 ?_
    refine ⟨fun hc => ?_, fun hc => ?_⟩
    · replace h := h.1 hc
      exact hq _ h
    · replace h := h.2 hc
      refine ⟨fun hc => ?_, fun hc => ?_⟩
      · replace h := h.1 hc
        exact hq _ h
      · replace h := h.2 hc
        obtain ⟨ho1, h⟩ := h
        refine ⟨ho1, ?_⟩
        obtain ⟨ho2, h⟩ := h
        refine ⟨ho2, ?_⟩
        obtain ⟨ho3, h⟩ := h
        refine ⟨ho3, ?_⟩
        intro l2 el2
        replace h := h l2 el2
        obtain ⟨ho4, h⟩ := h
        refine ⟨ho4, ?_⟩
        exact h
  · intro h
    exact h
theorem N_X4_write  {v : VT} {q q' : VT → Prop} (h : P_X4_write  v q) (hq : ∀ w, q w → q' w) : P_X4_write  v q' := by
  unfold P_X4_write at h ⊢
  intro v2 ev2
  replace h := h v2 ev2
  refine N_X4_add h (fun v10 h => ?_)
  refine N_X4_add h (fun v18 h => ?_)
  intro X23 hKX23
  refine n_cut (h X23) ?_ ?_
  · intro i2 v23 h
    refine hKX23 i2 v23 ?_
    refine ⟨fun hc => ?_, fun hc => ?_⟩
    · replace h := h.1 hc
      refine N_X4_checkOf h (fun r66 h => ?_)
      refine N_X4_add h (fun v69 h => ?_)
      exact hq _ h
    · replace h := h.2 hc
      obtain ⟨ho1, h⟩ := h
      refine ⟨ho1, ?_⟩
      refine N_X4_add h (fun v38 h => ?_)
      obtain ⟨ho2, h⟩ := h
      refine ⟨ho2, ?_⟩
      refine N_X4_add h (fun v48 h => ?_)
      obtain ⟨ho3, h⟩ := h
      refine ⟨ho3, ?_⟩
      exact h
  · intro h
    exact h
theorem F_X4_write  {v : VT} {q : VT → Prop} (h : P_X4_write  v q) : P_X4_write  v (fun w => q w ∧ ∀ a, ¬ ((205 ≤ a ∧ a ≤ 206)) → w a = v a) := by
  unfold P_X4_write at h ⊢
  have hf : ∀ a, ¬ ((205 ≤ a ∧ a ≤ 206)) → v a = v a := fun a _ => rfl
  intro v2 ev2
  replace h := h v2 ev2
  replace hf : ∀ a, ¬ ((205 ≤ a ∧ a ≤ 206)) → v2 a = v a := fun a ha => by rw [ev2, upd2_off _ _ _ (by omega), hf a ha]
  refine N_X4_add (F_X4_add h) (fun v10 h => ?_)
  obtain ⟨h, hg⟩ := h
  replace hf : ∀ a, ¬ ((205 ≤ a ∧ a ≤ 206)) → v10 a = v a := fun a ha => by rw [hg a (by omega), hf a ha]
  clear hg
  refine N_X4_add (F_X4_add h) (fun v18 h => ?_)
  obtain ⟨h, hg⟩ := h
  replace hf : ∀ a, ¬ ((205 ≤ a ∧ a ≤ 206)) → v18 a = v a := fun a ha => by rw [hg a (by omega), hf a ha]
  clear hg
  intro X23 hKX23
  refine n_cut (h (fun (i2 : Int) (v23 : VT) => (∀ a, ¬ ((205 ≤ a ∧ a ≤ 206)) → v23 a = v a) → X23 i2 v23)) ?_ ?_
  · intro i2 v23 h hf
    refine hKX23 i2 v23 ?_
    refine ⟨fun hc => ?_, fun hc => ?_⟩
    · replace h := h.1 hc
      refine N_X4_checkOf h (fun r66 h => ?_)
      refine N_X4_add (F_X4_add h) (fun v69 h => ?_)
      obtain ⟨h, hg⟩ := h
      replace hf : ∀ a, ¬ ((205 ≤ a ∧ a ≤ 206)) → v69 a = v a := fun a ha => by rw [hg a (by omega), hf a ha]
      clear hg
      exact ⟨h, hf⟩
    · replace h := h.2 hc
      obtain ⟨ho1, h⟩ := h
      refine ⟨ho1, ?_⟩
      refine N_X4_add (F_X4_add h) (fun v38 h => ?_)
      obtain ⟨h, hg⟩ := h
      replace hf : ∀ a, ¬ ((205 ≤ a ∧ a ≤ 206)) → v38 a = v a := fun a ha => by rw [hg a (by omega), hf a ha]
      clear hg
      obtain ⟨ho2, h⟩ := h
      refine ⟨ho2, ?_⟩
      refine N_X4_add (F_X4_add h) (fun v48 h => ?_)
      obtain ⟨h, hg⟩ := h
      replace hf : ∀ a, ¬ ((205 ≤ a ∧ a ≤ 206)) → v48 a = v a := fun a ha => by rw [hg a (by omega), hf a ha]
      clear hg
      obtain ⟨ho3, h⟩ := h
      refine ⟨ho3, ?_⟩
      exact h hf
  · intro h
    exact h hf
theorem N_X9_byteAt {x1 : Int} {v : VT} {q q' : Int → Prop} (h : P_X9_byteAt x1 v q) (hq : ∀ r, q r → q' r) : P_X9_byteAt x1 v q' := by
  unfold P_X9_byteAt at h ⊢
  refine ⟨fun hc => ?_, fun hc => ?_⟩
  · replace h := h.1 hc
    exact hq _ h
  · replace h := h.2 hc
    refine ⟨fun hc => ?_, fun hc => ?_⟩
    · replace h := h.1 hc
      exact hq _ h
    · replace h := h.2 hc
      obtain ⟨ho1, h⟩ := h
      refine ⟨ho1, ?_⟩
      exact hq _ h
theorem N_X4_read  {v : VT} {q q' : Int → VT → Prop} (h : P_X4_read  v q) (hq : ∀ r w, q r w → q' r w) : P_X4_read  v q' := by
  unfold P_X4_read at h ⊢
  refine N_X9_byteAt h (fun r2 h => ?_)
  refine N_X9_byteAt h (fun r8 h => ?_)
  refine ⟨fun hc => ?_, fun hc => ?_⟩
  · replace h := h.1 hc
    exact hq _ _ h
  · replace h := h.2 hc
    refine ⟨fun hc => ?_, fun hc => ?_⟩
    · replace h := h.1 hc
      exact hq _ _ h
    · replace h := h.2 hc
      refine ⟨fun hc => ?_, fun hc => ?_⟩
      · replace h := h.1 hc
        exact hq _ _ h
      · replace h := h.2 hc
        refine ⟨fun hc => ?_, fun hc => ?_⟩
        · replace h := h.1 hc
          exact hq _ _ h
        · replace h := h.2 hc
          obtain ⟨ho1, h⟩ := h
          refine ⟨ho1, ?_⟩
          obtain ⟨ho2, h⟩ := h
          refine ⟨ho2, ?_⟩
          refine ⟨fun hc => ?_, fun hc => ?_⟩
          · replace h := h.1 hc
            obtain ⟨ho3, h⟩ := h
            refine ⟨ho3, ?_⟩
            refine N_X9_byteAt h (fun r54 h => ?_)
            obtain ⟨ho4, h⟩ := h
            refine ⟨ho4, ?_⟩
            refine N_X4_checkOf h (fun r67 h => ?_)
            refine ⟨fun hc => ?_, fun hc => ?_⟩
            · replace h := h.1 hc
              refine N_X0_wipe h (fun v79 h => ?_)
              intro K105 hKK105
              refine n_cut (h K105) ?_ ?_
              · intro v105 h
                refine hKK105 v105 ?_
                intro X108 hKX108
                refine n_cut (h X108) ?_ ?_
                · intro i4 v108 h
                  refine hKX108 i4 v108 ?_
                  refine ⟨fun hc => ?_, fun hc => ?_⟩
                  · replace h := h.1 hc
                    exact hq _ _ h
                  · replace h := h.2 hc
                    obtain ⟨ho5, h⟩ := h
                    refine ⟨ho5, ?_⟩
                    obtain ⟨ho6, h⟩ := h
                    refine ⟨ho6, ?_⟩
                    refine N_X9_byteAt h (fun r121 h => ?_)
                    obtain ⟨ho7, h⟩ := h
                    refine ⟨ho7, ?_⟩
                    obtain ⟨ho8, h⟩ := h
                    refine ⟨ho8, ?_⟩
                    refine N_X9_byteAt h (fun r133 h => ?_)
                    refine ⟨fun hc => ?_, fun hc => ?_⟩
                    · replace h := h.1 hc
                      exact hq _ _ h
                    · replace h := h.2 hc
                      refine N_X0_canJoin h (fun r153 h => ?_)
                      refine ⟨fun hc => ?_, fun hc => ?_⟩
                      · replace h := h.1 hc
                        refine N_X0_addLine h (fun v170 h => ?_)
                        obtain ⟨ho9, h⟩ := h
                        refine ⟨ho9, ?_⟩
                        exact h
                      · replace h := h.2 hc
                        exact hq _ _ h
                · intro h
                  exact h
              · intro h
                intro X85 hKX85
                refine n_cut (h X85) ?_ ?_
                · intro i4_1 v85 h
                  refine hKX85 i4_1 v85 ?_
                  refine ⟨fun hc => ?_, fun hc => ?_⟩
                  · replace h := h.1 hc
                    exact h
                  · replace h := h.2 hc
                    refine N_X0_addNode h (fun v96 h => ?_)
                    obtain ⟨ho10, h⟩ := h
                    refine ⟨ho10, ?_⟩
                    exact h
                · intro h
                  exact h
            · replace h := h.2 hc
              exact hq _ _ h
          · replace h := h.2 hc
            exact hq _ _ h
theorem F_X4_read  {v : VT} {q : Int → VT → Prop} (h : P_X4_read  v q) : P_X4_read  v (fun r w => q r w ∧ ∀ a, ¬ ((207 ≤ a ∧ a ≤ 211)) → w a = v a) := by
  unfold P_X4_read at h ⊢
  have hf : ∀ a, ¬ ((207 ≤ a ∧ a ≤ 211)) → v a = v a := fun a _ => rfl
  refine N_X9_byteAt h (fun r2 h => ?_)
  refine N_X9_byteAt h (fun r8 h => ?_)
  refine ⟨fun hc => ?_, fun hc => ?_⟩
  · replace h := h.1 hc
    exact ⟨h, hf⟩
  · replace h := h.2 hc
    refine ⟨fun hc => ?_, fun hc => ?_⟩
    · replace h := h.1 hc
      exact ⟨h, hf⟩
    · replace h := h.2 hc
      refine ⟨fun hc => ?_, fun hc => ?_⟩
      · replace h := h.1 hc
        exact ⟨h, hf⟩
      · replace h := h.2 hc
        refine ⟨fun hc => ?_, fun hc => ?_⟩
        · replace h := h.1 hc
          exact ⟨h, hf⟩
        · replace h := h.2 hc
          obtain ⟨ho1, h⟩ := h
          refine ⟨ho1, ?_⟩
          obtain ⟨ho2, h⟩ := h
          refine ⟨ho2, ?_⟩
          refine ⟨fun hc => ?_, fun hc => ?_⟩
          · replace h := h.1 hc
            obtain ⟨ho3, h⟩ := h
            refine ⟨ho3, ?_⟩
            refine N_X9_byteAt h (fun r54 h => ?_)
            obtain ⟨ho4, h⟩ := h
            refine ⟨ho4, ?_⟩
            refine N_X4_checkOf h (fun r67 h => ?_)
            refine ⟨fun hc => ?_, fun hc => ?_⟩
            · replace h := h.1 hc
              refine N_X0_wipe (F_X0_wipe h) (fun v79 h => ?_)
              obtain ⟨h, hg⟩ := h
              replace hf : ∀ a, ¬ ((207 ≤ a ∧ a ≤ 211)) → v79 a = v a := fun a ha => by rw [hg a (by omega), hf a ha]
              clear hg
              intro K105 hKK105
              refine n_cut (h (fun (v105 : VT) => (∀ a, ¬ ((207 ≤ a ∧ a ≤ 211)) → v105 a = v a) → K105 v105)) ?_ ?_
              · intro v105 h hf
                refine hKK105 v105 ?_
                intro X108 hKX108
                refine n_cut (h (fun (i4 : Int) (v108 : VT) => (∀ a, ¬ ((207 ≤ a ∧ a ≤ 211)) → v108 a = v a) → X108 i4 v108)) ?_ ?_
                · intro i4 v108 h hf
                  refine hKX108 i4 v108 ?_
                  refine ⟨fun hc => ?_, fun hc => ?_⟩
                  · replace h := h.1 hc
                    exact ⟨h, hf⟩
                  · replace h := h.2 hc
                    obtain ⟨ho5, h⟩ := h
                    refine ⟨ho5, ?_⟩
                    obtain ⟨ho6, h⟩ := h
                    refine ⟨ho6, ?_⟩
                    refine N_X9_byteAt h (fun r121 h => ?_)
                    obtain ⟨ho7, h⟩ := h
                    refine ⟨ho7, ?_⟩
                    obtain ⟨ho8, h⟩ := h
                    refine ⟨ho8, ?_⟩
                    refine N_X9_byteAt h (fun r133 h => ?_)
                    refine ⟨fun hc => ?_, fun hc => ?_⟩
                    · replace h := h.1 hc
                      exact ⟨h, hf⟩
                    · replace h := h.2 hc
                      refine N_X0_canJoin h (fun r153 h => ?_)
                      refine ⟨fun hc => ?_, fun hc => ?_⟩
                      · replace h := h.1 hc
                        refine N_X0_addLine (F_X0_addLine h) (fun v170 h => ?_)
                        obtain ⟨h, hg⟩ := h
                        replace hf : ∀ a, ¬ ((207 ≤ a ∧ a ≤ 211)) → v170 a = v a := fun a ha => by rw [hg a (by omega), hf a ha]
                        clear hg
                        obtain ⟨ho9, h⟩ := h
                        refine ⟨ho9, ?_⟩
                        exact h hf
                      · replace h := h.2 hc
                        exact ⟨h, hf⟩
                · intro h
                  exact h hf
              · intro h
                intro X85 hKX85
                refine n_cut (h (fun (i4_1 : Int) (v85 : VT) => (∀ a, ¬ ((207 ≤ a ∧ a ≤ 211)) → v85 a = v a) → X85 i4_1 v85)) ?_ ?_
                · intro i4_1 v85 h hf
                  refine hKX85 i4_1 v85 ?_
                  refine ⟨fun hc => ?_, fun hc => ?_⟩
                  · replace h := h.1 hc
                    exact h hf
                  · replace h := h.2 hc
                    refine N_X0_addNode (F_X0_addNode h) (fun v96 h => ?_)
                    obtain ⟨h, hg⟩ := h
                    replace hf : ∀ a, ¬ ((207 ≤ a ∧ a ≤ 211)) → v96 a = v a := fun a ha => by rw [hg a (by omega), hf a ha]
                    clear hg
                    obtain ⟨ho10, h⟩ := h
                    refine ⟨ho10, ?_⟩
                    exact h hf
                · intro h
                  exact h hf
            · replace h := h.2 hc
              exact ⟨h, hf⟩
          · replace h := h.2 hc
            exact ⟨h, hf⟩
theorem N_X5_skipBlanks  {v : VT} {q q' : VT → Prop} (h : P_X5_skipBlanks  v q) (hq : ∀ w, q w → q' w) : P_X5_skipBlanks  v q' := by
  unfold P_X5_skipBlanks at h ⊢
  intro X0 hKX0
  refine n_cut (h X0) ?_ ?_
  · intro v0 h
    refine hKX0 v0 ?_
    refine ⟨fun hc => ?_, fun hc => ?_⟩
    · replace h := h.1 hc
      exact hq _ h
    · replace h := h.2 hc
      refine N_X9_byteAt h (fun r16 h => ?_)
      refine ⟨fun hc => ?_, fun hc => ?_⟩
      · replace h := h.1 hc
        obtain ⟨ho1, h⟩ := h
        refine ⟨ho1, ?_⟩
        intro v44 ev44
        replace h := h v44 ev44
        exact h
      · replace h := h.2 hc
        refine N_X9_byteAt h (fun r29 h => ?_)
        refine ⟨fun hc => ?_, fun hc => ?_⟩
        · replace h := h.1 hc
          exact hq _ h
        · replace h := h.2 hc
          obtain ⟨ho2, h⟩ := h
          refine ⟨ho2, ?_⟩
          intro v44_1 ev44_1
          replace h := h v44_1 ev44_1
          exact h
  · intro h
    exact h
theorem F_X5_skipBlanks  {v : VT} {q : VT → Prop} (h : P_X5_skipBlanks  v q) : P_X5_skipBlanks  v (fun w => q w ∧ ∀ a, ¬ (a = 3) → w a = v a) := by
  unfold P_X5_skipBlanks at h ⊢
  have hf : ∀ a, ¬ (a = 3) → v a = v a := fun a _ => rfl
  intro X0 hKX0
  refine n_cut (h (fun (v0 : VT) => (∀ a, ¬ (a = 3) → v0 a = v a) → X0 v0)) ?_ ?_
  · intro v0 h hf
    refine hKX0 v0 ?_
    refine ⟨fun hc => ?_, fun hc => ?_⟩
    · replace h := h.1 hc
      exact ⟨h, hf⟩
    · replace h := h.2 hc
      refine N_X9_byteAt h (fun r16 h => ?_)
      refine ⟨fun hc => ?_, fun hc => ?_⟩
      · replace h := h.1 hc
        obtain ⟨ho1, h⟩ := h
        refine ⟨ho1, ?_⟩
        intro v44 ev44
        replace h := h v44 ev44
        replace hf : ∀ a, ¬ (a = 3) → v44 a = v a := fun a ha => by rw [ev44, upd2_off _ _ _ (by omega), hf a ha]
        exact h hf
      · replace h := h.2 hc
        refine N_X9_byteAt h (fun r29 h => ?_)
        refine ⟨fun hc => ?_, fun hc => ?_⟩
        · replace h := h.1 hc
          exact ⟨h, hf⟩
        · replace h := h.2 hc
          obtain ⟨ho2, h⟩ := h
          refine ⟨ho2, ?_⟩
          intro v44_1 ev44_1
          replace h := h v44_1 ev44_1
          replace hf : ∀ a, ¬ (a = 3) → v44_1 a = v a := fun a ha => by rw [ev44_1, upd2_off _ _ _ (by omega), hf a ha]
          exact h hf
  · intro h
    exact h hf
theorem N_X5_readWord  {v : VT} {q q' : VT → Prop} (h : P_X5_readWord  v q) (hq : ∀ w, q w → q' w) : P_X5_readWord  v q' := by
  unfold P_X5_readWord at h ⊢
  intro v5 ev5
  replace h := h v5 ev5
  intro v10 ev10
  replace h := h v10 ev10
  intro v15 ev15
  replace h := h v15 ev15
  intro X18 hKX18
  refine n_cut (h X18) ?_ ?_
  · intro v18 h
    refine hKX18 v18 ?_
    refine ⟨fun hc => ?_, fun hc => ?_⟩
    · replace h := h.1 hc
      exact hq _ h
    · replace h := h.2 hc
      refine N_X9_byteAt h (fun r34 h => ?_)
      refine ⟨fun hc => ?_, fun hc => ?_⟩
      · replace h := h.1 hc
        exact hq _ h
      · replace h := h.2 hc
        refine N_X9_byteAt h (fun r47 h => ?_)
        refine ⟨fun hc => ?_, fun hc => ?_⟩
        · replace h := h.1 hc
          exact hq _ h
        · replace h := h.2 hc
          intro K92 hKK92
          refine n_cut (h K92) ?_ ?_
          · intro v92 h
            refine hKK92 v92 ?_
            obtain ⟨ho1, h⟩ := h
            refine ⟨ho1, ?_⟩
            intro v99 ev99
            replace h := h v99 ev99
            obtain ⟨ho2, h⟩ := h
            refine ⟨ho2, ?_⟩
            intro v109 ev109
            replace h := h v109 ev109
            exact h
          · intro h
            refine ⟨fun hc => ?_, fun hc => ?_⟩
            · replace h := h.1 hc
              exact h
            · replace h := h.2 hc
              refine N_X9_byteAt h (fun r73 h => ?_)
              obtain ⟨ho3, h⟩ := h
              refine ⟨ho3, ?_⟩
              obtain ⟨ho4, h⟩ := h
              refine ⟨ho4, ?_⟩
              obtain ⟨ho5, h⟩ := h
              refine ⟨ho5, ?_⟩
              intro v89 ev89
              replace h := h v89 ev89
              exact h
  · intro h
    exact h
theorem F_X5_readWord  {v : VT} {q : VT → Prop} (h : P_X5_readWord  v q) : P_X5_readWord  v (fun w => q w ∧ ∀ a, ¬ (a = 3) → w a = v a) := by
  unfold P_X5_readWord at h ⊢
  have hf : ∀ a, ¬ (a = 3) → v a = v a := fun a _ => rfl
  intro v5 ev5
  replace h := h v5 ev5
  replace hf : ∀ a, ¬ (a = 3) → v5 a = v a := fun a ha => by rw [ev5, upd2_off _ _ _ (by omega), hf a ha]
  intro v10 ev10
  replace h := h v10 ev10
  replace hf : ∀ a, ¬ (a = 3) → v10 a = v a := fun a ha => by rw [ev10, upd2_off _ _ _ (by omega), hf a ha]
  intro v15 ev15
  replace h := h v15 ev15
  replace hf : ∀ a, ¬ (a = 3) → v15 a = v a := fun a ha => by rw [ev15, upd2_off _ _ _ (by omega), hf a ha]
  intro X18 hKX18
  refine n_cut (h (fun (v18 : VT) => (∀ a, ¬ (a = 3) → v18 a = v a) → X18 v18)) ?_ ?_
  · intro v18 h hf
    refine hKX18 v18 ?_
    refine ⟨fun hc => ?_, fun hc => ?_⟩
    · replace h := h.1 hc
      exact ⟨h, hf⟩
    · replace h := h.2 hc
      refine N_X9_byteAt h (fun r34 h => ?_)
      refine ⟨fun hc => ?_, fun hc => ?_⟩
      · replace h := h.1 hc
        exact ⟨h, hf⟩
      · replace h := h.2 hc
        refine N_X9_byteAt h (fun r47 h => ?_)
        refine ⟨fun hc => ?_, fun hc => ?_⟩
        · replace h := h.1 hc
          exact ⟨h, hf⟩
        · replace h := h.2 hc
          intro K92 hKK92
          refine n_cut (h (fun (v92 : VT) => (∀ a, ¬ (a = 3) → v92 a = v a) → K92 v92)) ?_ ?_
          · intro v92 h hf
            refine hKK92 v92 ?_
            obtain ⟨ho1, h⟩ := h
            refine ⟨ho1, ?_⟩
            intro v99 ev99
            replace h := h v99 ev99
            replace hf : ∀ a, ¬ (a = 3) → v99 a = v a := fun a ha => by rw [ev99, upd2_off _ _ _ (by omega), hf a ha]
            obtain ⟨ho2, h⟩ := h
            refine ⟨ho2, ?_⟩
            intro v109 ev109
            replace h := h v109 ev109
            replace hf : ∀ a, ¬ (a = 3) → v109 a = v a := fun a ha => by rw [ev109, upd2_off _ _ _ (by omega), hf a ha]
            exact h hf
          · intro h
            refine ⟨fun hc => ?_, fun hc => ?_⟩
            · replace h := h.1 hc
              exact h hf
            · replace h := h.2 hc
              refine N_X9_byteAt h (fun r73 h => ?_)
              obtain ⟨ho3, h⟩ := h
              refine ⟨ho3, ?_⟩
              obtain ⟨ho4, h⟩ := h
              refine ⟨ho4, ?_⟩
              obtain ⟨ho5, h⟩ := h
              refine ⟨ho5, ?_⟩
              intro v89 ev89
              replace h := h v89 ev89
              replace hf : ∀ a, ¬ (a = 3) → v89 a = v a := fun a ha => by rw [ev89, upd2_off _ _ _ (by omega), hf a ha]
              exact h hf
  · intro h
    exact h hf
theorem N_X5_isWord {k2 : Nat} {v : VT} {q q' : Int → Prop} (h : P_X5_isWord k2 v q) (hq : ∀ r, q r → q' r) : P_X5_isWord k2 v q' := by
  unfold P_X5_isWord at h ⊢
  intro K16 hKK16
  refine n_cut (h K16) ?_ ?_
  · intro s0 h
    refine hKK16 s0 ?_
    intro X20 hKX20
    refine n_cut (h X20) ?_ ?_
    · intro i3 i4 h
      refine hKX20 i3 i4 ?_
      refine ⟨fun hc => ?_, fun hc => ?_⟩
      · replace h := h.1 hc
        obtain ⟨ho1, h⟩ := h
        refine ⟨ho1, ?_⟩
        exact hq _ h
      · replace h := h.2 hc
        refine ⟨fun hc => ?_, fun hc => ?_⟩
        · replace h := h.1 hc
          obtain ⟨ho2, h⟩ := h
          refine ⟨ho2, ?_⟩
          exact hq _ h
        · replace h := h.2 hc
          obtain ⟨ho3, h⟩ := h
          refine ⟨ho3, ?_⟩
          refine N_X9_byteAt h (fun r41 h => ?_)
          obtain ⟨ho4, h⟩ := h
          refine ⟨ho4, ?_⟩
          refine ⟨fun hc => ?_, fun hc => ?_⟩
          · replace h := h.1 hc
            obtain ⟨ho5, h⟩ := h
            refine ⟨ho5, ?_⟩
            exact h
          · replace h := h.2 hc
            obtain ⟨ho6, h⟩ := h
            refine ⟨ho6, ?_⟩
            exact h
    · intro h
      exact h
  · intro h
    refine ⟨fun hc => ?_, fun hc => ?_⟩
    · replace h := h.1 hc
      exact h
    · replace h := h.2 hc
      exact h
theorem N_X5_fail {x1 : Int} {x2 : Int} {v : VT} {q q' : VT → Prop} (h : P_X5_fail x1 x2 v q) (hq : ∀ w, q w → q' w) : P_X5_fail x1 x2 v q' := by
  unfold P_X5_fail at h ⊢
  intro v2 ev2
  replace h := h v2 ev2
  intro v7 ev7
  replace h := h v7 ev7
  exact hq _ h
theorem F_X5_fail {x1 : Int} {x2 : Int} {v : VT} {q : VT → Prop} (h : P_X5_fail x1 x2 v q) : P_X5_fail x1 x2 v (fun w => q w ∧ ∀ a, ¬ (a = 3) → w a = v a) := by
  unfold P_X5_fail at h ⊢
  have hf : ∀ a, ¬ (a = 3) → v a = v a := fun a _ => rfl
  intro v2 ev2
  replace h := h v2 ev2
  replace hf : ∀ a, ¬ (a = 3) → v2 a = v a := fun a ha => by rw [ev2, upd2_off _ _ _ (by omega), hf a ha]
  intro v7 ev7
  replace h := h v7 ev7
  replace hf : ∀ a, ¬ (a = 3) → v7 a = v a := fun a ha => by rw [ev7, upd2_off _ _ _ (by omega), hf a ha]
  exact ⟨h, hf⟩
theorem N_X5_readNameHere  {v : VT} {q q' : VT → Prop} (h : P_X5_readNameHere  v q) (hq : ∀ w, q w → q' w) : P_X5_readNameHere  v q' := by
  unfold P_X5_readNameHere at h ⊢
  refine N_X5_skipBlanks h (fun v2 h => ?_)
  refine N_X5_readWord h (fun v7 h => ?_)
  refine ⟨fun hc => ?_, fun hc => ?_⟩
  · replace h := h.1 hc
    refine N_X5_fail h (fun v43 h => ?_)
    exact hq _ h
  · replace h := h.2 hc
    refine N_X5_isWord h (fun r21 h => ?_)
    refine ⟨fun hc => ?_, fun hc => ?_⟩
    · replace h := h.1 hc
      refine N_X5_fail h (fun v43_1 h => ?_)
      exact hq _ h
    · replace h := h.2 hc
      refine N_X5_isWord h (fun r31 h => ?_)
      refine ⟨fun hc => ?_, fun hc => ?_⟩
      · replace h := h.1 hc
        refine ⟨fun hc => ?_, fun hc => ?_⟩
        · replace h := h.1 hc
          exact hq _ h
        · replace h := h.2 hc
          obtain ⟨ho1, h⟩ := h
          refine ⟨ho1, ?_⟩
          refine N_X5_fail h (fun v65 h => ?_)
          exact hq _ h
      · replace h := h.2 hc
        refine N_X5_fail h (fun v43_2 h => ?_)
        exact hq _ h
theorem F_X5_readNameHere  {v : VT} {q : VT → Prop} (h : P_X5_readNameHere  v q) : P_X5_readNameHere  v (fun w => q w ∧ ∀ a, ¬ (a = 3) → w a = v a) := by
  unfold P_X5_readNameHere at h ⊢
  have hf : ∀ a, ¬ (a = 3) → v a = v a := fun a _ => rfl
  refine N_X5_skipBlanks (F_X5_skipBlanks h) (fun v2 h => ?_)
  obtain ⟨h, hg⟩ := h
  replace hf : ∀ a, ¬ (a = 3) → v2 a = v a := fun a ha => by rw [hg a (by omega), hf a ha]
  clear hg
  refine N_X5_readWord (F_X5_readWord h) (fun v7 h => ?_)
  obtain ⟨h, hg⟩ := h
  replace hf : ∀ a, ¬ (a = 3) → v7 a = v a := fun a ha => by rw [hg a (by omega), hf a ha]
  clear hg
  refine ⟨fun hc => ?_, fun hc => ?_⟩
  · replace h := h.1 hc
    refine N_X5_fail (F_X5_fail h) (fun v43 h => ?_)
    obtain ⟨h, hg⟩ := h
    replace hf : ∀ a, ¬ (a = 3) → v43 a = v a := fun a ha => by rw [hg a (by omega), hf a ha]
    clear hg
    exact ⟨h, hf⟩
  · replace h := h.2 hc
    refine N_X5_isWord h (fun r21 h => ?_)
    refine ⟨fun hc => ?_, fun hc => ?_⟩
    · replace h := h.1 hc
      refine N_X5_fail (F_X5_fail h) (fun v43_1 h => ?_)
      obtain ⟨h, hg⟩ := h
      replace hf : ∀ a, ¬ (a = 3) → v43_1 a = v a := fun a ha => by rw [hg a (by omega), hf a ha]
      clear hg
      exact ⟨h, hf⟩
    · replace h := h.2 hc
      refine N_X5_isWord h (fun r31 h => ?_)
      refine ⟨fun hc => ?_, fun hc => ?_⟩
      · replace h := h.1 hc
        refine ⟨fun hc => ?_, fun hc => ?_⟩
        · replace h := h.1 hc
          exact ⟨h, hf⟩
        · replace h := h.2 hc
          obtain ⟨ho1, h⟩ := h
          refine ⟨ho1, ?_⟩
          refine N_X5_fail (F_X5_fail h) (fun v65 h => ?_)
          obtain ⟨h, hg⟩ := h
          replace hf : ∀ a, ¬ (a = 3) → v65 a = v a := fun a ha => by rw [hg a (by omega), hf a ha]
          clear hg
          exact ⟨h, hf⟩
      · replace h := h.2 hc
        refine N_X5_fail (F_X5_fail h) (fun v43_2 h => ?_)
        obtain ⟨h, hg⟩ := h
        replace hf : ∀ a, ¬ (a = 3) → v43_2 a = v a := fun a ha => by rw [hg a (by omega), hf a ha]
        clear hg
        exact ⟨h, hf⟩
theorem N_X5_readStop {x2 : Int} {v : VT} {q q' : Int → VT → Prop} (h : P_X5_readStop x2 v q) (hq : ∀ r w, q r w → q' r w) : P_X5_readStop x2 v q' := by
  unfold P_X5_readStop at h ⊢
  refine N_X5_readNameHere h (fun v2 h => ?_)
  intro K27 hKK27
  refine n_cut (h K27) ?_ ?_
  · intro s0 h
    refine hKK27 s0 ?_
    intro K49 hKK49
    refine n_cut (h K49) ?_ ?_
    · intro v49 h
      refine hKK49 v49 ?_
      refine ⟨fun hc => ?_, fun hc => ?_⟩
      · replace h := h.1 hc
        exact hq _ _ h
      · replace h := h.2 hc
        refine ⟨fun hc => ?_, fun hc => ?_⟩
        · replace h := h.1 hc
          exact hq _ _ h
        · replace h := h.2 hc
          refine ⟨fun hc => ?_, fun hc => ?_⟩
          · replace h := h.1 hc
            refine N_X5_fail h (fun v85 h => ?_)
            exact hq _ _ h
          · replace h := h.2 hc
            refine N_X0_findLine h (fun r72 h => ?_)
            refine ⟨fun hc => ?_, fun hc => ?_⟩
            · replace h := h.1 hc
              refine ⟨fun hc => ?_, fun hc => ?_⟩
              · replace h := h.1 hc
                refine N_X0_addLine h (fun v122 h => ?_)
                exact hq _ _ h
              · replace h := h.2 hc
                refine N_X5_fail h (fun v109 h => ?_)
                exact hq _ _ h
            · replace h := h.2 hc
              refine N_X5_fail h (fun v85_1 h => ?_)
              exact hq _ _ h
    · intro h
      refine ⟨fun hc => ?_, fun hc => ?_⟩
      · replace h := h.1 hc
        exact h
      · replace h := h.2 hc
        refine ⟨fun hc => ?_, fun hc => ?_⟩
        · replace h := h.1 hc
          exact h
        · replace h := h.2 hc
          refine N_X5_fail h (fun v46 h => ?_)
          exact h
  · intro h
    refine ⟨fun hc => ?_, fun hc => ?_⟩
    · replace h := h.1 hc
      exact h
    · replace h := h.2 hc
      refine N_X0_findName h (fun r20 h => ?_)
      exact h
theorem F_X5_readStop {x2 : Int} {v : VT} {q : Int → VT → Prop} (h : P_X5_readStop x2 v q) : P_X5_readStop x2 v (fun r w => q r w ∧ ∀ a, ¬ ((3 ≤ a ∧ a ≤ 4) ∨ (6 ≤ a ∧ a ≤ 8)) → w a = v a) := by
  unfold P_X5_readStop at h ⊢
  have hf : ∀ a, ¬ ((3 ≤ a ∧ a ≤ 4) ∨ (6 ≤ a ∧ a ≤ 8)) → v a = v a := fun a _ => rfl
  refine N_X5_readNameHere (F_X5_readNameHere h) (fun v2 h => ?_)
  obtain ⟨h, hg⟩ := h
  replace hf : ∀ a, ¬ ((3 ≤ a ∧ a ≤ 4) ∨ (6 ≤ a ∧ a ≤ 8)) → v2 a = v a := fun a ha => by rw [hg a (by omega), hf a ha]
  clear hg
  intro K27 hKK27
  refine n_cut (h K27) ?_ ?_
  · intro s0 h
    refine hKK27 s0 ?_
    intro K49 hKK49
    refine n_cut (h (fun (v49 : VT) => (∀ a, ¬ ((3 ≤ a ∧ a ≤ 4) ∨ (6 ≤ a ∧ a ≤ 8)) → v49 a = v a) → K49 v49)) ?_ ?_
    · intro v49 h hf
      refine hKK49 v49 ?_
      refine ⟨fun hc => ?_, fun hc => ?_⟩
      · replace h := h.1 hc
        exact ⟨h, hf⟩
      · replace h := h.2 hc
        refine ⟨fun hc => ?_, fun hc => ?_⟩
        · replace h := h.1 hc
          exact ⟨h, hf⟩
        · replace h := h.2 hc
          refine ⟨fun hc => ?_, fun hc => ?_⟩
          · replace h := h.1 hc
            refine N_X5_fail (F_X5_fail h) (fun v85 h => ?_)
            obtain ⟨h, hg⟩ := h
            replace hf : ∀ a, ¬ ((3 ≤ a ∧ a ≤ 4) ∨ (6 ≤ a ∧ a ≤ 8)) → v85 a = v a := fun a ha => by rw [hg a (by omega), hf a ha]
            clear hg
            exact ⟨h, hf⟩
          · replace h := h.2 hc
            refine N_X0_findLine h (fun r72 h => ?_)
            refine ⟨fun hc => ?_, fun hc => ?_⟩
            · replace h := h.1 hc
              refine ⟨fun hc => ?_, fun hc => ?_⟩
              · replace h := h.1 hc
                refine N_X0_addLine (F_X0_addLine h) (fun v122 h => ?_)
                obtain ⟨h, hg⟩ := h
                replace hf : ∀ a, ¬ ((3 ≤ a ∧ a ≤ 4) ∨ (6 ≤ a ∧ a ≤ 8)) → v122 a = v a := fun a ha => by rw [hg a (by omega), hf a ha]
                clear hg
                exact ⟨h, hf⟩
              · replace h := h.2 hc
                refine N_X5_fail (F_X5_fail h) (fun v109 h => ?_)
                obtain ⟨h, hg⟩ := h
                replace hf : ∀ a, ¬ ((3 ≤ a ∧ a ≤ 4) ∨ (6 ≤ a ∧ a ≤ 8)) → v109 a = v a := fun a ha => by rw [hg a (by omega), hf a ha]
                clear hg
                exact ⟨h, hf⟩
            · replace h := h.2 hc
              refine N_X5_fail (F_X5_fail h) (fun v85_1 h => ?_)
              obtain ⟨h, hg⟩ := h
              replace hf : ∀ a, ¬ ((3 ≤ a ∧ a ≤ 4) ∨ (6 ≤ a ∧ a ≤ 8)) → v85_1 a = v a := fun a ha => by rw [hg a (by omega), hf a ha]
              clear hg
              exact ⟨h, hf⟩
    · intro h
      refine ⟨fun hc => ?_, fun hc => ?_⟩
      · replace h := h.1 hc
        exact h hf
      · replace h := h.2 hc
        refine ⟨fun hc => ?_, fun hc => ?_⟩
        · replace h := h.1 hc
          exact h hf
        · replace h := h.2 hc
          refine N_X5_fail (F_X5_fail h) (fun v46 h => ?_)
          obtain ⟨h, hg⟩ := h
          replace hf : ∀ a, ¬ ((3 ≤ a ∧ a ≤ 4) ∨ (6 ≤ a ∧ a ≤ 8)) → v46 a = v a := fun a ha => by rw [hg a (by omega), hf a ha]
          clear hg
          exact h hf
  · intro h
    refine ⟨fun hc => ?_, fun hc => ?_⟩
    · replace h := h.1 hc
      exact h
    · replace h := h.2 hc
      refine N_X0_findName h (fun r20 h => ?_)
      exact h
theorem N_X5_readNode  {v : VT} {q q' : Int → VT → Prop} (h : P_X5_readNode  v q) (hq : ∀ r w, q r w → q' r w) : P_X5_readNode  v q' := by
  unfold P_X5_readNode at h ⊢
  refine N_X5_readNameHere h (fun v2 h => ?_)
  intro K36 hKK36
  refine n_cut (h K36) ?_ ?_
  · intro v36 h
    refine hKK36 v36 ?_
    refine ⟨fun hc => ?_, fun hc => ?_⟩
    · replace h := h.1 hc
      exact hq _ _ h
    · replace h := h.2 hc
      refine N_X0_addNode h (fun v51 h => ?_)
      exact hq _ _ h
  · intro h
    refine ⟨fun hc => ?_, fun hc => ?_⟩
    · replace h := h.1 hc
      exact h
    · replace h := h.2 hc
      refine N_X0_findName h (fun r20 h => ?_)
      refine ⟨fun hc => ?_, fun hc => ?_⟩
      · replace h := h.1 hc
        exact h
      · replace h := h.2 hc
        refine N_X5_fail h (fun v33 h => ?_)
        exact h
theorem F_X5_readNode  {v : VT} {q : Int → VT → Prop} (h : P_X5_readNode  v q) : P_X5_readNode  v (fun r w => q r w ∧ ∀ a, ¬ ((3 ≤ a ∧ a ≤ 5)) → w a = v a) := by
  unfold P_X5_readNode at h ⊢
  have hf : ∀ a, ¬ ((3 ≤ a ∧ a ≤ 5)) → v a = v a := fun a _ => rfl
  refine N_X5_readNameHere (F_X5_readNameHere h) (fun v2 h => ?_)
  obtain ⟨h, hg⟩ := h
  replace hf : ∀ a, ¬ ((3 ≤ a ∧ a ≤ 5)) → v2 a = v a := fun a ha => by rw [hg a (by omega), hf a ha]
  clear hg
  intro K36 hKK36
  refine n_cut (h (fun (v36 : VT) => (∀ a, ¬ ((3 ≤ a ∧ a ≤ 5)) → v36 a = v a) → K36 v36)) ?_ ?_
  · intro v36 h hf
    refine hKK36 v36 ?_
    refine ⟨fun hc => ?_, fun hc => ?_⟩
    · replace h := h.1 hc
      exact ⟨h, hf⟩
    · replace h := h.2 hc
      refine N_X0_addNode (F_X0_addNode h) (fun v51 h => ?_)
      obtain ⟨h, hg⟩ := h
      replace hf : ∀ a, ¬ ((3 ≤ a ∧ a ≤ 5)) → v51 a = v a := fun a ha => by rw [hg a (by omega), hf a ha]
      clear hg
      exact ⟨h, hf⟩
  · intro h
    refine ⟨fun hc => ?_, fun hc => ?_⟩
    · replace h := h.1 hc
      exact h hf
    · replace h := h.2 hc
      refine N_X0_findName h (fun r20 h => ?_)
      refine ⟨fun hc => ?_, fun hc => ?_⟩
      · replace h := h.1 hc
        exact h hf
      · replace h := h.2 hc
        refine N_X5_fail (F_X5_fail h) (fun v33 h => ?_)
        obtain ⟨h, hg⟩ := h
        replace hf : ∀ a, ¬ ((3 ≤ a ∧ a ≤ 5)) → v33 a = v a := fun a ha => by rw [hg a (by omega), hf a ha]
        clear hg
        exact h hf
theorem N_X5_readComma {x2 : Int} {v : VT} {q q' : Int → VT → Prop} (h : P_X5_readComma x2 v q) (hq : ∀ r w, q r w → q' r w) : P_X5_readComma x2 v q' := by
  unfold P_X5_readComma at h ⊢
  refine N_X5_skipBlanks h (fun v2 h => ?_)
  refine N_X9_byteAt h (fun r10 h => ?_)
  refine ⟨fun hc => ?_, fun hc => ?_⟩
  · replace h := h.1 hc
    refine ⟨fun hc => ?_, fun hc => ?_⟩
    · replace h := h.1 hc
      refine N_X5_fail h (fun v71 h => ?_)
      exact hq _ _ h
    · replace h := h.2 hc
      refine ⟨fun hc => ?_, fun hc => ?_⟩
      · replace h := h.1 hc
        refine N_X5_fail h (fun v71_1 h => ?_)
        exact hq _ _ h
      · replace h := h.2 hc
        obtain ⟨ho1, h⟩ := h
        refine ⟨ho1, ?_⟩
        intro v49 ev49
        replace h := h v49 ev49
        obtain ⟨ho2, h⟩ := h
        refine ⟨ho2, ?_⟩
        intro v59 ev59
        replace h := h v59 ev59
        exact hq _ _ h
  · replace h := h.2 hc
    obtain ⟨ho3, h⟩ := h
    refine ⟨ho3, ?_⟩
    intro v27 ev27
    replace h := h v27 ev27
    exact hq _ _ h
theorem F_X5_readComma {x2 : Int} {v : VT} {q : Int → VT → Prop} (h : P_X5_readComma x2 v q) : P_X5_readComma x2 v (fun r w => q r w ∧ ∀ a, ¬ (a = 3) → w a = v a) := by
  unfold P_X5_readComma at h ⊢
  have hf : ∀ a, ¬ (a = 3) → v a = v a := fun a _ => rfl
  refine N_X5_skipBlanks (F_X5_skipBlanks h) (fun v2 h => ?_)
  obtain ⟨h, hg⟩ := h
  replace hf : ∀ a, ¬ (a = 3) → v2 a = v a := fun a ha => by rw [hg a (by omega), hf a ha]
  clear hg
  refine N_X9_byteAt h (fun r10 h => ?_)
  refine ⟨fun hc => ?_, fun hc => ?_⟩
  · replace h := h.1 hc
    refine ⟨fun hc => ?_, fun hc => ?_⟩
    · replace h := h.1 hc
      refine N_X5_fail (F_X5_fail h) (fun v71 h => ?_)
      obtain ⟨h, hg⟩ := h
      replace hf : ∀ a, ¬ (a = 3) → v71 a = v a := fun a ha => by rw [hg a (by omega), hf a ha]
      clear hg
      exact ⟨h, hf⟩
    · replace h := h.2 hc
      refine ⟨fun hc => ?_, fun hc => ?_⟩
      · replace h := h.1 hc
        refine N_X5_fail (F_X5_fail h) (fun v71_1 h => ?_)
        obtain ⟨h, hg⟩ := h
        replace hf : ∀ a, ¬ (a = 3) → v71_1 a = v a := fun a ha => by rw [hg a (by omega), hf a ha]
        clear hg
        exact ⟨h, hf⟩
      · replace h := h.2 hc
        obtain ⟨ho1, h⟩ := h
        refine ⟨ho1, ?_⟩
        intro v49 ev49
        replace h := h v49 ev49
        replace hf : ∀ a, ¬ (a = 3) → v49 a = v a := fun a ha => by rw [ev49, upd2_off _ _ _ (by omega), hf a ha]
        obtain ⟨ho2, h⟩ := h
        refine ⟨ho2, ?_⟩
        intro v59 ev59
        replace h := h v59 ev59
        replace hf : ∀ a, ¬ (a = 3) → v59 a = v a := fun a ha => by rw [ev59, upd2_off _ _ _ (by omega), hf a ha]
        exact ⟨h, hf⟩
  · replace h := h.2 hc
    obtain ⟨ho3, h⟩ := h
    refine ⟨ho3, ?_⟩
    intro v27 ev27
    replace h := h v27 ev27
    replace hf : ∀ a, ¬ (a = 3) → v27 a = v a := fun a ha => by rw [ev27, upd2_off _ _ _ (by omega), hf a ha]
    exact ⟨h, hf⟩
theorem N_X5_readRow {x2 : Int} {v : VT} {q q' : VT → Prop} (h : P_X5_readRow x2 v q) (hq : ∀ w, q w → q' w) : P_X5_readRow x2 v q' := by
  unfold P_X5_readRow at h ⊢
  refine N_X5_skipBlanks h (fun v2 h => ?_)
  refine N_X5_readWord h (fun v7 h => ?_)
  intro K23 hKK23
  refine n_cut (h K23) ?_ ?_
  · intro s0 h
    refine hKK23 s0 ?_
    obtain ⟨ho1, h⟩ := h
    refine ⟨ho1, ?_⟩
    refine N_X5_isWord h (fun r23 h => ?_)
    intro K38 hKK38
    refine n_cut (h K38) ?_ ?_
    · intro v38 h
      refine hKK38 v38 ?_
      intro K47 hKK47
      refine n_cut (h K47) ?_ ?_
      · intro s0_1 h
        refine hKK47 s0_1 ?_
        intro K63 hKK63
        refine n_cut (h K63) ?_ ?_
        · intro s0_2 h
          refine hKK63 s0_2 ?_
          intro K140 hKK140
          refine n_cut (h K140) ?_ ?_
          · intro i5 v140 h
            refine hKK140 i5 v140 ?_
            refine ⟨fun hc => ?_, fun hc => ?_⟩
            · replace h := h.1 hc
              exact hq _ h
            · replace h := h.2 hc
              refine N_X5_skipBlanks h (fun v147 h => ?_)
              refine ⟨fun hc => ?_, fun hc => ?_⟩
              · replace h := h.1 hc
                refine N_X5_fail h (fun v171 h => ?_)
                exact hq _ h
              · replace h := h.2 hc
                refine N_X5_fail h (fun v171_1 h => ?_)
                exact hq _ h
          · intro h
            intro X68 hKX68
            refine n_cut (h X68) ?_ ?_
            · intro i4 i5_1 i6 v68 h
              refine hKX68 i4 i5_1 i6 v68 ?_
              refine ⟨fun hc => ?_, fun hc => ?_⟩
              · replace h := h.1 hc
                exact h
              · replace h := h.2 hc
                refine ⟨fun hc => ?_, fun hc => ?_⟩
                · replace h := h.1 hc
                  exact h
                · replace h := h.2 hc
                  intro K99 hKK99
                  refine n_cut (h K99) ?_ ?_
                  · intro s0_3 v99 h
                    refine hKK99 s0_3 v99 ?_
                    refine ⟨fun hc => ?_, fun hc => ?_⟩
                    · replace h := h.1 hc
                      obtain ⟨ho2, h⟩ := h
                      refine ⟨ho2, ?_⟩
                      exact h
                    · replace h := h.2 hc
                      refine ⟨fun hc => ?_, fun hc => ?_⟩
                      · replace h := h.1 hc
                        refine N_X5_readComma h (fun r121 v121 h => ?_)
                        refine ⟨fun hc => ?_, fun hc => ?_⟩
                        · replace h := h.1 hc
                          obtain ⟨ho3, h⟩ := h
                          refine ⟨ho3, ?_⟩
                          exact h
                        · replace h := h.2 hc
                          obtain ⟨ho4, h⟩ := h
                          refine ⟨ho4, ?_⟩
                          exact h
                      · replace h := h.2 hc
                        refine N_X5_readComma h (fun r121_1 v121_1 h => ?_)
                        refine ⟨fun hc => ?_, fun hc => ?_⟩
                        · replace h := h.1 hc
                          obtain ⟨ho5, h⟩ := h
                          refine ⟨ho5, ?_⟩
                          exact h
                        · replace h := h.2 hc
                          obtain ⟨ho6, h⟩ := h
                          refine ⟨ho6, ?_⟩
                          exact h
                  · intro h
                    refine ⟨fun hc => ?_, fun hc => ?_⟩
                    · replace h := h.1 hc
                      refine N_X5_readNode h (fun r96 v96 h => ?_)
                      exact h
                    · replace h := h.2 hc
                      refine N_X5_readStop h (fun r88 v88 h => ?_)
                      exact h
            · intro h
              exact h
        · intro h
          refine ⟨fun hc => ?_, fun hc => ?_⟩
          · replace h := h.1 hc
            exact h
          · replace h := h.2 hc
            exact h
      · intro h
        refine ⟨fun hc => ?_, fun hc => ?_⟩
        · replace h := h.1 hc
          exact h
        · replace h := h.2 hc
          exact h
    · intro h
      refine ⟨fun hc => ?_, fun hc => ?_⟩
      · replace h := h.1 hc
        exact h
      · replace h := h.2 hc
        refine N_X5_fail h (fun v35 h => ?_)
        exact h
  · intro h
    refine ⟨fun hc => ?_, fun hc => ?_⟩
    · replace h := h.1 hc
      exact h
    · replace h := h.2 hc
      exact h
theorem F_X5_readRow {x2 : Int} {v : VT} {q : VT → Prop} (h : P_X5_readRow x2 v q) : P_X5_readRow x2 v (fun w => q w ∧ ∀ a, ¬ ((3 ≤ a ∧ a ≤ 8)) → w a = v a) := by
  unfold P_X5_readRow at h ⊢
  have hf : ∀ a, ¬ ((3 ≤ a ∧ a ≤ 8)) → v a = v a := fun a _ => rfl
  refine N_X5_skipBlanks (F_X5_skipBlanks h) (fun v2 h => ?_)
  obtain ⟨h, hg⟩ := h
  replace hf : ∀ a, ¬ ((3 ≤ a ∧ a ≤ 8)) → v2 a = v a := fun a ha => by rw [hg a (by omega), hf a ha]
  clear hg
  refine N_X5_readWord (F_X5_readWord h) (fun v7 h => ?_)
  obtain ⟨h, hg⟩ := h
  replace hf : ∀ a, ¬ ((3 ≤ a ∧ a ≤ 8)) → v7 a = v a := fun a ha => by rw [hg a (by omega), hf a ha]
  clear hg
  intro K23 hKK23
  refine n_cut (h K23) ?_ ?_
  · intro s0 h
    refine hKK23 s0 ?_
    obtain ⟨ho1, h⟩ := h
    refine ⟨ho1, ?_⟩
    refine N_X5_isWord h (fun r23 h => ?_)
    intro K38 hKK38
    refine n_cut (h (fun (v38 : VT) => (∀ a, ¬ ((3 ≤ a ∧ a ≤ 8)) → v38 a = v a) → K38 v38)) ?_ ?_
    · intro v38 h hf
      refine hKK38 v38 ?_
      intro K47 hKK47
      refine n_cut (h K47) ?_ ?_
      · intro s0_1 h
        refine hKK47 s0_1 ?_
        intro K63 hKK63
        refine n_cut (h K63) ?_ ?_
        · intro s0_2 h
          refine hKK63 s0_2 ?_
          intro K140 hKK140
          refine n_cut (h (fun (i5 : Int) (v140 : VT) => (∀ a, ¬ ((3 ≤ a ∧ a ≤ 8)) → v140 a = v a) → K140 i5 v140)) ?_ ?_
          · intro i5 v140 h hf
            refine hKK140 i5 v140 ?_
            refine ⟨fun hc => ?_, fun hc => ?_⟩
            · replace h := h.1 hc
              exact ⟨h, hf⟩
            · replace h := h.2 hc
              refine N_X5_skipBlanks (F_X5_skipBlanks h) (fun v147 h => ?_)
              obtain ⟨h, hg⟩ := h
              replace hf : ∀ a, ¬ ((3 ≤ a ∧ a ≤ 8)) → v147 a = v a := fun a ha => by rw [hg a (by omega), hf a ha]
              clear hg
              refine ⟨fun hc => ?_, fun hc => ?_⟩
              · replace h := h.1 hc
                refine N_X5_fail (F_X5_fail h) (fun v171 h => ?_)
                obtain ⟨h, hg⟩ := h
                replace hf : ∀ a, ¬ ((3 ≤ a ∧ a ≤ 8)) → v171 a = v a := fun a ha => by rw [hg a (by omega), hf a ha]
                clear hg
                exact ⟨h, hf⟩
              · replace h := h.2 hc
                refine N_X5_fail (F_X5_fail h) (fun v171_1 h => ?_)
                obtain ⟨h, hg⟩ := h
                replace hf : ∀ a, ¬ ((3 ≤ a ∧ a ≤ 8)) → v171_1 a = v a := fun a ha => by rw [hg a (by omega), hf a ha]
                clear hg
                exact ⟨h, hf⟩
          · intro h
            intro X68 hKX68
            refine n_cut (h (fun (i4 : Int) (i5_1 : Int) (i6 : Int) (v68 : VT) => (∀ a, ¬ ((3 ≤ a ∧ a ≤ 8)) → v68 a = v a) → X68 i4 i5_1 i6 v68)) ?_ ?_
            · intro i4 i5_1 i6 v68 h hf
              refine hKX68 i4 i5_1 i6 v68 ?_
              refine ⟨fun hc => ?_, fun hc => ?_⟩
              · replace h := h.1 hc
                exact h hf
              · replace h := h.2 hc
                refine ⟨fun hc => ?_, fun hc => ?_⟩
                · replace h := h.1 hc
                  exact h hf
                · replace h := h.2 hc
                  intro K99 hKK99
                  refine n_cut (h (fun (s0_3 : Int) (v99 : VT) => (∀ a, ¬ ((3 ≤ a ∧ a ≤ 8)) → v99 a = v a) → K99 s0_3 v99)) ?_ ?_
                  · intro s0_3 v99 h hf
                    refine hKK99 s0_3 v99 ?_
                    refine ⟨fun hc => ?_, fun hc => ?_⟩
                    · replace h := h.1 hc
                      obtain ⟨ho2, h⟩ := h
                      refine ⟨ho2, ?_⟩
                      exact h hf
                    · replace h := h.2 hc
                      refine ⟨fun hc => ?_, fun hc => ?_⟩
                      · replace h := h.1 hc
                        refine N_X5_readComma (F_X5_readComma h) (fun r121 v121 h => ?_)
                        obtain ⟨h, hg⟩ := h
                        replace hf : ∀ a, ¬ ((3 ≤ a ∧ a ≤ 8)) → v121 a = v a := fun a ha => by rw [hg a (by omega), hf a ha]
                        clear hg
                        refine ⟨fun hc => ?_, fun hc => ?_⟩
                        · replace h := h.1 hc
                          obtain ⟨ho3, h⟩ := h
                          refine ⟨ho3, ?_⟩
                          exact h hf
                        · replace h := h.2 hc
                          obtain ⟨ho4, h⟩ := h
                          refine ⟨ho4, ?_⟩
                          exact h hf
                      · replace h := h.2 hc
                        refine N_X5_readComma (F_X5_readComma h) (fun r121_1 v121_1 h => ?_)
                        obtain ⟨h, hg⟩ := h
                        replace hf : ∀ a, ¬ ((3 ≤ a ∧ a ≤ 8)) → v121_1 a = v a := fun a ha => by rw [hg a (by omega), hf a ha]
                        clear hg
                        refine ⟨fun hc => ?_, fun hc => ?_⟩
                        · replace h := h.1 hc
                          obtain ⟨ho5, h⟩ := h
                          refine ⟨ho5, ?_⟩
                          exact h hf
                        · replace h := h.2 hc
                          obtain ⟨ho6, h⟩ := h
                          refine ⟨ho6, ?_⟩
                          exact h hf
                  · intro h
                    refine ⟨fun hc => ?_, fun hc => ?_⟩
                    · replace h := h.1 hc
                      refine N_X5_readNode (F_X5_readNode h) (fun r96 v96 h => ?_)
                      obtain ⟨h, hg⟩ := h
                      replace hf : ∀ a, ¬ ((3 ≤ a ∧ a ≤ 8)) → v96 a = v a := fun a ha => by rw [hg a (by omega), hf a ha]
                      clear hg
                      exact h hf
                    · replace h := h.2 hc
                      refine N_X5_readStop (F_X5_readStop h) (fun r88 v88 h => ?_)
                      obtain ⟨h, hg⟩ := h
                      replace hf : ∀ a, ¬ ((3 ≤ a ∧ a ≤ 8)) → v88 a = v a := fun a ha => by rw [hg a (by omega), hf a ha]
                      clear hg
                      exact h hf
            · intro h
              exact h hf
        · intro h
          refine ⟨fun hc => ?_, fun hc => ?_⟩
          · replace h := h.1 hc
            exact h
          · replace h := h.2 hc
            exact h
      · intro h
        refine ⟨fun hc => ?_, fun hc => ?_⟩
        · replace h := h.1 hc
          exact h
        · replace h := h.2 hc
          exact h
    · intro h
      refine ⟨fun hc => ?_, fun hc => ?_⟩
      · replace h := h.1 hc
        exact h hf
      · replace h := h.2 hc
        refine N_X5_fail (F_X5_fail h) (fun v35 h => ?_)
        obtain ⟨h, hg⟩ := h
        replace hf : ∀ a, ¬ ((3 ≤ a ∧ a ≤ 8)) → v35 a = v a := fun a ha => by rw [hg a (by omega), hf a ha]
        clear hg
        exact h hf
  · intro h
    refine ⟨fun hc => ?_, fun hc => ?_⟩
    · replace h := h.1 hc
      exact h
    · replace h := h.2 hc
      exact h
theorem N_X5_readNet  {v : VT} {q q' : VT → Prop} (h : P_X5_readNet  v q) (hq : ∀ w, q w → q' w) : P_X5_readNet  v q' := by
  unfold P_X5_readNet at h ⊢
  refine N_X0_wipe h (fun v4 h => ?_)
  intro v9 ev9
  replace h := h v9 ev9
  intro v14 ev14
  replace h := h v14 ev14
  intro v19 ev19
  replace h := h v19 ev19
  intro v24 ev24
  replace h := h v24 ev24
  refine N_X5_readRow h (fun v30 h => ?_)
  refine N_X5_skipBlanks h (fun v35 h => ?_)
  intro X40 hKX40
  refine n_cut (h X40) ?_ ?_
  · intro i2 v40 h
    refine hKX40 i2 v40 ?_
    refine ⟨fun hc => ?_, fun hc => ?_⟩
    · replace h := h.1 hc
      exact hq _ h
    · replace h := h.2 hc
      refine ⟨fun hc => ?_, fun hc => ?_⟩
      · replace h := h.1 hc
        exact hq _ h
      · replace h := h.2 hc
        refine ⟨fun hc => ?_, fun hc => ?_⟩
        · replace h := h.1 hc
          exact hq _ h
        · replace h := h.2 hc
          refine N_X5_readRow h (fun v68 h => ?_)
          refine N_X5_skipBlanks h (fun v73 h => ?_)
          obtain ⟨ho1, h⟩ := h
          refine ⟨ho1, ?_⟩
          exact h
  · intro h
    exact h
theorem F_X5_readNet  {v : VT} {q : VT → Prop} (h : P_X5_readNet  v q) : P_X5_readNet  v (fun w => q w ∧ ∀ a, ¬ ((3 ≤ a ∧ a ≤ 8)) → w a = v a) := by
  unfold P_X5_readNet at h ⊢
  have hf : ∀ a, ¬ ((3 ≤ a ∧ a ≤ 8)) → v a = v a := fun a _ => rfl
  refine N_X0_wipe (F_X0_wipe h) (fun v4 h => ?_)
  obtain ⟨h, hg⟩ := h
  replace hf : ∀ a, ¬ ((3 ≤ a ∧ a ≤ 8)) → v4 a = v a := fun a ha => by rw [hg a (by omega), hf a ha]
  clear hg
  intro v9 ev9
  replace h := h v9 ev9
  replace hf : ∀ a, ¬ ((3 ≤ a ∧ a ≤ 8)) → v9 a = v a := fun a ha => by rw [ev9, upd2_off _ _ _ (by omega), hf a ha]
  intro v14 ev14
  replace h := h v14 ev14
  replace hf : ∀ a, ¬ ((3 ≤ a ∧ a ≤ 8)) → v14 a = v a := fun a ha => by rw [ev14, upd2_off _ _ _ (by omega), hf a ha]
  intro v19 ev19
  replace h := h v19 ev19
  replace hf : ∀ a, ¬ ((3 ≤ a ∧ a ≤ 8)) → v19 a = v a := fun a ha => by rw [ev19, upd2_off _ _ _ (by omega), hf a ha]
  intro v24 ev24
  replace h := h v24 ev24
  replace hf : ∀ a, ¬ ((3 ≤ a ∧ a ≤ 8)) → v24 a = v a := fun a ha => by rw [ev24, upd2_off _ _ _ (by omega), hf a ha]
  refine N_X5_readRow (F_X5_readRow h) (fun v30 h => ?_)
  obtain ⟨h, hg⟩ := h
  replace hf : ∀ a, ¬ ((3 ≤ a ∧ a ≤ 8)) → v30 a = v a := fun a ha => by rw [hg a (by omega), hf a ha]
  clear hg
  refine N_X5_skipBlanks (F_X5_skipBlanks h) (fun v35 h => ?_)
  obtain ⟨h, hg⟩ := h
  replace hf : ∀ a, ¬ ((3 ≤ a ∧ a ≤ 8)) → v35 a = v a := fun a ha => by rw [hg a (by omega), hf a ha]
  clear hg
  intro X40 hKX40
  refine n_cut (h (fun (i2 : Int) (v40 : VT) => (∀ a, ¬ ((3 ≤ a ∧ a ≤ 8)) → v40 a = v a) → X40 i2 v40)) ?_ ?_
  · intro i2 v40 h hf
    refine hKX40 i2 v40 ?_
    refine ⟨fun hc => ?_, fun hc => ?_⟩
    · replace h := h.1 hc
      exact ⟨h, hf⟩
    · replace h := h.2 hc
      refine ⟨fun hc => ?_, fun hc => ?_⟩
      · replace h := h.1 hc
        exact ⟨h, hf⟩
      · replace h := h.2 hc
        refine ⟨fun hc => ?_, fun hc => ?_⟩
        · replace h := h.1 hc
          exact ⟨h, hf⟩
        · replace h := h.2 hc
          refine N_X5_readRow (F_X5_readRow h) (fun v68 h => ?_)
          obtain ⟨h, hg⟩ := h
          replace hf : ∀ a, ¬ ((3 ≤ a ∧ a ≤ 8)) → v68 a = v a := fun a ha => by rw [hg a (by omega), hf a ha]
          clear hg
          refine N_X5_skipBlanks (F_X5_skipBlanks h) (fun v73 h => ?_)
          obtain ⟨h, hg⟩ := h
          replace hf : ∀ a, ¬ ((3 ≤ a ∧ a ≤ 8)) → v73 a = v a := fun a ha => by rw [hg a (by omega), hf a ha]
          clear hg
          obtain ⟨ho1, h⟩ := h
          refine ⟨ho1, ?_⟩
          exact h hf
  · intro h
    exact h hf
theorem N_X5_readName  {v : VT} {q q' : Int → VT → Prop} (h : P_X5_readName  v q) (hq : ∀ r w, q r w → q' r w) : P_X5_readName  v q' := by
  unfold P_X5_readName at h ⊢
  intro v2 ev2
  replace h := h v2 ev2
  refine N_X5_readWord h (fun v7 h => ?_)
  refine ⟨fun hc => ?_, fun hc => ?_⟩
  · replace h := h.1 hc
    exact hq _ _ h
  · replace h := h.2 hc
    refine ⟨fun hc => ?_, fun hc => ?_⟩
    · replace h := h.1 hc
      exact hq _ _ h
    · replace h := h.2 hc
      exact hq _ _ h
theorem F_X5_readName  {v : VT} {q : Int → VT → Prop} (h : P_X5_readName  v q) : P_X5_readName  v (fun r w => q r w ∧ ∀ a, ¬ (a = 3) → w a = v a) := by
  unfold P_X5_readName at h ⊢
  have hf : ∀ a, ¬ (a = 3) → v a = v a := fun a _ => rfl
  intro v2 ev2
  replace h := h v2 ev2
  replace hf : ∀ a, ¬ (a = 3) → v2 a = v a := fun a ha => by rw [ev2, upd2_off _ _ _ (by omega), hf a ha]
  refine N_X5_readWord (F_X5_readWord h) (fun v7 h => ?_)
  obtain ⟨h, hg⟩ := h
  replace hf : ∀ a, ¬ (a = 3) → v7 a = v a := fun a ha => by rw [hg a (by omega), hf a ha]
  clear hg
  refine ⟨fun hc => ?_, fun hc => ?_⟩
  · replace h := h.1 hc
    exact ⟨h, hf⟩
  · replace h := h.2 hc
    refine ⟨fun hc => ?_, fun hc => ?_⟩
    · replace h := h.1 hc
      exact ⟨h, hf⟩
    · replace h := h.2 hc
      exact ⟨h, hf⟩
theorem N_X6_lower {x1 : Int} {x2 : Int} {x3 : Int} {x4 : Int} {v : VT} {q q' : Int → VT → Prop} (h : P_X6_lower x1 x2 x3 x4 v q) (hq : ∀ r w, q r w → q' r w) : P_X6_lower x1 x2 x3 x4 v q' := by
  unfold P_X6_lower at h ⊢
  obtain ⟨ho1, h⟩ := h
  refine ⟨ho1, ?_⟩
  refine ⟨fun hc => ?_, fun hc => ?_⟩
  · replace h := h.1 hc
    intro K39 hKK39
    refine n_cut (h K39) ?_ ?_
    · intro s0 h
      refine hKK39 s0 ?_
      obtain ⟨ho2, h⟩ := h
      refine ⟨ho2, ?_⟩
      refine ⟨fun hc => ?_, fun hc => ?_⟩
      · replace h := h.1 hc
        obtain ⟨ho3, h⟩ := h
        refine ⟨ho3, ?_⟩
        intro v61 ev61
        replace h := h v61 ev61
        exact hq _ _ h
      · replace h := h.2 hc
        exact hq _ _ h
    · intro h
      refine ⟨fun hc => ?_, fun hc => ?_⟩
      · replace h := h.1 hc
        obtain ⟨ho4, h⟩ := h
        refine ⟨ho4, ?_⟩
        obtain ⟨ho5, h⟩ := h
        refine ⟨ho5, ?_⟩
        exact h
      · replace h := h.2 hc
        obtain ⟨ho6, h⟩ := h
        refine ⟨ho6, ?_⟩
        exact h
  · replace h := h.2 hc
    exact hq _ _ h
theorem F_X6_lower {x1 : Int} {x2 : Int} {x3 : Int} {x4 : Int} {v : VT} {q : Int → VT → Prop} (h : P_X6_lower x1 x2 x3 x4 v q) : P_X6_lower x1 x2 x3 x4 v (fun r w => q r w ∧ ∀ a, ¬ (a = 201) → w a = v a) := by
  unfold P_X6_lower at h ⊢
  have hf : ∀ a, ¬ (a = 201) → v a = v a := fun a _ => rfl
  obtain ⟨ho1, h⟩ := h
  refine ⟨ho1, ?_⟩
  refine ⟨fun hc => ?_, fun hc => ?_⟩
  · replace h := h.1 hc
    intro K39 hKK39
    refine n_cut (h K39) ?_ ?_
    · intro s0 h
      refine hKK39 s0 ?_
      obtain ⟨ho2, h⟩ := h
      refine ⟨ho2, ?_⟩
      refine ⟨fun hc => ?_, fun hc => ?_⟩
      · replace h := h.1 hc
        obtain ⟨ho3, h⟩ := h
        refine ⟨ho3, ?_⟩
        intro v61 ev61
        replace h := h v61 ev61
        replace hf : ∀ a, ¬ (a = 201) → v61 a = v a := fun a ha => by rw [ev61, upd2_off _ _ _ (by omega), hf a ha]
        exact ⟨h, hf⟩
      · replace h := h.2 hc
        exact ⟨h, hf⟩
    · intro h
      refine ⟨fun hc => ?_, fun hc => ?_⟩
      · replace h := h.1 hc
        obtain ⟨ho4, h⟩ := h
        refine ⟨ho4, ?_⟩
        obtain ⟨ho5, h⟩ := h
        refine ⟨ho5, ?_⟩
        exact h
      · replace h := h.2 hc
        obtain ⟨ho6, h⟩ := h
        refine ⟨ho6, ?_⟩
        exact h
  · replace h := h.2 hc
    exact ⟨h, hf⟩
theorem N_X6_weigh {x2 : Int} {x3 : Int} {v : VT} {q q' : VT → Prop} (h : P_X6_weigh x2 x3 v q) (hq : ∀ w, q w → q' w) : P_X6_weigh x2 x3 v q' := by
  unfold P_X6_weigh at h ⊢
  intro K37 hKK37
  refine n_cut (h K37) ?_ ?_
  · intro v37 h
    refine hKK37 v37 ?_
    intro X43 hKX43
    refine n_cut (h X43) ?_ ?_
    · intro i4 i5 v43 h
      refine hKX43 i4 i5 v43 ?_
      refine ⟨fun hc => ?_, fun hc => ?_⟩
      · replace h := h.1 hc
        exact hq _ h
      · replace h := h.2 hc
        refine ⟨fun hc => ?_, fun hc => ?_⟩
        · replace h := h.1 hc
          exact hq _ h
        · replace h := h.2 hc
          intro X63 hKX63
          refine n_cut (h X63) ?_ ?_
          · intro i4_1 i6 v63 h
            refine hKX63 i4_1 i6 v63 ?_
            refine ⟨fun hc => ?_, fun hc => ?_⟩
            · replace h := h.1 hc
              obtain ⟨ho1, h⟩ := h
              refine ⟨ho1, ?_⟩
              exact h
            · replace h := h.2 hc
              obtain ⟨ho2, h⟩ := h
              refine ⟨ho2, ?_⟩
              obtain ⟨ho3, h⟩ := h
              refine ⟨ho3, ?_⟩
              obtain ⟨ho4, h⟩ := h
              refine ⟨ho4, ?_⟩
              refine N_X6_lower h (fun r95 v95 h => ?_)
              obtain ⟨ho5, h⟩ := h
              refine ⟨ho5, ?_⟩
              obtain ⟨ho6, h⟩ := h
              refine ⟨ho6, ?_⟩
              obtain ⟨ho7, h⟩ := h
              refine ⟨ho7, ?_⟩
              refine N_X6_lower h (fun r123 v123 h => ?_)
              refine ⟨fun hc => ?_, fun hc => ?_⟩
              · replace h := h.1 hc
                obtain ⟨ho8, h⟩ := h
                refine ⟨ho8, ?_⟩
                exact h
              · replace h := h.2 hc
                refine ⟨fun hc => ?_, fun hc => ?_⟩
                · replace h := h.1 hc
                  obtain ⟨ho9, h⟩ := h
                  refine ⟨ho9, ?_⟩
                  exact h
                · replace h := h.2 hc
                  refine ⟨fun hc => ?_, fun hc => ?_⟩
                  · replace h := h.1 hc
                    obtain ⟨ho10, h⟩ := h
                    refine ⟨ho10, ?_⟩
                    exact h
                  · replace h := h.2 hc
                    obtain ⟨ho11, h⟩ := h
                    refine ⟨ho11, ?_⟩
                    exact h
          · intro h
            exact h
    · intro h
      exact h
  · intro h
    intro X3 hKX3
    refine n_cut (h X3) ?_ ?_
    · intro i4_2 v3 h
      refine hKX3 i4_2 v3 ?_
      refine ⟨fun hc => ?_, fun hc => ?_⟩
      · replace h := h.1 hc
        exact h
      · replace h := h.2 hc
        refine ⟨fun hc => ?_, fun hc => ?_⟩
        · replace h := h.1 hc
          obtain ⟨ho12, h⟩ := h
          refine ⟨ho12, ?_⟩
          intro v30 ev30
          replace h := h v30 ev30
          obtain ⟨ho13, h⟩ := h
          refine ⟨ho13, ?_⟩
          exact h
        · replace h := h.2 hc
          obtain ⟨ho14, h⟩ := h
          refine ⟨ho14, ?_⟩
          intro v30_1 ev30_1
          replace h := h v30_1 ev30_1
          obtain ⟨ho15, h⟩ := h
          refine ⟨ho15, ?_⟩
          exact h
    · intro h
      exact h
theorem F_X6_weigh {x2 : Int} {x3 : Int} {v : VT} {q : VT → Prop} (h : P_X6_weigh x2 x3 v q) : P_X6_weigh x2 x3 v (fun w => q w ∧ ∀ a, ¬ (a = 201) → w a = v a) := by
  unfold P_X6_weigh at h ⊢
  have hf : ∀ a, ¬ (a = 201) → v a = v a := fun a _ => rfl
  intro K37 hKK37
  refine n_cut (h (fun (v37 : VT) => (∀ a, ¬ (a = 201) → v37 a = v a) → K37 v37)) ?_ ?_
  · intro v37 h hf
    refine hKK37 v37 ?_
    intro X43 hKX43
    refine n_cut (h (fun (i4 : Int) (i5 : Int) (v43 : VT) => (∀ a, ¬ (a = 201) → v43 a = v a) → X43 i4 i5 v43)) ?_ ?_
    · intro i4 i5 v43 h hf
      refine hKX43 i4 i5 v43 ?_
      refine ⟨fun hc => ?_, fun hc => ?_⟩
      · replace h := h.1 hc
        exact ⟨h, hf⟩
      · replace h := h.2 hc
        refine ⟨fun hc => ?_, fun hc => ?_⟩
        · replace h := h.1 hc
          exact ⟨h, hf⟩
        · replace h := h.2 hc
          intro X63 hKX63
          refine n_cut (h (fun (i4_1 : Int) (i6 : Int) (v63 : VT) => (∀ a, ¬ (a = 201) → v63 a = v a) → X63 i4_1 i6 v63)) ?_ ?_
          · intro i4_1 i6 v63 h hf
            refine hKX63 i4_1 i6 v63 ?_
            refine ⟨fun hc => ?_, fun hc => ?_⟩
            · replace h := h.1 hc
              obtain ⟨ho1, h⟩ := h
              refine ⟨ho1, ?_⟩
              exact h hf
            · replace h := h.2 hc
              obtain ⟨ho2, h⟩ := h
              refine ⟨ho2, ?_⟩
              obtain ⟨ho3, h⟩ := h
              refine ⟨ho3, ?_⟩
              obtain ⟨ho4, h⟩ := h
              refine ⟨ho4, ?_⟩
              refine N_X6_lower (F_X6_lower h) (fun r95 v95 h => ?_)
              obtain ⟨h, hg⟩ := h
              replace hf : ∀ a, ¬ (a = 201) → v95 a = v a := fun a ha => by rw [hg a (by omega), hf a ha]
              clear hg
              obtain ⟨ho5, h⟩ := h
              refine ⟨ho5, ?_⟩
              obtain ⟨ho6, h⟩ := h
              refine ⟨ho6, ?_⟩
              obtain ⟨ho7, h⟩ := h
              refine ⟨ho7, ?_⟩
              refine N_X6_lower (F_X6_lower h) (fun r123 v123 h => ?_)
              obtain ⟨h, hg⟩ := h
              replace hf : ∀ a, ¬ (a = 201) → v123 a = v a := fun a ha => by rw [hg a (by omega), hf a ha]
              clear hg
              refine ⟨fun hc => ?_, fun hc => ?_⟩
              · replace h := h.1 hc
                obtain ⟨ho8, h⟩ := h
                refine ⟨ho8, ?_⟩
                exact h hf
              · replace h := h.2 hc
                refine ⟨fun hc => ?_, fun hc => ?_⟩
                · replace h := h.1 hc
                  obtain ⟨ho9, h⟩ := h
                  refine ⟨ho9, ?_⟩
                  exact h hf
                · replace h := h.2 hc
                  refine ⟨fun hc => ?_, fun hc => ?_⟩
                  · replace h := h.1 hc
                    obtain ⟨ho10, h⟩ := h
                    refine ⟨ho10, ?_⟩
                    exact h hf
                  · replace h := h.2 hc
                    obtain ⟨ho11, h⟩ := h
                    refine ⟨ho11, ?_⟩
                    exact h hf
          · intro h
            exact h hf
    · intro h
      exact h hf
  · intro h
    intro X3 hKX3
    refine n_cut (h (fun (i4_2 : Int) (v3 : VT) => (∀ a, ¬ (a = 201) → v3 a = v a) → X3 i4_2 v3)) ?_ ?_
    · intro i4_2 v3 h hf
      refine hKX3 i4_2 v3 ?_
      refine ⟨fun hc => ?_, fun hc => ?_⟩
      · replace h := h.1 hc
        exact h hf
      · replace h := h.2 hc
        refine ⟨fun hc => ?_, fun hc => ?_⟩
        · replace h := h.1 hc
          obtain ⟨ho12, h⟩ := h
          refine ⟨ho12, ?_⟩
          intro v30 ev30
          replace h := h v30 ev30
          replace hf : ∀ a, ¬ (a = 201) → v30 a = v a := fun a ha => by rw [ev30, upd2_off _ _ _ (by omega), hf a ha]
          obtain ⟨ho13, h⟩ := h
          refine ⟨ho13, ?_⟩
          exact h hf
        · replace h := h.2 hc
          obtain ⟨ho14, h⟩ := h
          refine ⟨ho14, ?_⟩
          intro v30_1 ev30_1
          replace h := h v30_1 ev30_1
          replace hf : ∀ a, ¬ (a = 201) → v30_1 a = v a := fun a ha => by rw [ev30_1, upd2_off _ _ _ (by omega), hf a ha]
          obtain ⟨ho15, h⟩ := h
          refine ⟨ho15, ?_⟩
          exact h hf
    · intro h
      exact h hf
theorem N_X6_nextStop {x2 : Int} {v : VT} {q q' : Int → Prop} (h : P_X6_nextStop x2 v q) (hq : ∀ r, q r → q' r) : P_X6_nextStop x2 v q' := by
  unfold P_X6_nextStop at h ⊢
  intro X5 hKX5
  refine n_cut (h X5) ?_ ?_
  · intro i3 i4 h
    refine hKX5 i3 i4 ?_
    refine ⟨fun hc => ?_, fun hc => ?_⟩
    · replace h := h.1 hc
      exact hq _ h
    · replace h := h.2 hc
      obtain ⟨ho1, h⟩ := h
      refine ⟨ho1, ?_⟩
      intro K60 hKK60
      refine n_cut (h K60) ?_ ?_
      · intro i5 h
        refine hKK60 i5 ?_
        refine ⟨fun hc => ?_, fun hc => ?_⟩
        · replace h := h.1 hc
          obtain ⟨ho2, h⟩ := h
          refine ⟨ho2, ?_⟩
          exact h
        · replace h := h.2 hc
          obtain ⟨ho3, h⟩ := h
          refine ⟨ho3, ?_⟩
          obtain ⟨ho4, h⟩ := h
          refine ⟨ho4, ?_⟩
          obtain ⟨ho5, h⟩ := h
          refine ⟨ho5, ?_⟩
          obtain ⟨ho6, h⟩ := h
          refine ⟨ho6, ?_⟩
          refine ⟨fun hc => ?_, fun hc => ?_⟩
          · replace h := h.1 hc
            obtain ⟨ho7, h⟩ := h
            refine ⟨ho7, ?_⟩
            exact h
          · replace h := h.2 hc
            refine ⟨fun hc => ?_, fun hc => ?_⟩
            · replace h := h.1 hc
              obtain ⟨ho8, h⟩ := h
              refine ⟨ho8, ?_⟩
              exact h
            · replace h := h.2 hc
              refine ⟨fun hc => ?_, fun hc => ?_⟩
              · replace h := h.1 hc
                obtain ⟨ho9, h⟩ := h
                refine ⟨ho9, ?_⟩
                exact h
              · replace h := h.2 hc
                obtain ⟨ho10, h⟩ := h
                refine ⟨ho10, ?_⟩
                exact h
      · intro h
        refine ⟨fun hc => ?_, fun hc => ?_⟩
        · replace h := h.1 hc
          obtain ⟨ho11, h⟩ := h
          refine ⟨ho11, ?_⟩
          refine ⟨fun hc => ?_, fun hc => ?_⟩
          · replace h := h.1 hc
            exact h
          · replace h := h.2 hc
            obtain ⟨ho12, h⟩ := h
            refine ⟨ho12, ?_⟩
            intro l5 el5
            replace h := h l5 el5
            exact h
        · replace h := h.2 hc
          obtain ⟨ho13, h⟩ := h
          refine ⟨ho13, ?_⟩
          intro l5_1 el5_1
          replace h := h l5_1 el5_1
          exact h
  · intro h
    exact h
theorem N_X6_walk {x2 : Int} {x3 : Int} {v : VT} {q q' : VT → Prop} (h : P_X6_walk x2 x3 v q) (hq : ∀ w, q w → q' w) : P_X6_walk x2 x3 v q' := by
  unfold P_X6_walk at h ⊢
  intro v9 ev9
  replace h := h v9 ev9
  intro v12 ev12
  replace h := h v12 ev12
  intro X15 hKX15
  refine n_cut (h X15) ?_ ?_
  · intro i4 v15 h
    refine hKX15 i4 v15 ?_
    refine ⟨fun hc => ?_, fun hc => ?_⟩
    · replace h := h.1 hc
      exact hq _ h
    · replace h := h.2 hc
      refine ⟨fun hc => ?_, fun hc => ?_⟩
      · replace h := h.1 hc
        exact hq _ h
      · replace h := h.2 hc
        refine N_X6_nextStop h (fun r34 h => ?_)
        refine ⟨fun hc => ?_, fun hc => ?_⟩
        · replace h := h.1 hc
          obtain ⟨ho1, h⟩ := h
          refine ⟨ho1, ?_⟩
          intro v56 ev56
          replace h := h v56 ev56
          obtain ⟨ho2, h⟩ := h
          refine ⟨ho2, ?_⟩
          intro v64 ev64
          replace h := h v64 ev64
          exact h
        · replace h := h.2 hc
          exact hq _ h
  · intro h
    exact h
theorem F_X6_walk {x2 : Int} {x3 : Int} {v : VT} {q : VT → Prop} (h : P_X6_walk x2 x3 v q) : P_X6_walk x2 x3 v (fun w => q w ∧ ∀ a, ¬ (a = 200 ∨ a = 202) → w a = v a) := by
  unfold P_X6_walk at h ⊢
  have hf : ∀ a, ¬ (a = 200 ∨ a = 202) → v a = v a := fun a _ => rfl
  intro v9 ev9
  replace h := h v9 ev9
  replace hf : ∀ a, ¬ (a = 200 ∨ a = 202) → v9 a = v a := fun a ha => by rw [ev9, upd2_off _ _ _ (by omega), hf a ha]
  intro v12 ev12
  replace h := h v12 ev12
  replace hf : ∀ a, ¬ (a = 200 ∨ a = 202) → v12 a = v a := fun a ha => by rw [ev12, upd2_off _ _ _ (by omega), hf a ha]
  intro X15 hKX15
  refine n_cut (h (fun (i4 : Int) (v15 : VT) => (∀ a, ¬ (a = 200 ∨ a = 202) → v15 a = v a) → X15 i4 v15)) ?_ ?_
  · intro i4 v15 h hf
    refine hKX15 i4 v15 ?_
    refine ⟨fun hc => ?_, fun hc => ?_⟩
    · replace h := h.1 hc
      exact ⟨h, hf⟩
    · replace h := h.2 hc
      refine ⟨fun hc => ?_, fun hc => ?_⟩
      · replace h := h.1 hc
        exact ⟨h, hf⟩
      · replace h := h.2 hc
        refine N_X6_nextStop h (fun r34 h => ?_)
        refine ⟨fun hc => ?_, fun hc => ?_⟩
        · replace h := h.1 hc
          obtain ⟨ho1, h⟩ := h
          refine ⟨ho1, ?_⟩
          intro v56 ev56
          replace h := h v56 ev56
          replace hf : ∀ a, ¬ (a = 200 ∨ a = 202) → v56 a = v a := fun a ha => by rw [ev56, upd2_off _ _ _ (by omega), hf a ha]
          obtain ⟨ho2, h⟩ := h
          refine ⟨ho2, ?_⟩
          intro v64 ev64
          replace h := h v64 ev64
          replace hf : ∀ a, ¬ (a = 200 ∨ a = 202) → v64 a = v a := fun a ha => by rw [ev64, upd2_off _ _ _ (by omega), hf a ha]
          exact h hf
        · replace h := h.2 hc
          exact ⟨h, hf⟩
  · intro h
    exact h hf
theorem N_X8_halfOf {x1 : Int} {v : VT} {q q' : Int → Prop} (h : P_X8_halfOf x1 v q) (hq : ∀ r, q r → q' r) : P_X8_halfOf x1 v q' := by
  unfold P_X8_halfOf at h ⊢
  refine ⟨fun hc => ?_, fun hc => ?_⟩
  · replace h := h.1 hc
    refine N_X10_allBits h (fun r24 h => ?_)
    obtain ⟨ho1, h⟩ := h
    refine ⟨ho1, ?_⟩
    exact hq _ h
  · replace h := h.2 hc
    obtain ⟨ho2, h⟩ := h
    refine ⟨ho2, ?_⟩
    exact hq _ h
theorem N_X8_countPairs {x1 : Int} {x2 : Int} {v : VT} {q q' : Int → Prop} (h : P_X8_countPairs x1 x2 v q) (hq : ∀ r, q r → q' r) : P_X8_countPairs x1 x2 v q' := by
  unfold P_X8_countPairs at h ⊢
  intro X5 hKX5
  refine n_cut (h X5) ?_ ?_
  · intro i3 i4 h
    refine hKX5 i3 i4 ?_
    refine ⟨fun hc => ?_, fun hc => ?_⟩
    · replace h := h.1 hc
      exact hq _ h
    · replace h := h.2 hc
      obtain ⟨ho1, h⟩ := h
      refine ⟨ho1, ?_⟩
      obtain ⟨ho2, h⟩ := h
      refine ⟨ho2, ?_⟩
      refine N_X8_halfOf h (fun r20 h => ?_)
      obtain ⟨ho3, h⟩ := h
      refine ⟨ho3, ?_⟩
      obtain ⟨ho4, h⟩ := h
      refine ⟨ho4, ?_⟩
      refine N_X8_halfOf h (fun r32 h => ?_)
      refine ⟨fun hc => ?_, fun hc => ?_⟩
      · replace h := h.1 hc
        obtain ⟨ho5, h⟩ := h
        refine ⟨ho5, ?_⟩
        exact h
      · replace h := h.2 hc
        obtain ⟨ho6, h⟩ := h
        refine ⟨ho6, ?_⟩
        obtain ⟨ho7, h⟩ := h
        refine ⟨ho7, ?_⟩
        exact h
  · intro h
    exact h
theorem N_X7_highestOf {x0 : Int} {v : VT} {q q' : Int → Prop} (h : P_X7_highestOf x0 v q) (hq : ∀ r, q r → q' r) : P_X7_highestOf x0 v q' := by
  unfold P_X7_highestOf at h ⊢
  intro X4 hKX4
  refine n_cut (h X4) ?_ ?_
  · intro i1 i2 h
    refine hKX4 i1 i2 ?_
    refine ⟨fun hc => ?_, fun hc => ?_⟩
    · replace h := h.1 hc
      exact hq _ h
    · replace h := h.2 hc
      refine N_X10_hasBit h (fun r12 h => ?_)
      refine ⟨fun hc => ?_, fun hc => ?_⟩
      · replace h := h.1 hc
        obtain ⟨ho1, h⟩ := h
        refine ⟨ho1, ?_⟩
        exact h
      · replace h := h.2 hc
        obtain ⟨ho2, h⟩ := h
        refine ⟨ho2, ?_⟩
        exact h
  · intro h
    exact h
theorem N_X7_addCrossing (n : Nat) : ∀ {x1 : Int} {x2 : Int} {x3 : Int} {v : VT} {q q' : VT → Prop} (h : P_X7_addCrossing n x1 x2 x3 v q) (hq : ∀ w, q w → q' w), P_X7_addCrossing n x1 x2 x3 v q' := by
  induction n with
  | zero => intro x1 x2 x3 v q q' h; exact h.elim
  | succ n ih =>
    intro x1 x2 x3 v q q' h hq
    unfold P_X7_addCrossing at h ⊢
    refine N_J6_bitCount_0f7a4 h (fun r1 h => ?_)
    refine N_J6_bitCount_0f7a4 h (fun r9 h => ?_)
    obtain ⟨ho1, h⟩ := h
    refine ⟨ho1, ?_⟩
    refine ⟨fun hc => ?_, fun hc => ?_⟩
    · replace h := h.1 hc
      refine ⟨fun hc => ?_, fun hc => ?_⟩
      · replace h := h.1 hc
        intro v32 ev32
        replace h := h v32 ev32
        intro v37 ev37
        replace h := h v37 ev37
        exact hq _ h
      · replace h := h.2 hc
        refine ⟨fun hc => ?_, fun hc => ?_⟩
        · replace h := h.1 hc
          refine N_X7_highestOf h (fun r42 h => ?_)
          intro l6 el6
          replace h := h l6 el6
          obtain ⟨ho2, h⟩ := h
          refine ⟨ho2, ?_⟩
          refine ih h (fun v64 h => ?_)
          obtain ⟨ho3, h⟩ := h
          refine ⟨ho3, ?_⟩
          obtain ⟨ho4, h⟩ := h
          refine ⟨ho4, ?_⟩
          refine ih h (fun v87 h => ?_)
          exact hq _ h
        · replace h := h.2 hc
          intro v32_1 ev32_1
          replace h := h v32_1 ev32_1
          intro v37_1 ev37_1
          replace h := h v37_1 ev37_1
          exact hq _ h
    · replace h := h.2 hc
      exact hq _ h
theorem F_X7_addCrossing (n : Nat) : ∀ {x1 : Int} {x2 : Int} {x3 : Int} {v : VT} {q : VT → Prop} (h : P_X7_addCrossing n x1 x2 x3 v q), P_X7_addCrossing n x1 x2 x3 v (fun w => q w ∧ ∀ a, ¬ (a = 203) → w a = v a) := by
  induction n with
  | zero => intro x1 x2 x3 v q h; exact h.elim
  | succ n ih =>
    intro x1 x2 x3 v q h
    unfold P_X7_addCrossing at h ⊢
    have hf : ∀ a, ¬ (a = 203) → v a = v a := fun a _ => rfl
    refine N_J6_bitCount_0f7a4 h (fun r1 h => ?_)
    refine N_J6_bitCount_0f7a4 h (fun r9 h => ?_)
    obtain ⟨ho1, h⟩ := h
    refine ⟨ho1, ?_⟩
    refine ⟨fun hc => ?_, fun hc => ?_⟩
    · replace h := h.1 hc
      refine ⟨fun hc => ?_, fun hc => ?_⟩
      · replace h := h.1 hc
        intro v32 ev32
        replace h := h v32 ev32
        replace hf : ∀ a, ¬ (a = 203) → v32 a = v a := fun a ha => by rw [ev32, upd2_off _ _ _ (by omega), hf a ha]
        intro v37 ev37
        replace h := h v37 ev37
        replace hf : ∀ a, ¬ (a = 203) → v37 a = v a := fun a ha => by rw [ev37, upd2_off _ _ _ (by omega), hf a ha]
        exact ⟨h, hf⟩
      · replace h := h.2 hc
        refine ⟨fun hc => ?_, fun hc => ?_⟩
        · replace h := h.1 hc
          refine N_X7_highestOf h (fun r42 h => ?_)
          intro l6 el6
          replace h := h l6 el6
          obtain ⟨ho2, h⟩ := h
          refine ⟨ho2, ?_⟩
          refine N_X7_addCrossing _ (ih h) (fun v64 h => ?_)
          obtain ⟨h, hg⟩ := h
          replace hf : ∀ a, ¬ (a = 203) → v64 a = v a := fun a ha => by rw [hg a (by omega), hf a ha]
          clear hg
          obtain ⟨ho3, h⟩ := h
          refine ⟨ho3, ?_⟩
          obtain ⟨ho4, h⟩ := h
          refine ⟨ho4, ?_⟩
          refine N_X7_addCrossing _ (ih h) (fun v87 h => ?_)
          obtain ⟨h, hg⟩ := h
          replace hf : ∀ a, ¬ (a = 203) → v87 a = v a := fun a ha => by rw [hg a (by omega), hf a ha]
          clear hg
          exact ⟨h, hf⟩
        · replace h := h.2 hc
          intro v32_1 ev32_1
          replace h := h v32_1 ev32_1
          replace hf : ∀ a, ¬ (a = 203) → v32_1 a = v a := fun a ha => by rw [ev32_1, upd2_off _ _ _ (by omega), hf a ha]
          intro v37_1 ev37_1
          replace h := h v37_1 ev37_1
          replace hf : ∀ a, ¬ (a = 203) → v37_1 a = v a := fun a ha => by rw [ev37_1, upd2_off _ _ _ (by omega), hf a ha]
          exact ⟨h, hf⟩
    · replace h := h.2 hc
      exact ⟨h, hf⟩
theorem N_X7_findCrossing  {v : VT} {q q' : VT → Prop} (h : P_X7_findCrossing  v q) (hq : ∀ w, q w → q' w) : P_X7_findCrossing  v q' := by
  unfold P_X7_findCrossing at h ⊢
  intro K66 hKK66
  refine n_cut (h K66) ?_ ?_
  · intro v66 h
    refine hKK66 v66 ?_
    intro v68 ev68
    replace h := h v68 ev68
    intro v73 ev73
    replace h := h v73 ev73
    refine N_X10_allBits h (fun r82 h => ?_)
    refine N_X7_addCrossing _ h (fun v89 h => ?_)
    exact hq _ h
  · intro h
    intro X2 hKX2
    refine n_cut (h X2) ?_ ?_
    · intro i2 v2 h
      refine hKX2 i2 v2 ?_
      refine ⟨fun hc => ?_, fun hc => ?_⟩
      · replace h := h.1 hc
        exact h
      · replace h := h.2 hc
        obtain ⟨ho1, h⟩ := h
        refine ⟨ho1, ?_⟩
        intro v16 ev16
        replace h := h v16 ev16
        intro X19 hKX19
        refine n_cut (h X19) ?_ ?_
        · intro i3 v19 h
          refine hKX19 i3 v19 ?_
          refine ⟨fun hc => ?_, fun hc => ?_⟩
          · replace h := h.1 hc
            obtain ⟨ho2, h⟩ := h
            refine ⟨ho2, ?_⟩
            exact h
          · replace h := h.2 hc
            refine ⟨fun hc => ?_, fun hc => ?_⟩
            · replace h := h.1 hc
              obtain ⟨ho3, h⟩ := h
              refine ⟨ho3, ?_⟩
              exact h
            · replace h := h.2 hc
              refine N_X8_countPairs h (fun r35 h => ?_)
              refine ⟨fun hc => ?_, fun hc => ?_⟩
              · replace h := h.1 hc
                obtain ⟨ho4, h⟩ := h
                refine ⟨ho4, ?_⟩
                exact h
              · replace h := h.2 hc
                obtain ⟨ho5, h⟩ := h
                refine ⟨ho5, ?_⟩
                obtain ⟨ho6, h⟩ := h
                refine ⟨ho6, ?_⟩
                intro v53 ev53
                replace h := h v53 ev53
                obtain ⟨ho7, h⟩ := h
                refine ⟨ho7, ?_⟩
                exact h
        · intro h
          exact h
    · intro h
      exact h
theorem F_X7_findCrossing  {v : VT} {q : VT → Prop} (h : P_X7_findCrossing  v q) : P_X7_findCrossing  v (fun w => q w ∧ ∀ a, ¬ ((203 ≤ a ∧ a ≤ 204)) → w a = v a) := by
  unfold P_X7_findCrossing at h ⊢
  have hf : ∀ a, ¬ ((203 ≤ a ∧ a ≤ 204)) → v a = v a := fun a _ => rfl
  intro K66 hKK66
  refine n_cut (h (fun (v66 : VT) => (∀ a, ¬ ((203 ≤ a ∧ a ≤ 204)) → v66 a = v a) → K66 v66)) ?_ ?_
  · intro v66 h hf
    refine hKK66 v66 ?_
    intro v68 ev68
    replace h := h v68 ev68
    replace hf : ∀ a, ¬ ((203 ≤ a ∧ a ≤ 204)) → v68 a = v a := fun a ha => by rw [ev68, upd2_off _ _ _ (by omega), hf a ha]
    intro v73 ev73
    replace h := h v73 ev73
    replace hf : ∀ a, ¬ ((203 ≤ a ∧ a ≤ 204)) → v73 a = v a := fun a ha => by rw [ev73, upd2_off _ _ _ (by omega), hf a ha]
    refine N_X10_allBits h (fun r82 h => ?_)
    refine N_X7_addCrossing _ (F_X7_addCrossing _ h) (fun v89 h => ?_)
    obtain ⟨h, hg⟩ := h
    replace hf : ∀ a, ¬ ((203 ≤ a ∧ a ≤ 204)) → v89 a = v a := fun a ha => by rw [hg a (by omega), hf a ha]
    clear hg
    exact ⟨h, hf⟩
  · intro h
    intro X2 hKX2
    refine n_cut (h (fun (i2 : Int) (v2 : VT) => (∀ a, ¬ ((203 ≤ a ∧ a ≤ 204)) → v2 a = v a) → X2 i2 v2)) ?_ ?_
    · intro i2 v2 h hf
      refine hKX2 i2 v2 ?_
      refine ⟨fun hc => ?_, fun hc => ?_⟩
      · replace h := h.1 hc
        exact h hf
      · replace h := h.2 hc
        obtain ⟨ho1, h⟩ := h
        refine ⟨ho1, ?_⟩
        intro v16 ev16
        replace h := h v16 ev16
        replace hf : ∀ a, ¬ ((203 ≤ a ∧ a ≤ 204)) → v16 a = v a := fun a ha => by rw [ev16, upd2_off _ _ _ (by omega), hf a ha]
        intro X19 hKX19
        refine n_cut (h (fun (i3 : Int) (v19 : VT) => (∀ a, ¬ ((203 ≤ a ∧ a ≤ 204)) → v19 a = v a) → X19 i3 v19)) ?_ ?_
        · intro i3 v19 h hf
          refine hKX19 i3 v19 ?_
          refine ⟨fun hc => ?_, fun hc => ?_⟩
          · replace h := h.1 hc
            obtain ⟨ho2, h⟩ := h
            refine ⟨ho2, ?_⟩
            exact h hf
          · replace h := h.2 hc
            refine ⟨fun hc => ?_, fun hc => ?_⟩
            · replace h := h.1 hc
              obtain ⟨ho3, h⟩ := h
              refine ⟨ho3, ?_⟩
              exact h hf
            · replace h := h.2 hc
              refine N_X8_countPairs h (fun r35 h => ?_)
              refine ⟨fun hc => ?_, fun hc => ?_⟩
              · replace h := h.1 hc
                obtain ⟨ho4, h⟩ := h
                refine ⟨ho4, ?_⟩
                exact h hf
              · replace h := h.2 hc
                obtain ⟨ho5, h⟩ := h
                refine ⟨ho5, ?_⟩
                obtain ⟨ho6, h⟩ := h
                refine ⟨ho6, ?_⟩
                intro v53 ev53
                replace h := h v53 ev53
                replace hf : ∀ a, ¬ ((203 ≤ a ∧ a ≤ 204)) → v53 a = v a := fun a ha => by rw [ev53, upd2_off _ _ _ (by omega), hf a ha]
                obtain ⟨ho7, h⟩ := h
                refine ⟨ho7, ?_⟩
                exact h hf
        · intro h
          exact h hf
    · intro h
      exact h hf
theorem N_X8_doFit {x1 : Int} {x2 : Int} {v : VT} {q q' : Int → Prop} (h : P_X8_doFit x1 x2 v q) (hq : ∀ r, q r → q' r) : P_X8_doFit x1 x2 v q' := by
  unfold P_X8_doFit at h ⊢
  refine N_X8_halfOf h (fun r2 h => ?_)
  refine N_X8_halfOf h (fun r8 h => ?_)
  refine N_X10_allBits h (fun r21 h => ?_)
  refine ⟨fun hc => ?_, fun hc => ?_⟩
  · replace h := h.1 hc
    exact hq _ h
  · replace h := h.2 hc
    refine ⟨fun hc => ?_, fun hc => ?_⟩
    · replace h := h.1 hc
      exact hq _ h
    · replace h := h.2 hc
      exact hq _ h
theorem N_X7_addPair (n : Nat) : ∀ {x1 : Int} {x2 : Int} {x3 : Int} {v : VT} {q q' : VT → Prop} (h : P_X7_addPair n x1 x2 x3 v q) (hq : ∀ w, q w → q' w), P_X7_addPair n x1 x2 x3 v q' := by
  induction n with
  | zero => intro x1 x2 x3 v q q' h; exact h.elim
  | succ n ih =>
    intro x1 x2 x3 v q q' h hq
    unfold P_X7_addPair at h ⊢
    intro v9 ev9
    replace h := h v9 ev9
    intro K86 hKK86
    refine n_cut (h K86) ?_ ?_
    · intro i4 i6 h
      refine hKK86 i4 i6 ?_
      refine ⟨fun hc => ?_, fun hc => ?_⟩
      · replace h := h.1 hc
        exact hq _ h
      · replace h := h.2 hc
        refine ⟨fun hc => ?_, fun hc => ?_⟩
        · replace h := h.1 hc
          intro X102 hKX102
          refine n_cut (h X102) ?_ ?_
          · intro i7 v102 h
            refine hKX102 i7 v102 ?_
            refine ⟨fun hc => ?_, fun hc => ?_⟩
            · replace h := h.1 hc
              exact hq _ h
            · replace h := h.2 hc
              obtain ⟨ho1, h⟩ := h
              refine ⟨ho1, ?_⟩
              refine ⟨fun hc => ?_, fun hc => ?_⟩
              · replace h := h.1 hc
                exact hq _ h
              · replace h := h.2 hc
                obtain ⟨ho2, h⟩ := h
                refine ⟨ho2, ?_⟩
                refine N_X10_hasBit h (fun r132 h => ?_)
                refine ⟨fun hc => ?_, fun hc => ?_⟩
                · replace h := h.1 hc
                  obtain ⟨ho3, h⟩ := h
                  refine ⟨ho3, ?_⟩
                  exact h
                · replace h := h.2 hc
                  obtain ⟨ho4, h⟩ := h
                  refine ⟨ho4, ?_⟩
                  refine ih h (fun v158 h => ?_)
                  obtain ⟨ho5, h⟩ := h
                  refine ⟨ho5, ?_⟩
                  exact h
          · intro h
            exact h
        · replace h := h.2 hc
          exact hq _ h
    · intro h
      intro X24 hKX24
      refine n_cut (h X24) ?_ ?_
      · intro i4_1 i5 i6_1 i7_1 h
        refine hKX24 i4_1 i5 i6_1 i7_1 ?_
        refine ⟨fun hc => ?_, fun hc => ?_⟩
        · replace h := h.1 hc
          exact h
        · replace h := h.2 hc
          refine N_X10_hasBit h (fun r33 h => ?_)
          intro K55 hKK55
          refine n_cut (h K55) ?_ ?_
          · intro s0 h
            refine hKK55 s0 ?_
            refine ⟨fun hc => ?_, fun hc => ?_⟩
            · replace h := h.1 hc
              obtain ⟨ho6, h⟩ := h
              refine ⟨ho6, ?_⟩
              exact h
            · replace h := h.2 hc
              obtain ⟨ho7, h⟩ := h
              refine ⟨ho7, ?_⟩
              refine ⟨fun hc => ?_, fun hc => ?_⟩
              · replace h := h.1 hc
                obtain ⟨ho8, h⟩ := h
                refine ⟨ho8, ?_⟩
                exact h
              · replace h := h.2 hc
                obtain ⟨ho9, h⟩ := h
                refine ⟨ho9, ?_⟩
                exact h
          · intro h
            refine ⟨fun hc => ?_, fun hc => ?_⟩
            · replace h := h.1 hc
              exact h
            · replace h := h.2 hc
              obtain ⟨ho10, h⟩ := h
              refine ⟨ho10, ?_⟩
              refine N_J6_bitCount_0f7a4 h (fun r48 h => ?_)
              exact h
      · intro h
        exact h
theorem F_X7_addPair (n : Nat) : ∀ {x1 : Int} {x2 : Int} {x3 : Int} {v : VT} {q : VT → Prop} (h : P_X7_addPair n x1 x2 x3 v q), P_X7_addPair n x1 x2 x3 v (fun w => q w ∧ ∀ a, ¬ (a = 203) → w a = v a) := by
  induction n with
  | zero => intro x1 x2 x3 v q h; exact h.elim
  | succ n ih =>
    intro x1 x2 x3 v q h
    unfold P_X7_addPair at h ⊢
    have hf : ∀ a, ¬ (a = 203) → v a = v a := fun a _ => rfl
    intro v9 ev9
    replace h := h v9 ev9
    replace hf : ∀ a, ¬ (a = 203) → v9 a = v a := fun a ha => by rw [ev9, upd2_off _ _ _ (by omega), hf a ha]
    intro K86 hKK86
    refine n_cut (h K86) ?_ ?_
    · intro i4 i6 h
      refine hKK86 i4 i6 ?_
      refine ⟨fun hc => ?_, fun hc => ?_⟩
      · replace h := h.1 hc
        exact ⟨h, hf⟩
      · replace h := h.2 hc
        refine ⟨fun hc => ?_, fun hc => ?_⟩
        · replace h := h.1 hc
          intro X102 hKX102
          refine n_cut (h (fun (i7 : Int) (v102 : VT) => (∀ a, ¬ (a = 203) → v102 a = v a) → X102 i7 v102)) ?_ ?_
          · intro i7 v102 h hf
            refine hKX102 i7 v102 ?_
            refine ⟨fun hc => ?_, fun hc => ?_⟩
            · replace h := h.1 hc
              exact ⟨h, hf⟩
            · replace h := h.2 hc
              obtain ⟨ho1, h⟩ := h
              refine ⟨ho1, ?_⟩
              refine ⟨fun hc => ?_, fun hc => ?_⟩
              · replace h := h.1 hc
                exact ⟨h, hf⟩
              · replace h := h.2 hc
                obtain ⟨ho2, h⟩ := h
                refine ⟨ho2, ?_⟩
                refine N_X10_hasBit h (fun r132 h => ?_)
                refine ⟨fun hc => ?_, fun hc => ?_⟩
                · replace h := h.1 hc
                  obtain ⟨ho3, h⟩ := h
                  refine ⟨ho3, ?_⟩
                  exact h hf
                · replace h := h.2 hc
                  obtain ⟨ho4, h⟩ := h
                  refine ⟨ho4, ?_⟩
                  refine N_X7_addPair _ (ih h) (fun v158 h => ?_)
                  obtain ⟨h, hg⟩ := h
                  replace hf : ∀ a, ¬ (a = 203) → v158 a = v a := fun a ha => by rw [hg a (by omega), hf a ha]
                  clear hg
                  obtain ⟨ho5, h⟩ := h
                  refine ⟨ho5, ?_⟩
                  exact h hf
          · intro h
            exact h hf
        · replace h := h.2 hc
          exact ⟨h, hf⟩
    · intro h
      intro X24 hKX24
      refine n_cut (h X24) ?_ ?_
      · intro i4_1 i5 i6_1 i7_1 h
        refine hKX24 i4_1 i5 i6_1 i7_1 ?_
        refine ⟨fun hc => ?_, fun hc => ?_⟩
        · replace h := h.1 hc
          exact h
        · replace h := h.2 hc
          refine N_X10_hasBit h (fun r33 h => ?_)
          intro K55 hKK55
          refine n_cut (h K55) ?_ ?_
          · intro s0 h
            refine hKK55 s0 ?_
            refine ⟨fun hc => ?_, fun hc => ?_⟩
            · replace h := h.1 hc
              obtain ⟨ho6, h⟩ := h
              refine ⟨ho6, ?_⟩
              exact h
            · replace h := h.2 hc
              obtain ⟨ho7, h⟩ := h
              refine ⟨ho7, ?_⟩
              refine ⟨fun hc => ?_, fun hc => ?_⟩
              · replace h := h.1 hc
                obtain ⟨ho8, h⟩ := h
                refine ⟨ho8, ?_⟩
                exact h
              · replace h := h.2 hc
                obtain ⟨ho9, h⟩ := h
                refine ⟨ho9, ?_⟩
                exact h
          · intro h
            refine ⟨fun hc => ?_, fun hc => ?_⟩
            · replace h := h.1 hc
              exact h
            · replace h := h.2 hc
              obtain ⟨ho10, h⟩ := h
              refine ⟨ho10, ?_⟩
              refine N_J6_bitCount_0f7a4 h (fun r48 h => ?_)
              exact h
      · intro h
        exact h
theorem N_X7_findPairs  {v : VT} {q q' : VT → Prop} (h : P_X7_findPairs  v q) (hq : ∀ w, q w → q' w) : P_X7_findPairs  v q' := by
  unfold P_X7_findPairs at h ⊢
  obtain ⟨ho1, h⟩ := h
  refine ⟨ho1, ?_⟩
  intro l2 el2
  replace h := h l2 el2
  intro K71 hKK71
  refine n_cut (h K71) ?_ ?_
  · intro v71 h
    refine hKK71 v71 ?_
    intro v73 ev73
    replace h := h v73 ev73
    refine N_X10_allBits h (fun r78 h => ?_)
    refine N_X7_addPair _ h (fun v83 h => ?_)
    exact hq _ h
  · intro h
    intro X9 hKX9
    refine n_cut (h X9) ?_ ?_
    · intro i3 v9 h
      refine hKX9 i3 v9 ?_
      refine ⟨fun hc => ?_, fun hc => ?_⟩
      · replace h := h.1 hc
        exact h
      · replace h := h.2 hc
        obtain ⟨ho2, h⟩ := h
        refine ⟨ho2, ?_⟩
        intro v20 ev20
        replace h := h v20 ev20
        intro X24 hKX24
        refine n_cut (h X24) ?_ ?_
        · intro i4 v24 h
          refine hKX24 i4 v24 ?_
          refine ⟨fun hc => ?_, fun hc => ?_⟩
          · replace h := h.1 hc
            obtain ⟨ho3, h⟩ := h
            refine ⟨ho3, ?_⟩
            exact h
          · replace h := h.2 hc
            refine ⟨fun hc => ?_, fun hc => ?_⟩
            · replace h := h.1 hc
              obtain ⟨ho4, h⟩ := h
              refine ⟨ho4, ?_⟩
              exact h
            · replace h := h.2 hc
              refine N_X8_doFit h (fun r40 h => ?_)
              refine ⟨fun hc => ?_, fun hc => ?_⟩
              · replace h := h.1 hc
                obtain ⟨ho5, h⟩ := h
                refine ⟨ho5, ?_⟩
                exact h
              · replace h := h.2 hc
                obtain ⟨ho6, h⟩ := h
                refine ⟨ho6, ?_⟩
                obtain ⟨ho7, h⟩ := h
                refine ⟨ho7, ?_⟩
                intro v58 ev58
                replace h := h v58 ev58
                obtain ⟨ho8, h⟩ := h
                refine ⟨ho8, ?_⟩
                exact h
        · intro h
          exact h
    · intro h
      exact h
theorem F_X7_findPairs  {v : VT} {q : VT → Prop} (h : P_X7_findPairs  v q) : P_X7_findPairs  v (fun w => q w ∧ ∀ a, ¬ ((203 ≤ a ∧ a ≤ 204)) → w a = v a) := by
  unfold P_X7_findPairs at h ⊢
  have hf : ∀ a, ¬ ((203 ≤ a ∧ a ≤ 204)) → v a = v a := fun a _ => rfl
  obtain ⟨ho1, h⟩ := h
  refine ⟨ho1, ?_⟩
  intro l2 el2
  replace h := h l2 el2
  intro K71 hKK71
  refine n_cut (h (fun (v71 : VT) => (∀ a, ¬ ((203 ≤ a ∧ a ≤ 204)) → v71 a = v a) → K71 v71)) ?_ ?_
  · intro v71 h hf
    refine hKK71 v71 ?_
    intro v73 ev73
    replace h := h v73 ev73
    replace hf : ∀ a, ¬ ((203 ≤ a ∧ a ≤ 204)) → v73 a = v a := fun a ha => by rw [ev73, upd2_off _ _ _ (by omega), hf a ha]
    refine N_X10_allBits h (fun r78 h => ?_)
    refine N_X7_addPair _ (F_X7_addPair _ h) (fun v83 h => ?_)
    obtain ⟨h, hg⟩ := h
    replace hf : ∀ a, ¬ ((203 ≤ a ∧ a ≤ 204)) → v83 a = v a := fun a ha => by rw [hg a (by omega), hf a ha]
    clear hg
    exact ⟨h, hf⟩
  · intro h
    intro X9 hKX9
    refine n_cut (h (fun (i3 : Int) (v9 : VT) => (∀ a, ¬ ((203 ≤ a ∧ a ≤ 204)) → v9 a = v a) → X9 i3 v9)) ?_ ?_
    · intro i3 v9 h hf
      refine hKX9 i3 v9 ?_
      refine ⟨fun hc => ?_, fun hc => ?_⟩
      · replace h := h.1 hc
        exact h hf
      · replace h := h.2 hc
        obtain ⟨ho2, h⟩ := h
        refine ⟨ho2, ?_⟩
        intro v20 ev20
        replace h := h v20 ev20
        replace hf : ∀ a, ¬ ((203 ≤ a ∧ a ≤ 204)) → v20 a = v a := fun a ha => by rw [ev20, upd2_off _ _ _ (by omega), hf a ha]
        intro X24 hKX24
        refine n_cut (h (fun (i4 : Int) (v24 : VT) => (∀ a, ¬ ((203 ≤ a ∧ a ≤ 204)) → v24 a = v a) → X24 i4 v24)) ?_ ?_
        · intro i4 v24 h hf
          refine hKX24 i4 v24 ?_
          refine ⟨fun hc => ?_, fun hc => ?_⟩
          · replace h := h.1 hc
            obtain ⟨ho3, h⟩ := h
            refine ⟨ho3, ?_⟩
            exact h hf
          · replace h := h.2 hc
            refine ⟨fun hc => ?_, fun hc => ?_⟩
            · replace h := h.1 hc
              obtain ⟨ho4, h⟩ := h
              refine ⟨ho4, ?_⟩
              exact h hf
            · replace h := h.2 hc
              refine N_X8_doFit h (fun r40 h => ?_)
              refine ⟨fun hc => ?_, fun hc => ?_⟩
              · replace h := h.1 hc
                obtain ⟨ho5, h⟩ := h
                refine ⟨ho5, ?_⟩
                exact h hf
              · replace h := h.2 hc
                obtain ⟨ho6, h⟩ := h
                refine ⟨ho6, ?_⟩
                obtain ⟨ho7, h⟩ := h
                refine ⟨ho7, ?_⟩
                intro v58 ev58
                replace h := h v58 ev58
                replace hf : ∀ a, ¬ ((203 ≤ a ∧ a ≤ 204)) → v58 a = v a := fun a ha => by rw [ev58, upd2_off _ _ _ (by omega), hf a ha]
                obtain ⟨ho8, h⟩ := h
                refine ⟨ho8, ?_⟩
                exact h hf
        · intro h
          exact h hf
    · intro h
      exact h hf
theorem N_X8_tell {x1 : Int} {x2 : Int} {x3 : Int} {v : VT} {q q' : VT → Prop} (h : P_X8_tell x1 x2 x3 v q) (hq : ∀ w, q w → q' w) : P_X8_tell x1 x2 x3 v q' := by
  unfold P_X8_tell at h ⊢
  intro v2 ev2
  replace h := h v2 ev2
  intro v7 ev7
  replace h := h v7 ev7
  intro v12 ev12
  replace h := h v12 ev12
  exact hq _ h
theorem F_X8_tell {x1 : Int} {x2 : Int} {x3 : Int} {v : VT} {q : VT → Prop} (h : P_X8_tell x1 x2 x3 v q) : P_X8_tell x1 x2 x3 v (fun w => q w ∧ ∀ a, ¬ (a = 197) → w a = v a) := by
  unfold P_X8_tell at h ⊢
  have hf : ∀ a, ¬ (a = 197) → v a = v a := fun a _ => rfl
  intro v2 ev2
  replace h := h v2 ev2
  replace hf : ∀ a, ¬ (a = 197) → v2 a = v a := fun a ha => by rw [ev2, upd2_off _ _ _ (by omega), hf a ha]
  intro v7 ev7
  replace h := h v7 ev7
  replace hf : ∀ a, ¬ (a = 197) → v7 a = v a := fun a ha => by rw [ev7, upd2_off _ _ _ (by omega), hf a ha]
  intro v12 ev12
  replace h := h v12 ev12
  replace hf : ∀ a, ¬ (a = 197) → v12 a = v a := fun a ha => by rw [ev12, upd2_off _ _ _ (by omega), hf a ha]
  exact ⟨h, hf⟩
theorem N_X8_findApart  {v : VT} {q q' : VT → Prop} (h : P_X8_findApart  v q) (hq : ∀ w, q w → q' w) : P_X8_findApart  v q' := by
  unfold P_X8_findApart at h ⊢
  intro X2 hKX2
  refine n_cut (h X2) ?_ ?_
  · intro i2 v2 h
    refine hKX2 i2 v2 ?_
    refine ⟨fun hc => ?_, fun hc => ?_⟩
    · replace h := h.1 hc
      exact hq _ h
    · replace h := h.2 hc
      refine ⟨fun hc => ?_, fun hc => ?_⟩
      · replace h := h.1 hc
        exact hq _ h
      · replace h := h.2 hc
        obtain ⟨ho1, h⟩ := h
        refine ⟨ho1, ?_⟩
        intro X21 hKX21
        refine n_cut (h X21) ?_ ?_
        · intro i3 v21 h
          refine hKX21 i3 v21 ?_
          refine ⟨fun hc => ?_, fun hc => ?_⟩
          · replace h := h.1 hc
            obtain ⟨ho2, h⟩ := h
            refine ⟨ho2, ?_⟩
            exact h
          · replace h := h.2 hc
            refine ⟨fun hc => ?_, fun hc => ?_⟩
            · replace h := h.1 hc
              obtain ⟨ho3, h⟩ := h
              refine ⟨ho3, ?_⟩
              exact h
            · replace h := h.2 hc
              obtain ⟨ho4, h⟩ := h
              refine ⟨ho4, ?_⟩
              obtain ⟨ho5, h⟩ := h
              refine ⟨ho5, ?_⟩
              refine ⟨fun hc => ?_, fun hc => ?_⟩
              · replace h := h.1 hc
                obtain ⟨ho6, h⟩ := h
                refine ⟨ho6, ?_⟩
                exact h
              · replace h := h.2 hc
                refine N_X8_tell h (fun v52 h => ?_)
                obtain ⟨ho7, h⟩ := h
                refine ⟨ho7, ?_⟩
                exact h
        · intro h
          exact h
  · intro h
    exact h
theorem F_X8_findApart  {v : VT} {q : VT → Prop} (h : P_X8_findApart  v q) : P_X8_findApart  v (fun w => q w ∧ ∀ a, ¬ (a = 197) → w a = v a) := by
  unfold P_X8_findApart at h ⊢
  have hf : ∀ a, ¬ (a = 197) → v a = v a := fun a _ => rfl
  intro X2 hKX2
  refine n_cut (h (fun (i2 : Int) (v2 : VT) => (∀ a, ¬ (a = 197) → v2 a = v a) → X2 i2 v2)) ?_ ?_
  · intro i2 v2 h hf
    refine hKX2 i2 v2 ?_
    refine ⟨fun hc => ?_, fun hc => ?_⟩
    · replace h := h.1 hc
      exact ⟨h, hf⟩
    · replace h := h.2 hc
      refine ⟨fun hc => ?_, fun hc => ?_⟩
      · replace h := h.1 hc
        exact ⟨h, hf⟩
      · replace h := h.2 hc
        obtain ⟨ho1, h⟩ := h
        refine ⟨ho1, ?_⟩
        intro X21 hKX21
        refine n_cut (h (fun (i3 : Int) (v21 : VT) => (∀ a, ¬ (a = 197) → v21 a = v a) → X21 i3 v21)) ?_ ?_
        · intro i3 v21 h hf
          refine hKX21 i3 v21 ?_
          refine ⟨fun hc => ?_, fun hc => ?_⟩
          · replace h := h.1 hc
            obtain ⟨ho2, h⟩ := h
            refine ⟨ho2, ?_⟩
            exact h hf
          · replace h := h.2 hc
            refine ⟨fun hc => ?_, fun hc => ?_⟩
            · replace h := h.1 hc
              obtain ⟨ho3, h⟩ := h
              refine ⟨ho3, ?_⟩
              exact h hf
            · replace h := h.2 hc
              obtain ⟨ho4, h⟩ := h
              refine ⟨ho4, ?_⟩
              obtain ⟨ho5, h⟩ := h
              refine ⟨ho5, ?_⟩
              refine ⟨fun hc => ?_, fun hc => ?_⟩
              · replace h := h.1 hc
                obtain ⟨ho6, h⟩ := h
                refine ⟨ho6, ?_⟩
                exact h hf
              · replace h := h.2 hc
                refine N_X8_tell (F_X8_tell h) (fun v52 h => ?_)
                obtain ⟨h, hg⟩ := h
                replace hf : ∀ a, ¬ (a = 197) → v52 a = v a := fun a ha => by rw [hg a (by omega), hf a ha]
                clear hg
                obtain ⟨ho7, h⟩ := h
                refine ⟨ho7, ?_⟩
                exact h hf
        · intro h
          exact h hf
  · intro h
    exact h hf
theorem N_X8_findEquallyFar  {v : VT} {q q' : VT → Prop} (h : P_X8_findEquallyFar  v q) (hq : ∀ w, q w → q' w) : P_X8_findEquallyFar  v q' := by
  unfold P_X8_findEquallyFar at h ⊢
  intro X2 hKX2
  refine n_cut (h X2) ?_ ?_
  · intro i3 v2 h
    refine hKX2 i3 v2 ?_
    refine ⟨fun hc => ?_, fun hc => ?_⟩
    · replace h := h.1 hc
      exact hq _ h
    · replace h := h.2 hc
      refine ⟨fun hc => ?_, fun hc => ?_⟩
      · replace h := h.1 hc
        exact hq _ h
      · replace h := h.2 hc
        obtain ⟨ho1, h⟩ := h
        refine ⟨ho1, ?_⟩
        obtain ⟨ho2, h⟩ := h
        refine ⟨ho2, ?_⟩
        obtain ⟨ho3, h⟩ := h
        refine ⟨ho3, ?_⟩
        obtain ⟨ho4, h⟩ := h
        refine ⟨ho4, ?_⟩
        intro X46 hKX46
        refine n_cut (h X46) ?_ ?_
        · intro i6 v46 h
          refine hKX46 i6 v46 ?_
          refine ⟨fun hc => ?_, fun hc => ?_⟩
          · replace h := h.1 hc
            obtain ⟨ho5, h⟩ := h
            refine ⟨ho5, ?_⟩
            exact h
          · replace h := h.2 hc
            refine ⟨fun hc => ?_, fun hc => ?_⟩
            · replace h := h.1 hc
              obtain ⟨ho6, h⟩ := h
              refine ⟨ho6, ?_⟩
              exact h
            · replace h := h.2 hc
              obtain ⟨ho7, h⟩ := h
              refine ⟨ho7, ?_⟩
              obtain ⟨ho8, h⟩ := h
              refine ⟨ho8, ?_⟩
              refine ⟨fun hc => ?_, fun hc => ?_⟩
              · replace h := h.1 hc
                obtain ⟨ho9, h⟩ := h
                refine ⟨ho9, ?_⟩
                exact h
              · replace h := h.2 hc
                refine N_X8_tell h (fun v80 h => ?_)
                obtain ⟨ho10, h⟩ := h
                refine ⟨ho10, ?_⟩
                exact h
        · intro h
          exact h
  · intro h
    exact h
theorem F_X8_findEquallyFar  {v : VT} {q : VT → Prop} (h : P_X8_findEquallyFar  v q) : P_X8_findEquallyFar  v (fun w => q w ∧ ∀ a, ¬ (a = 197) → w a = v a) := by
  unfold P_X8_findEquallyFar at h ⊢
  have hf : ∀ a, ¬ (a = 197) → v a = v a := fun a _ => rfl
  intro X2 hKX2
  refine n_cut (h (fun (i3 : Int) (v2 : VT) => (∀ a, ¬ (a = 197) → v2 a = v a) → X2 i3 v2)) ?_ ?_
  · intro i3 v2 h hf
    refine hKX2 i3 v2 ?_
    refine ⟨fun hc => ?_, fun hc => ?_⟩
    · replace h := h.1 hc
      exact ⟨h, hf⟩
    · replace h := h.2 hc
      refine ⟨fun hc => ?_, fun hc => ?_⟩
      · replace h := h.1 hc
        exact ⟨h, hf⟩
      · replace h := h.2 hc
        obtain ⟨ho1, h⟩ := h
        refine ⟨ho1, ?_⟩
        obtain ⟨ho2, h⟩ := h
        refine ⟨ho2, ?_⟩
        obtain ⟨ho3, h⟩ := h
        refine ⟨ho3, ?_⟩
        obtain ⟨ho4, h⟩ := h
        refine ⟨ho4, ?_⟩
        intro X46 hKX46
        refine n_cut (h (fun (i6 : Int) (v46 : VT) => (∀ a, ¬ (a = 197) → v46 a = v a) → X46 i6 v46)) ?_ ?_
        · intro i6 v46 h hf
          refine hKX46 i6 v46 ?_
          refine ⟨fun hc => ?_, fun hc => ?_⟩
          · replace h := h.1 hc
            obtain ⟨ho5, h⟩ := h
            refine ⟨ho5, ?_⟩
            exact h hf
          · replace h := h.2 hc
            refine ⟨fun hc => ?_, fun hc => ?_⟩
            · replace h := h.1 hc
              obtain ⟨ho6, h⟩ := h
              refine ⟨ho6, ?_⟩
              exact h hf
            · replace h := h.2 hc
              obtain ⟨ho7, h⟩ := h
              refine ⟨ho7, ?_⟩
              obtain ⟨ho8, h⟩ := h
              refine ⟨ho8, ?_⟩
              refine ⟨fun hc => ?_, fun hc => ?_⟩
              · replace h := h.1 hc
                obtain ⟨ho9, h⟩ := h
                refine ⟨ho9, ?_⟩
                exact h hf
              · replace h := h.2 hc
                refine N_X8_tell (F_X8_tell h) (fun v80 h => ?_)
                obtain ⟨h, hg⟩ := h
                replace hf : ∀ a, ¬ (a = 197) → v80 a = v a := fun a ha => by rw [hg a (by omega), hf a ha]
                clear hg
                obtain ⟨ho10, h⟩ := h
                refine ⟨ho10, ?_⟩
                exact h hf
        · intro h
          exact h hf
  · intro h
    exact h hf
theorem N_X8_findNotAlike  {v : VT} {q q' : VT → Prop} (h : P_X8_findNotAlike  v q) (hq : ∀ w, q w → q' w) : P_X8_findNotAlike  v q' := by
  unfold P_X8_findNotAlike at h ⊢
  intro X3 hKX3
  refine n_cut (h X3) ?_ ?_
  · intro i4 v3 h
    refine hKX3 i4 v3 ?_
    refine ⟨fun hc => ?_, fun hc => ?_⟩
    · replace h := h.1 hc
      exact hq _ h
    · replace h := h.2 hc
      refine ⟨fun hc => ?_, fun hc => ?_⟩
      · replace h := h.1 hc
        exact hq _ h
      · replace h := h.2 hc
        obtain ⟨ho1, h⟩ := h
        refine ⟨ho1, ?_⟩
        intro X25 hKX25
        refine n_cut (h X25) ?_ ?_
        · intro i5 v25 h
          refine hKX25 i5 v25 ?_
          refine ⟨fun hc => ?_, fun hc => ?_⟩
          · replace h := h.1 hc
            obtain ⟨ho2, h⟩ := h
            refine ⟨ho2, ?_⟩
            exact h
          · replace h := h.2 hc
            refine ⟨fun hc => ?_, fun hc => ?_⟩
            · replace h := h.1 hc
              obtain ⟨ho3, h⟩ := h
              refine ⟨ho3, ?_⟩
              exact h
            · replace h := h.2 hc
              obtain ⟨ho4, h⟩ := h
              refine ⟨ho4, ?_⟩
              obtain ⟨ho5, h⟩ := h
              refine ⟨ho5, ?_⟩
              refine ⟨fun hc => ?_, fun hc => ?_⟩
              · replace h := h.1 hc
                obtain ⟨ho6, h⟩ := h
                refine ⟨ho6, ?_⟩
                exact h
              · replace h := h.2 hc
                refine N_X2_areAlike h (fun r64 h => ?_)
                refine ⟨fun hc => ?_, fun hc => ?_⟩
                · replace h := h.1 hc
                  obtain ⟨ho7, h⟩ := h
                  refine ⟨ho7, ?_⟩
                  exact h
                · replace h := h.2 hc
                  refine N_X8_tell h (fun v76 h => ?_)
                  obtain ⟨ho8, h⟩ := h
                  refine ⟨ho8, ?_⟩
                  exact h
        · intro h
          exact h
  · intro h
    exact h
theorem F_X8_findNotAlike  {v : VT} {q : VT → Prop} (h : P_X8_findNotAlike  v q) : P_X8_findNotAlike  v (fun w => q w ∧ ∀ a, ¬ (a = 197) → w a = v a) := by
  unfold P_X8_findNotAlike at h ⊢
  have hf : ∀ a, ¬ (a = 197) → v a = v a := fun a _ => rfl
  intro X3 hKX3
  refine n_cut (h (fun (i4 : Int) (v3 : VT) => (∀ a, ¬ (a = 197) → v3 a = v a) → X3 i4 v3)) ?_ ?_
  · intro i4 v3 h hf
    refine hKX3 i4 v3 ?_
    refine ⟨fun hc => ?_, fun hc => ?_⟩
    · replace h := h.1 hc
      exact ⟨h, hf⟩
    · replace h := h.2 hc
      refine ⟨fun hc => ?_, fun hc => ?_⟩
      · replace h := h.1 hc
        exact ⟨h, hf⟩
      · replace h := h.2 hc
        obtain ⟨ho1, h⟩ := h
        refine ⟨ho1, ?_⟩
        intro X25 hKX25
        refine n_cut (h (fun (i5 : Int) (v25 : VT) => (∀ a, ¬ (a = 197) → v25 a = v a) → X25 i5 v25)) ?_ ?_
        · intro i5 v25 h hf
          refine hKX25 i5 v25 ?_
          refine ⟨fun hc => ?_, fun hc => ?_⟩
          · replace h := h.1 hc
            obtain ⟨ho2, h⟩ := h
            refine ⟨ho2, ?_⟩
            exact h hf
          · replace h := h.2 hc
            refine ⟨fun hc => ?_, fun hc => ?_⟩
            · replace h := h.1 hc
              obtain ⟨ho3, h⟩ := h
              refine ⟨ho3, ?_⟩
              exact h hf
            · replace h := h.2 hc
              obtain ⟨ho4, h⟩ := h
              refine ⟨ho4, ?_⟩
              obtain ⟨ho5, h⟩ := h
              refine ⟨ho5, ?_⟩
              refine ⟨fun hc => ?_, fun hc => ?_⟩
              · replace h := h.1 hc
                obtain ⟨ho6, h⟩ := h
                refine ⟨ho6, ?_⟩
                exact h hf
              · replace h := h.2 hc
                refine N_X2_areAlike h (fun r64 h => ?_)
                refine ⟨fun hc => ?_, fun hc => ?_⟩
                · replace h := h.1 hc
                  obtain ⟨ho7, h⟩ := h
                  refine ⟨ho7, ?_⟩
                  exact h hf
                · replace h := h.2 hc
                  refine N_X8_tell (F_X8_tell h) (fun v76 h => ?_)
                  obtain ⟨h, hg⟩ := h
                  replace hf : ∀ a, ¬ (a = 197) → v76 a = v a := fun a ha => by rw [hg a (by omega), hf a ha]
                  clear hg
                  obtain ⟨ho8, h⟩ := h
                  refine ⟨ho8, ?_⟩
                  exact h hf
        · intro h
          exact h hf
  · intro h
    exact h hf
theorem N_X8_findReason  {v : VT} {q q' : VT → Prop} (h : P_X8_findReason  v q) (hq : ∀ w, q w → q' w) : P_X8_findReason  v q' := by
  unfold P_X8_findReason at h ⊢
  intro v2 ev2
  replace h := h v2 ev2
  intro v7 ev7
  replace h := h v7 ev7
  intro v12 ev12
  replace h := h v12 ev12
  refine N_X8_findApart h (fun v17 h => ?_)
  refine ⟨fun hc => ?_, fun hc => ?_⟩
  · replace h := h.1 hc
    refine ⟨fun hc => ?_, fun hc => ?_⟩
    · replace h := h.1 hc
      exact hq _ h
    · replace h := h.2 hc
      refine N_X8_findNotAlike h (fun v44 h => ?_)
      exact hq _ h
  · replace h := h.2 hc
    refine N_X8_findEquallyFar h (fun v30 h => ?_)
    refine ⟨fun hc => ?_, fun hc => ?_⟩
    · replace h := h.1 hc
      exact hq _ h
    · replace h := h.2 hc
      refine N_X8_findNotAlike h (fun v44_1 h => ?_)
      exact hq _ h
theorem F_X8_findReason  {v : VT} {q : VT → Prop} (h : P_X8_findReason  v q) : P_X8_findReason  v (fun w => q w ∧ ∀ a, ¬ (a = 197) → w a = v a) := by
  unfold P_X8_findReason at h ⊢
  have hf : ∀ a, ¬ (a = 197) → v a = v a := fun a _ => rfl
  intro v2 ev2
  replace h := h v2 ev2
  replace hf : ∀ a, ¬ (a = 197) → v2 a = v a := fun a ha => by rw [ev2, upd2_off _ _ _ (by omega), hf a ha]
  intro v7 ev7
  replace h := h v7 ev7
  replace hf : ∀ a, ¬ (a = 197) → v7 a = v a := fun a ha => by rw [ev7, upd2_off _ _ _ (by omega), hf a ha]
  intro v12 ev12
  replace h := h v12 ev12
  replace hf : ∀ a, ¬ (a = 197) → v12 a = v a := fun a ha => by rw [ev12, upd2_off _ _ _ (by omega), hf a ha]
  refine N_X8_findApart (F_X8_findApart h) (fun v17 h => ?_)
  obtain ⟨h, hg⟩ := h
  replace hf : ∀ a, ¬ (a = 197) → v17 a = v a := fun a ha => by rw [hg a (by omega), hf a ha]
  clear hg
  refine ⟨fun hc => ?_, fun hc => ?_⟩
  · replace h := h.1 hc
    refine ⟨fun hc => ?_, fun hc => ?_⟩
    · replace h := h.1 hc
      exact ⟨h, hf⟩
    · replace h := h.2 hc
      refine N_X8_findNotAlike (F_X8_findNotAlike h) (fun v44 h => ?_)
      obtain ⟨h, hg⟩ := h
      replace hf : ∀ a, ¬ (a = 197) → v44 a = v a := fun a ha => by rw [hg a (by omega), hf a ha]
      clear hg
      exact ⟨h, hf⟩
  · replace h := h.2 hc
    refine N_X8_findEquallyFar (F_X8_findEquallyFar h) (fun v30 h => ?_)
    obtain ⟨h, hg⟩ := h
    replace hf : ∀ a, ¬ (a = 197) → v30 a = v a := fun a ha => by rw [hg a (by omega), hf a ha]
    clear hg
    refine ⟨fun hc => ?_, fun hc => ?_⟩
    · replace h := h.1 hc
      exact ⟨h, hf⟩
    · replace h := h.2 hc
      refine N_X8_findNotAlike (F_X8_findNotAlike h) (fun v44_1 h => ?_)
      obtain ⟨h, hg⟩ := h
      replace hf : ∀ a, ¬ (a = 197) → v44_1 a = v a := fun a ha => by rw [hg a (by omega), hf a ha]
      clear hg
      exact ⟨h, hf⟩
theorem N_X8_part {x1 : Int} {a2 : Nat} {a3 : Nat} {v : VT} {q q' : VT → Prop} (h : P_X8_part x1 a2 a3 v q) (hq : ∀ w, q w → q' w) : P_X8_part x1 a2 a3 v q' := by
  unfold P_X8_part at h ⊢
  obtain ⟨ho1, h⟩ := h
  refine ⟨ho1, ?_⟩
  intro v6 ev6
  replace h := h v6 ev6
  intro X10 hKX10
  refine n_cut (h X10) ?_ ?_
  · intro i4 v10 h
    refine hKX10 i4 v10 ?_
    refine ⟨fun hc => ?_, fun hc => ?_⟩
    · replace h := h.1 hc
      exact hq _ h
    · replace h := h.2 hc
      obtain ⟨ho2, h⟩ := h
      refine ⟨ho2, ?_⟩
      obtain ⟨ho3, h⟩ := h
      refine ⟨ho3, ?_⟩
      refine ⟨fun hc => ?_, fun hc => ?_⟩
      · replace h := h.1 hc
        obtain ⟨ho4, h⟩ := h
        refine ⟨ho4, ?_⟩
        exact h
      · replace h := h.2 hc
        obtain ⟨ho5, h⟩ := h
        refine ⟨ho5, ?_⟩
        obtain ⟨ho6, h⟩ := h
        refine ⟨ho6, ?_⟩
        intro v42 ev42
        replace h := h v42 ev42
        obtain ⟨ho7, h⟩ := h
        refine ⟨ho7, ?_⟩
        obtain ⟨ho8, h⟩ := h
        refine ⟨ho8, ?_⟩
        intro v55 ev55
        replace h := h v55 ev55
        obtain ⟨ho9, h⟩ := h
        refine ⟨ho9, ?_⟩
        exact h
  · intro h
    exact h
theorem F_X8_part {x1 : Int} {a2 : Nat} {a3 : Nat} {v : VT} {q : VT → Prop} (h : P_X8_part x1 a2 a3 v q) : P_X8_part x1 a2 a3 v (fun w => q w ∧ ∀ a, ¬ ((198 ≤ a ∧ a ≤ 199)) → w a = v a) := by
  unfold P_X8_part at h ⊢
  have hf : ∀ a, ¬ ((198 ≤ a ∧ a ≤ 199)) → v a = v a := fun a _ => rfl
  obtain ⟨ho1, h⟩ := h
  refine ⟨ho1, ?_⟩
  intro v6 ev6
  replace h := h v6 ev6
  replace hf : ∀ a, ¬ ((198 ≤ a ∧ a ≤ 199)) → v6 a = v a := fun a ha => by rw [ev6, upd2_off _ _ _ (by omega), hf a ha]
  intro X10 hKX10
  refine n_cut (h (fun (i4 : Int) (v10 : VT) => (∀ a, ¬ ((198 ≤ a ∧ a ≤ 199)) → v10 a = v a) → X10 i4 v10)) ?_ ?_
  · intro i4 v10 h hf
    refine hKX10 i4 v10 ?_
    refine ⟨fun hc => ?_, fun hc => ?_⟩
    · replace h := h.1 hc
      exact ⟨h, hf⟩
    · replace h := h.2 hc
      obtain ⟨ho2, h⟩ := h
      refine ⟨ho2, ?_⟩
      obtain ⟨ho3, h⟩ := h
      refine ⟨ho3, ?_⟩
      refine ⟨fun hc => ?_, fun hc => ?_⟩
      · replace h := h.1 hc
        obtain ⟨ho4, h⟩ := h
        refine ⟨ho4, ?_⟩
        exact h hf
      · replace h := h.2 hc
        obtain ⟨ho5, h⟩ := h
        refine ⟨ho5, ?_⟩
        obtain ⟨ho6, h⟩ := h
        refine ⟨ho6, ?_⟩
        intro v42 ev42
        replace h := h v42 ev42
        replace hf : ∀ a, ¬ ((198 ≤ a ∧ a ≤ 199)) → v42 a = v a := fun a ha => by rw [ev42, upd2_off _ _ _ (by omega), hf a ha]
        obtain ⟨ho7, h⟩ := h
        refine ⟨ho7, ?_⟩
        obtain ⟨ho8, h⟩ := h
        refine ⟨ho8, ?_⟩
        intro v55 ev55
        replace h := h v55 ev55
        replace hf : ∀ a, ¬ ((198 ≤ a ∧ a ≤ 199)) → v55 a = v a := fun a ha => by rw [ev55, upd2_off _ _ _ (by omega), hf a ha]
        obtain ⟨ho9, h⟩ := h
        refine ⟨ho9, ?_⟩
        exact h hf
  · intro h
    exact h hf
theorem N_X8_settle  {v : VT} {q q' : VT → Prop} (h : P_X8_settle  v q) (hq : ∀ w, q w → q' w) : P_X8_settle  v q' := by
  unfold P_X8_settle at h ⊢
  intro v5 ev5
  replace h := h v5 ev5
  refine N_X8_findReason h (fun v12 h => ?_)
  intro K35 hKK35
  refine n_cut (h K35) ?_ ?_
  · intro s0 h
    refine hKK35 s0 ?_
    obtain ⟨ho1, h⟩ := h
    refine ⟨ho1, ?_⟩
    intro v35 ev35
    replace h := h v35 ev35
    intro K54 hKK54
    refine n_cut (h K54) ?_ ?_
    · intro s0_1 h
      refine hKK54 s0_1 ?_
      intro v54 ev54
      replace h := h v54 ev54
      intro K83 hKK83
      refine n_cut (h K83) ?_ ?_
      · intro v83 h
        refine hKK83 v83 ?_
        intro X86 hKX86
        refine n_cut (h X86) ?_ ?_
        · intro i4 v86 h
          refine hKX86 i4 v86 ?_
          refine ⟨fun hc => ?_, fun hc => ?_⟩
          · replace h := h.1 hc
            intro v143 ev143
            replace h := h v143 ev143
            exact hq _ h
          · replace h := h.2 hc
            obtain ⟨ho2, h⟩ := h
            refine ⟨ho2, ?_⟩
            obtain ⟨ho3, h⟩ := h
            refine ⟨ho3, ?_⟩
            obtain ⟨ho4, h⟩ := h
            refine ⟨ho4, ?_⟩
            obtain ⟨ho5, h⟩ := h
            refine ⟨ho5, ?_⟩
            obtain ⟨ho6, h⟩ := h
            refine ⟨ho6, ?_⟩
            obtain ⟨ho7, h⟩ := h
            refine ⟨ho7, ?_⟩
            refine N_X8_part h (fun v132 h => ?_)
            obtain ⟨ho8, h⟩ := h
            refine ⟨ho8, ?_⟩
            exact h
        · intro h
          exact h
      · intro h
        intro X60 hKX60
        refine n_cut (h X60) ?_ ?_
        · intro i4_1 v60 h
          refine hKX60 i4_1 v60 ?_
          refine ⟨fun hc => ?_, fun hc => ?_⟩
          · replace h := h.1 hc
            exact h
          · replace h := h.2 hc
            obtain ⟨ho9, h⟩ := h
            refine ⟨ho9, ?_⟩
            intro v76 ev76
            replace h := h v76 ev76
            obtain ⟨ho10, h⟩ := h
            refine ⟨ho10, ?_⟩
            exact h
        · intro h
          exact h
    · intro h
      refine ⟨fun hc => ?_, fun hc => ?_⟩
      · replace h := h.1 hc
        exact h
      · replace h := h.2 hc
        exact h
  · intro h
    intro K34 hKK34
    refine n_cut (h K34) ?_ ?_
    · intro h
      refine hKK34  ?_
      exact h
    · intro h
      refine ⟨fun hc => ?_, fun hc => ?_⟩
      · replace h := h.1 hc
        exact h
      · replace h := h.2 hc
        refine ⟨fun hc => ?_, fun hc => ?_⟩
        · replace h := h.1 hc
          exact h
        · replace h := h.2 hc
          exact h
theorem F_X8_settle  {v : VT} {q : VT → Prop} (h : P_X8_settle  v q) : P_X8_settle  v (fun w => q w ∧ ∀ a, ¬ ((197 ≤ a ∧ a ≤ 199)) → w a = v a) := by
  unfold P_X8_settle at h ⊢
  have hf : ∀ a, ¬ ((197 ≤ a ∧ a ≤ 199)) → v a = v a := fun a _ => rfl
  intro v5 ev5
  replace h := h v5 ev5
  replace hf : ∀ a, ¬ ((197 ≤ a ∧ a ≤ 199)) → v5 a = v a := fun a ha => by rw [ev5, upd2_off _ _ _ (by omega), hf a ha]
  refine N_X8_findReason (F_X8_findReason h) (fun v12 h => ?_)
  obtain ⟨h, hg⟩ := h
  replace hf : ∀ a, ¬ ((197 ≤ a ∧ a ≤ 199)) → v12 a = v a := fun a ha => by rw [hg a (by omega), hf a ha]
  clear hg
  intro K35 hKK35
  refine n_cut (h K35) ?_ ?_
  · intro s0 h
    refine hKK35 s0 ?_
    obtain ⟨ho1, h⟩ := h
    refine ⟨ho1, ?_⟩
    intro v35 ev35
    replace h := h v35 ev35
    replace hf : ∀ a, ¬ ((197 ≤ a ∧ a ≤ 199)) → v35 a = v a := fun a ha => by rw [ev35, upd2_off _ _ _ (by omega), hf a ha]
    intro K54 hKK54
    refine n_cut (h K54) ?_ ?_
    · intro s0_1 h
      refine hKK54 s0_1 ?_
      intro v54 ev54
      replace h := h v54 ev54
      replace hf : ∀ a, ¬ ((197 ≤ a ∧ a ≤ 199)) → v54 a = v a := fun a ha => by rw [ev54, upd2_off _ _ _ (by omega), hf a ha]
      intro K83 hKK83
      refine n_cut (h (fun (v83 : VT) => (∀ a, ¬ ((197 ≤ a ∧ a ≤ 199)) → v83 a = v a) → K83 v83)) ?_ ?_
      · intro v83 h hf
        refine hKK83 v83 ?_
        intro X86 hKX86
        refine n_cut (h (fun (i4 : Int) (v86 : VT) => (∀ a, ¬ ((197 ≤ a ∧ a ≤ 199)) → v86 a = v a) → X86 i4 v86)) ?_ ?_
        · intro i4 v86 h hf
          refine hKX86 i4 v86 ?_
          refine ⟨fun hc => ?_, fun hc => ?_⟩
          · replace h := h.1 hc
            intro v143 ev143
            replace h := h v143 ev143
            replace hf : ∀ a, ¬ ((197 ≤ a ∧ a ≤ 199)) → v143 a = v a := fun a ha => by rw [ev143, upd2_off _ _ _ (by omega), hf a ha]
            exact ⟨h, hf⟩
          · replace h := h.2 hc
            obtain ⟨ho2, h⟩ := h
            refine ⟨ho2, ?_⟩
            obtain ⟨ho3, h⟩ := h
            refine ⟨ho3, ?_⟩
            obtain ⟨ho4, h⟩ := h
            refine ⟨ho4, ?_⟩
            obtain ⟨ho5, h⟩ := h
            refine ⟨ho5, ?_⟩
            obtain ⟨ho6, h⟩ := h
            refine ⟨ho6, ?_⟩
            obtain ⟨ho7, h⟩ := h
            refine ⟨ho7, ?_⟩
            refine N_X8_part (F_X8_part h) (fun v132 h => ?_)
            obtain ⟨h, hg⟩ := h
            replace hf : ∀ a, ¬ ((197 ≤ a ∧ a ≤ 199)) → v132 a = v a := fun a ha => by rw [hg a (by omega), hf a ha]
            clear hg
            obtain ⟨ho8, h⟩ := h
            refine ⟨ho8, ?_⟩
            exact h hf
        · intro h
          exact h hf
      · intro h
        intro X60 hKX60
        refine n_cut (h (fun (i4_1 : Int) (v60 : VT) => (∀ a, ¬ ((197 ≤ a ∧ a ≤ 199)) → v60 a = v a) → X60 i4_1 v60)) ?_ ?_
        · intro i4_1 v60 h hf
          refine hKX60 i4_1 v60 ?_
          refine ⟨fun hc => ?_, fun hc => ?_⟩
          · replace h := h.1 hc
            exact h hf
          · replace h := h.2 hc
            obtain ⟨ho9, h⟩ := h
            refine ⟨ho9, ?_⟩
            intro v76 ev76
            replace h := h v76 ev76
            replace hf : ∀ a, ¬ ((197 ≤ a ∧ a ≤ 199)) → v76 a = v a := fun a ha => by rw [ev76, upd2_off _ _ _ (by omega), hf a ha]
            obtain ⟨ho10, h⟩ := h
            refine ⟨ho10, ?_⟩
            exact h hf
        · intro h
          exact h hf
    · intro h
      refine ⟨fun hc => ?_, fun hc => ?_⟩
      · replace h := h.1 hc
        exact h
      · replace h := h.2 hc
        exact h
  · intro h
    intro K34 hKK34
    refine n_cut (h K34) ?_ ?_
    · intro h
      refine hKK34  ?_
      exact h
    · intro h
      refine ⟨fun hc => ?_, fun hc => ?_⟩
      · replace h := h.1 hc
        exact h
      · replace h := h.2 hc
        refine ⟨fun hc => ?_, fun hc => ?_⟩
        · replace h := h.1 hc
          exact h
        · replace h := h.2 hc
          exact h
theorem N_X8_nodeAt {x1 : Int} {v : VT} {q q' : Int → Prop} (h : P_X8_nodeAt x1 v q) (hq : ∀ r, q r → q' r) : P_X8_nodeAt x1 v q' := by
  unfold P_X8_nodeAt at h ⊢
  intro X2 hKX2
  refine n_cut (h X2) ?_ ?_
  · intro i2 h
    refine hKX2 i2 ?_
    refine ⟨fun hc => ?_, fun hc => ?_⟩
    · replace h := h.1 hc
      exact hq _ h
    · replace h := h.2 hc
      obtain ⟨ho1, h⟩ := h
      refine ⟨ho1, ?_⟩
      refine ⟨fun hc => ?_, fun hc => ?_⟩
      · replace h := h.1 hc
        obtain ⟨ho2, h⟩ := h
        refine ⟨ho2, ?_⟩
        exact h
      · replace h := h.2 hc
        exact hq _ h
  · intro h
    exact h
theorem N_X8_costOf {x1 : Int} {v : VT} {q q' : Int → Prop} (h : P_X8_costOf x1 v q) (hq : ∀ r, q r → q' r) : P_X8_costOf x1 v q' := by
  unfold P_X8_costOf at h ⊢
  obtain ⟨ho1, h⟩ := h
  refine ⟨ho1, ?_⟩
  refine N_J6_bitCount_0f7a4 h (fun r6 h => ?_)
  obtain ⟨ho2, h⟩ := h
  refine ⟨ho2, ?_⟩
  obtain ⟨ho3, h⟩ := h
  refine ⟨ho3, ?_⟩
  exact hq _ h
theorem N_X8_acrossFrom {x1 : Int} {x2 : Int} {v : VT} {q q' : Int → Prop} (h : P_X8_acrossFrom x1 x2 v q) (hq : ∀ r, q r → q' r) : P_X8_acrossFrom x1 x2 v q' := by
  unfold P_X8_acrossFrom at h ⊢
  obtain ⟨ho1, h⟩ := h
  refine ⟨ho1, ?_⟩
  refine ⟨fun hc => ?_, fun hc => ?_⟩
  · replace h := h.1 hc
    intro X18 hKX18
    refine n_cut (h X18) ?_ ?_
    · intro i3 i4 h
      refine hKX18 i3 i4 ?_
      refine ⟨fun hc => ?_, fun hc => ?_⟩
      · replace h := h.1 hc
        exact hq _ h
      · replace h := h.2 hc
        refine N_X10_hasBit h (fun r30 h => ?_)
        refine ⟨fun hc => ?_, fun hc => ?_⟩
        · replace h := h.1 hc
          obtain ⟨ho2, h⟩ := h
          refine ⟨ho2, ?_⟩
          exact h
        · replace h := h.2 hc
          obtain ⟨ho3, h⟩ := h
          refine ⟨ho3, ?_⟩
          refine N_X8_nodeAt h (fun r48 h => ?_)
          refine ⟨fun hc => ?_, fun hc => ?_⟩
          · replace h := h.1 hc
            intro l3 el3
            replace h := h l3 el3
            obtain ⟨ho4, h⟩ := h
            refine ⟨ho4, ?_⟩
            exact h
          · replace h := h.2 hc
            exact hq _ h
    · intro h
      exact h
  · replace h := h.2 hc
    exact hq _ h
theorem N_X8_cubesOn (n : Nat) : ∀ {x1 : Int} {x2 : Int} {x3 : Int} {v : VT} {q q' : Int → Prop} (h : P_X8_cubesOn n x1 x2 x3 v q) (hq : ∀ r, q r → q' r), P_X8_cubesOn n x1 x2 x3 v q' := by
  induction n with
  | zero => intro x1 x2 x3 v q q' h; exact h.elim
  | succ n ih =>
    intro x1 x2 x3 v q q' h hq
    unfold P_X8_cubesOn at h ⊢
    refine ⟨fun hc => ?_, fun hc => ?_⟩
    · replace h := h.1 hc
      intro X12 hKX12
      refine n_cut (h X12) ?_ ?_
      · intro i4 i5 h
        refine hKX12 i4 i5 ?_
        refine ⟨fun hc => ?_, fun hc => ?_⟩
        · replace h := h.1 hc
          exact hq _ h
        · replace h := h.2 hc
          refine N_X8_acrossFrom h (fun r25 h => ?_)
          refine ⟨fun hc => ?_, fun hc => ?_⟩
          · replace h := h.1 hc
            obtain ⟨ho1, h⟩ := h
            refine ⟨ho1, ?_⟩
            exact h
          · replace h := h.2 hc
            obtain ⟨ho2, h⟩ := h
            refine ⟨ho2, ?_⟩
            obtain ⟨ho3, h⟩ := h
            refine ⟨ho3, ?_⟩
            refine ih h (fun r49 h => ?_)
            obtain ⟨ho4, h⟩ := h
            refine ⟨ho4, ?_⟩
            obtain ⟨ho5, h⟩ := h
            refine ⟨ho5, ?_⟩
            exact h
      · intro h
        exact h
    · replace h := h.2 hc
      exact hq _ h
theorem N_X8_countCubes {x1 : Int} {v : VT} {q q' : Int → Prop} (h : P_X8_countCubes x1 v q) (hq : ∀ r, q r → q' r) : P_X8_countCubes x1 v q' := by
  unfold P_X8_countCubes at h ⊢
  intro X4 hKX4
  refine n_cut (h X4) ?_ ?_
  · intro i2 i3 h
    refine hKX4 i2 i3 ?_
    refine ⟨fun hc => ?_, fun hc => ?_⟩
    · replace h := h.1 hc
      exact hq _ h
    · replace h := h.2 hc
      refine ⟨fun hc => ?_, fun hc => ?_⟩
      · replace h := h.1 hc
        exact hq _ h
      · replace h := h.2 hc
        refine N_X8_cubesOn _ h (fun r24 h => ?_)
        obtain ⟨ho1, h⟩ := h
        refine ⟨ho1, ?_⟩
        obtain ⟨ho2, h⟩ := h
        refine ⟨ho2, ?_⟩
        exact h
  · intro h
    exact h
theorem N_X9_put {x1 : Int} {v : VT} {q q' : VT → Prop} (h : P_X9_put x1 v q) (hq : ∀ w, q w → q' w) : P_X9_put x1 v q' := by
  unfold P_X9_put at h ⊢
  intro X3 hKX3
  refine n_cut (h X3) ?_ ?_
  · intro i2 v3 h
    refine hKX3 i2 v3 ?_
    refine ⟨fun hc => ?_, fun hc => ?_⟩
    · replace h := h.1 hc
      exact hq _ h
    · replace h := h.2 hc
      refine ⟨fun hc => ?_, fun hc => ?_⟩
      · replace h := h.1 hc
        exact hq _ h
      · replace h := h.2 hc
        obtain ⟨ho1, h⟩ := h
        refine ⟨ho1, ?_⟩
        intro v32 ev32
        replace h := h v32 ev32
        obtain ⟨ho2, h⟩ := h
        refine ⟨ho2, ?_⟩
        intro v40 ev40
        replace h := h v40 ev40
        obtain ⟨ho3, h⟩ := h
        refine ⟨ho3, ?_⟩
        exact h
  · intro h
    exact h
theorem F_X9_put {x1 : Int} {v : VT} {q : VT → Prop} (h : P_X9_put x1 v q) : P_X9_put x1 v (fun w => q w ∧ ∀ a, ¬ ((1 ≤ a ∧ a ≤ 2)) → w a = v a) := by
  unfold P_X9_put at h ⊢
  have hf : ∀ a, ¬ ((1 ≤ a ∧ a ≤ 2)) → v a = v a := fun a _ => rfl
  intro X3 hKX3
  refine n_cut (h (fun (i2 : Int) (v3 : VT) => (∀ a, ¬ ((1 ≤ a ∧ a ≤ 2)) → v3 a = v a) → X3 i2 v3)) ?_ ?_
  · intro i2 v3 h hf
    refine hKX3 i2 v3 ?_
    refine ⟨fun hc => ?_, fun hc => ?_⟩
    · replace h := h.1 hc
      exact ⟨h, hf⟩
    · replace h := h.2 hc
      refine ⟨fun hc => ?_, fun hc => ?_⟩
      · replace h := h.1 hc
        exact ⟨h, hf⟩
      · replace h := h.2 hc
        obtain ⟨ho1, h⟩ := h
        refine ⟨ho1, ?_⟩
        intro v32 ev32
        replace h := h v32 ev32
        replace hf : ∀ a, ¬ ((1 ≤ a ∧ a ≤ 2)) → v32 a = v a := fun a ha => by rw [ev32, upd2_off _ _ _ (by omega), hf a ha]
        obtain ⟨ho2, h⟩ := h
        refine ⟨ho2, ?_⟩
        intro v40 ev40
        replace h := h v40 ev40
        replace hf : ∀ a, ¬ ((1 ≤ a ∧ a ≤ 2)) → v40 a = v a := fun a ha => by rw [ev40, upd2_off _ _ _ (by omega), hf a ha]
        obtain ⟨ho3, h⟩ := h
        refine ⟨ho3, ?_⟩
        exact h hf
  · intro h
    exact h hf
theorem N_X10_refuse {x1 : Int} {v : VT} {q q' : Int → VT → Prop} (h : P_X10_refuse x1 v q) (hq : ∀ r w, q r w → q' r w) : P_X10_refuse x1 v q' := by
  unfold P_X10_refuse at h ⊢
  obtain ⟨ho1, h⟩ := h
  refine ⟨ho1, ?_⟩
  obtain ⟨ho2, h⟩ := h
  refine ⟨ho2, ?_⟩
  obtain ⟨ho3, h⟩ := h
  refine ⟨ho3, ?_⟩
  intro v9 ev9
  replace h := h v9 ev9
  exact hq _ _ h
theorem F_X10_refuse {x1 : Int} {v : VT} {q : Int → VT → Prop} (h : P_X10_refuse x1 v q) : P_X10_refuse x1 v (fun r w => q r w ∧ ∀ a, ¬ (a = 217) → w a = v a) := by
  unfold P_X10_refuse at h ⊢
  have hf : ∀ a, ¬ (a = 217) → v a = v a := fun a _ => rfl
  obtain ⟨ho1, h⟩ := h
  refine ⟨ho1, ?_⟩
  obtain ⟨ho2, h⟩ := h
  refine ⟨ho2, ?_⟩
  obtain ⟨ho3, h⟩ := h
  refine ⟨ho3, ?_⟩
  intro v9 ev9
  replace h := h v9 ev9
  replace hf : ∀ a, ¬ (a = 217) → v9 a = v a := fun a ha => by rw [ev9, upd2_off _ _ _ (by omega), hf a ha]
  exact ⟨h, hf⟩
theorem N_X10_feed {x1 : Int} {x2 : Int} {x3 : Int} {x4 : Int} {x5 : Int} {v : VT} {q q' : Int → VT → Prop} (h : P_X10_feed x1 x2 x3 x4 x5 v q) (hq : ∀ r w, q r w → q' r w) : P_X10_feed x1 x2 x3 x4 x5 v q' := by
  unfold P_X10_feed at h ⊢
  obtain ⟨ho1, h⟩ := h
  refine ⟨ho1, ?_⟩
  refine ⟨fun hc => ?_, fun hc => ?_⟩
  · replace h := h.1 hc
    refine N_X9_put h (fun v27 h => ?_)
    refine N_X9_put h (fun v35 h => ?_)
    refine N_X9_put h (fun v43 h => ?_)
    refine N_X9_put h (fun v52 h => ?_)
    refine N_X9_put h (fun v61 h => ?_)
    exact hq _ _ h
  · replace h := h.2 hc
    refine N_X10_refuse h (fun r18 v18 h => ?_)
    exact hq _ _ h
theorem F_X10_feed {x1 : Int} {x2 : Int} {x3 : Int} {x4 : Int} {x5 : Int} {v : VT} {q : Int → VT → Prop} (h : P_X10_feed x1 x2 x3 x4 x5 v q) : P_X10_feed x1 x2 x3 x4 x5 v (fun r w => q r w ∧ ∀ a, ¬ ((1 ≤ a ∧ a ≤ 2) ∨ a = 217) → w a = v a) := by
  unfold P_X10_feed at h ⊢
  have hf : ∀ a, ¬ ((1 ≤ a ∧ a ≤ 2) ∨ a = 217) → v a = v a := fun a _ => rfl
  obtain ⟨ho1, h⟩ := h
  refine ⟨ho1, ?_⟩
  refine ⟨fun hc => ?_, fun hc => ?_⟩
  · replace h := h.1 hc
    refine N_X9_put (F_X9_put h) (fun v27 h => ?_)
    obtain ⟨h, hg⟩ := h
    replace hf : ∀ a, ¬ ((1 ≤ a ∧ a ≤ 2) ∨ a = 217) → v27 a = v a := fun a ha => by rw [hg a (by omega), hf a ha]
    clear hg
    refine N_X9_put (F_X9_put h) (fun v35 h => ?_)
    obtain ⟨h, hg⟩ := h
    replace hf : ∀ a, ¬ ((1 ≤ a ∧ a ≤ 2) ∨ a = 217) → v35 a = v a := fun a ha => by rw [hg a (by omega), hf a ha]
    clear hg
    refine N_X9_put (F_X9_put h) (fun v43 h => ?_)
    obtain ⟨h, hg⟩ := h
    replace hf : ∀ a, ¬ ((1 ≤ a ∧ a ≤ 2) ∨ a = 217) → v43 a = v a := fun a ha => by rw [hg a (by omega), hf a ha]
    clear hg
    refine N_X9_put (F_X9_put h) (fun v52 h => ?_)
    obtain ⟨h, hg⟩ := h
    replace hf : ∀ a, ¬ ((1 ≤ a ∧ a ≤ 2) ∨ a = 217) → v52 a = v a := fun a ha => by rw [hg a (by omega), hf a ha]
    clear hg
    refine N_X9_put (F_X9_put h) (fun v61 h => ?_)
    obtain ⟨h, hg⟩ := h
    replace hf : ∀ a, ¬ ((1 ≤ a ∧ a ≤ 2) ∨ a = 217) → v61 a = v a := fun a ha => by rw [hg a (by omega), hf a ha]
    clear hg
    exact ⟨h, hf⟩
  · replace h := h.2 hc
    refine N_X10_refuse (F_X10_refuse h) (fun r18 v18 h => ?_)
    obtain ⟨h, hg⟩ := h
    replace hf : ∀ a, ¬ ((1 ≤ a ∧ a ≤ 2) ∨ a = 217) → v18 a = v a := fun a ha => by rw [hg a (by omega), hf a ha]
    clear hg
    exact ⟨h, hf⟩
theorem N_X10_deny {x1 : Int} {v : VT} {q q' : Int → VT → Prop} (h : P_X10_deny x1 v q) (hq : ∀ r w, q r w → q' r w) : P_X10_deny x1 v q' := by
  unfold P_X10_deny at h ⊢
  obtain ⟨ho1, h⟩ := h
  refine ⟨ho1, ?_⟩
  obtain ⟨ho2, h⟩ := h
  refine ⟨ho2, ?_⟩
  obtain ⟨ho3, h⟩ := h
  refine ⟨ho3, ?_⟩
  intro v9 ev9
  replace h := h v9 ev9
  exact hq _ _ h
theorem F_X10_deny {x1 : Int} {v : VT} {q : Int → VT → Prop} (h : P_X10_deny x1 v q) : P_X10_deny x1 v (fun r w => q r w ∧ ∀ a, ¬ (a = 217) → w a = v a) := by
  unfold P_X10_deny at h ⊢
  have hf : ∀ a, ¬ (a = 217) → v a = v a := fun a _ => rfl
  obtain ⟨ho1, h⟩ := h
  refine ⟨ho1, ?_⟩
  obtain ⟨ho2, h⟩ := h
  refine ⟨ho2, ?_⟩
  obtain ⟨ho3, h⟩ := h
  refine ⟨ho3, ?_⟩
  intro v9 ev9
  replace h := h v9 ev9
  replace hf : ∀ a, ¬ (a = 217) → v9 a = v a := fun a ha => by rw [ev9, upd2_off _ _ _ (by omega), hf a ha]
  exact ⟨h, hf⟩
theorem N_X10_end {x1 : Int} {v : VT} {q q' : Int → VT → Prop} (h : P_X10_end x1 v q) (hq : ∀ r w, q r w → q' r w) : P_X10_end x1 v q' := by
  unfold P_X10_end at h ⊢
  refine ⟨fun hc => ?_, fun hc => ?_⟩
  · replace h := h.1 hc
    refine N_X10_deny h (fun r17 v17 h => ?_)
    obtain ⟨ho1, h⟩ := h
    refine ⟨ho1, ?_⟩
    exact hq _ _ h
  · replace h := h.2 hc
    refine ⟨fun hc => ?_, fun hc => ?_⟩
    · replace h := h.1 hc
      intro v26 ev26
      replace h := h v26 ev26
      exact hq _ _ h
    · replace h := h.2 hc
      refine N_X10_deny h (fun r17_1 v17_1 h => ?_)
      obtain ⟨ho2, h⟩ := h
      refine ⟨ho2, ?_⟩
      exact hq _ _ h
theorem F_X10_end {x1 : Int} {v : VT} {q : Int → VT → Prop} (h : P_X10_end x1 v q) : P_X10_end x1 v (fun r w => q r w ∧ ∀ a, ¬ (a = 1 ∨ a = 217) → w a = v a) := by
  unfold P_X10_end at h ⊢
  have hf : ∀ a, ¬ (a = 1 ∨ a = 217) → v a = v a := fun a _ => rfl
  refine ⟨fun hc => ?_, fun hc => ?_⟩
  · replace h := h.1 hc
    refine N_X10_deny (F_X10_deny h) (fun r17 v17 h => ?_)
    obtain ⟨h, hg⟩ := h
    replace hf : ∀ a, ¬ (a = 1 ∨ a = 217) → v17 a = v a := fun a ha => by rw [hg a (by omega), hf a ha]
    clear hg
    obtain ⟨ho1, h⟩ := h
    refine ⟨ho1, ?_⟩
    exact ⟨h, hf⟩
  · replace h := h.2 hc
    refine ⟨fun hc => ?_, fun hc => ?_⟩
    · replace h := h.1 hc
      intro v26 ev26
      replace h := h v26 ev26
      replace hf : ∀ a, ¬ (a = 1 ∨ a = 217) → v26 a = v a := fun a ha => by rw [ev26, upd2_off _ _ _ (by omega), hf a ha]
      exact ⟨h, hf⟩
    · replace h := h.2 hc
      refine N_X10_deny (F_X10_deny h) (fun r17_1 v17_1 h => ?_)
      obtain ⟨h, hg⟩ := h
      replace hf : ∀ a, ¬ (a = 1 ∨ a = 217) → v17_1 a = v a := fun a ha => by rw [hg a (by omega), hf a ha]
      clear hg
      obtain ⟨ho2, h⟩ := h
      refine ⟨ho2, ?_⟩
      exact ⟨h, hf⟩
theorem N_X10_changed  {v : VT} {q q' : VT → Prop} (h : P_X10_changed  v q) (hq : ∀ w, q w → q' w) : P_X10_changed  v q' := by
  unfold P_X10_changed at h ⊢
  intro v5 ev5
  replace h := h v5 ev5
  intro v13 ev13
  replace h := h v13 ev13
  intro v21 ev21
  replace h := h v21 ev21
  exact hq _ h
theorem F_X10_changed  {v : VT} {q : VT → Prop} (h : P_X10_changed  v q) : P_X10_changed  v (fun w => q w ∧ ∀ a, ¬ (a = 138 ∨ a = 191 ∨ a = 197) → w a = v a) := by
  unfold P_X10_changed at h ⊢
  have hf : ∀ a, ¬ (a = 138 ∨ a = 191 ∨ a = 197) → v a = v a := fun a _ => rfl
  intro v5 ev5
  replace h := h v5 ev5
  replace hf : ∀ a, ¬ (a = 138 ∨ a = 191 ∨ a = 197) → v5 a = v a := fun a ha => by rw [ev5, upd2_off _ _ _ (by omega), hf a ha]
  intro v13 ev13
  replace h := h v13 ev13
  replace hf : ∀ a, ¬ (a = 138 ∨ a = 191 ∨ a = 197) → v13 a = v a := fun a ha => by rw [ev13, upd2_off _ _ _ (by omega), hf a ha]
  intro v21 ev21
  replace h := h v21 ev21
  replace hf : ∀ a, ¬ (a = 138 ∨ a = 191 ∨ a = 197) → v21 a = v a := fun a ha => by rw [ev21, upd2_off _ _ _ (by omega), hf a ha]
  exact ⟨h, hf⟩
theorem N_X10_net  {v : VT} {q q' : Int → VT → Prop} (h : P_X10_net  v q) (hq : ∀ r w, q r w → q' r w) : P_X10_net  v q' := by
  unfold P_X10_net at h ⊢
  refine N_X5_readNet h (fun v8 h => ?_)
  intro v16 ev16
  replace h := h v16 ev16
  refine ⟨fun hc => ?_, fun hc => ?_⟩
  · replace h := h.1 hc
    refine N_X0_takeFrom h (fun v46 h => ?_)
    refine N_X3_forget h (fun v53 h => ?_)
    intro v58 ev58
    replace h := h v58 ev58
    intro v63 ev63
    replace h := h v63 ev63
    refine N_X10_changed h (fun v67 h => ?_)
    exact hq _ _ h
  · replace h := h.2 hc
    refine N_X10_refuse h (fun r31 v31 h => ?_)
    exact hq _ _ h
theorem F_X10_net  {v : VT} {q : Int → VT → Prop} (h : P_X10_net  v q) : P_X10_net  v (fun r w => q r w ∧ ∀ a, ¬ ((0 ≤ a ∧ a ≤ 1) ∨ (3 ≤ a ∧ a ≤ 8) ∨ (10 ≤ a ∧ a ≤ 14) ∨ a = 16 ∨ a = 138 ∨ a = 191 ∨ a = 197 ∨ a = 217) → w a = v a) := by
  unfold P_X10_net at h ⊢
  have hf : ∀ a, ¬ ((0 ≤ a ∧ a ≤ 1) ∨ (3 ≤ a ∧ a ≤ 8) ∨ (10 ≤ a ∧ a ≤ 14) ∨ a = 16 ∨ a = 138 ∨ a = 191 ∨ a = 197 ∨ a = 217) → v a = v a := fun a _ => rfl
  refine N_X5_readNet (F_X5_readNet h) (fun v8 h => ?_)
  obtain ⟨h, hg⟩ := h
  replace hf : ∀ a, ¬ ((0 ≤ a ∧ a ≤ 1) ∨ (3 ≤ a ∧ a ≤ 8) ∨ (10 ≤ a ∧ a ≤ 14) ∨ a = 16 ∨ a = 138 ∨ a = 191 ∨ a = 197 ∨ a = 217) → v8 a = v a := fun a ha => by rw [hg a (by omega), hf a ha]
  clear hg
  intro v16 ev16
  replace h := h v16 ev16
  replace hf : ∀ a, ¬ ((0 ≤ a ∧ a ≤ 1) ∨ (3 ≤ a ∧ a ≤ 8) ∨ (10 ≤ a ∧ a ≤ 14) ∨ a = 16 ∨ a = 138 ∨ a = 191 ∨ a = 197 ∨ a = 217) → v16 a = v a := fun a ha => by rw [ev16, upd2_off _ _ _ (by omega), hf a ha]
  refine ⟨fun hc => ?_, fun hc => ?_⟩
  · replace h := h.1 hc
    refine N_X0_takeFrom (F_X0_takeFrom h) (fun v46 h => ?_)
    obtain ⟨h, hg⟩ := h
    replace hf : ∀ a, ¬ ((0 ≤ a ∧ a ≤ 1) ∨ (3 ≤ a ∧ a ≤ 8) ∨ (10 ≤ a ∧ a ≤ 14) ∨ a = 16 ∨ a = 138 ∨ a = 191 ∨ a = 197 ∨ a = 217) → v46 a = v a := fun a ha => by rw [hg a (by omega), hf a ha]
    clear hg
    refine N_X3_forget (F_X3_forget h) (fun v53 h => ?_)
    obtain ⟨h, hg⟩ := h
    replace hf : ∀ a, ¬ ((0 ≤ a ∧ a ≤ 1) ∨ (3 ≤ a ∧ a ≤ 8) ∨ (10 ≤ a ∧ a ≤ 14) ∨ a = 16 ∨ a = 138 ∨ a = 191 ∨ a = 197 ∨ a = 217) → v53 a = v a := fun a ha => by rw [hg a (by omega), hf a ha]
    clear hg
    intro v58 ev58
    replace h := h v58 ev58
    replace hf : ∀ a, ¬ ((0 ≤ a ∧ a ≤ 1) ∨ (3 ≤ a ∧ a ≤ 8) ∨ (10 ≤ a ∧ a ≤ 14) ∨ a = 16 ∨ a = 138 ∨ a = 191 ∨ a = 197 ∨ a = 217) → v58 a = v a := fun a ha => by rw [ev58, upd2_off _ _ _ (by omega), hf a ha]
    intro v63 ev63
    replace h := h v63 ev63
    replace hf : ∀ a, ¬ ((0 ≤ a ∧ a ≤ 1) ∨ (3 ≤ a ∧ a ≤ 8) ∨ (10 ≤ a ∧ a ≤ 14) ∨ a = 16 ∨ a = 138 ∨ a = 191 ∨ a = 197 ∨ a = 217) → v63 a = v a := fun a ha => by rw [ev63, upd2_off _ _ _ (by omega), hf a ha]
    refine N_X10_changed (F_X10_changed h) (fun v67 h => ?_)
    obtain ⟨h, hg⟩ := h
    replace hf : ∀ a, ¬ ((0 ≤ a ∧ a ≤ 1) ∨ (3 ≤ a ∧ a ≤ 8) ∨ (10 ≤ a ∧ a ≤ 14) ∨ a = 16 ∨ a = 138 ∨ a = 191 ∨ a = 197 ∨ a = 217) → v67 a = v a := fun a ha => by rw [hg a (by omega), hf a ha]
    clear hg
    exact ⟨h, hf⟩
  · replace h := h.2 hc
    refine N_X10_refuse (F_X10_refuse h) (fun r31 v31 h => ?_)
    obtain ⟨h, hg⟩ := h
    replace hf : ∀ a, ¬ ((0 ≤ a ∧ a ≤ 1) ∨ (3 ≤ a ∧ a ≤ 8) ∨ (10 ≤ a ∧ a ≤ 14) ∨ a = 16 ∨ a = 138 ∨ a = 191 ∨ a = 197 ∨ a = 217) → v31 a = v a := fun a ha => by rw [hg a (by omega), hf a ha]
    clear hg
    exact ⟨h, hf⟩
theorem N_X10_fault {x1 : Int} {v : VT} {q q' : Int → Prop} (h : P_X10_fault x1 v q) (hq : ∀ r, q r → q' r) : P_X10_fault x1 v q' := by
  unfold P_X10_fault at h ⊢
  refine ⟨fun hc => ?_, fun hc => ?_⟩
  · replace h := h.1 hc
    refine ⟨fun hc => ?_, fun hc => ?_⟩
    · replace h := h.1 hc
      exact hq _ h
    · replace h := h.2 hc
      exact hq _ h
  · replace h := h.2 hc
    exact hq _ h
theorem N_X10_measured  {v : VT} {q q' : VT → Prop} (h : P_X10_measured  v q) (hq : ∀ w, q w → q' w) : P_X10_measured  v q' := by
  unfold P_X10_measured at h ⊢
  refine ⟨fun hc => ?_, fun hc => ?_⟩
  · replace h := h.1 hc
    exact hq _ h
  · replace h := h.2 hc
    refine N_X2_measure h (fun v18 h => ?_)
    exact hq _ h
theorem F_X10_measured  {v : VT} {q : VT → Prop} (h : P_X10_measured  v q) : P_X10_measured  v (fun w => q w ∧ ∀ a, ¬ ((138 ≤ a ∧ a ≤ 139) ∨ (141 ≤ a ∧ a ≤ 164)) → w a = v a) := by
  unfold P_X10_measured at h ⊢
  have hf : ∀ a, ¬ ((138 ≤ a ∧ a ≤ 139) ∨ (141 ≤ a ∧ a ≤ 164)) → v a = v a := fun a _ => rfl
  refine ⟨fun hc => ?_, fun hc => ?_⟩
  · replace h := h.1 hc
    exact ⟨h, hf⟩
  · replace h := h.2 hc
    refine N_X2_measure (F_X2_measure h) (fun v18 h => ?_)
    obtain ⟨h, hg⟩ := h
    replace hf : ∀ a, ¬ ((138 ≤ a ∧ a ≤ 139) ∨ (141 ≤ a ∧ a ≤ 164)) → v18 a = v a := fun a ha => by rw [hg a (by omega), hf a ha]
    clear hg
    exact ⟨h, hf⟩
theorem N_X10_sorted  {v : VT} {q q' : VT → Prop} (h : P_X10_sorted  v q) (hq : ∀ w, q w → q' w) : P_X10_sorted  v q' := by
  unfold P_X10_sorted at h ⊢
  refine N_X10_measured h (fun v1 h => ?_)
  refine ⟨fun hc => ?_, fun hc => ?_⟩
  · replace h := h.1 hc
    exact hq _ h
  · replace h := h.2 hc
    refine N_X1_collect h (fun v27 h => ?_)
    exact hq _ h
theorem F_X10_sorted  {v : VT} {q : VT → Prop} (h : P_X10_sorted  v q) : P_X10_sorted  v (fun w => q w ∧ ∀ a, ¬ ((138 ≤ a ∧ a ≤ 139) ∨ (141 ≤ a ∧ a ≤ 164) ∨ (191 ≤ a ∧ a ≤ 194) ∨ a = 196) → w a = v a) := by
  unfold P_X10_sorted at h ⊢
  have hf : ∀ a, ¬ ((138 ≤ a ∧ a ≤ 139) ∨ (141 ≤ a ∧ a ≤ 164) ∨ (191 ≤ a ∧ a ≤ 194) ∨ a = 196) → v a = v a := fun a _ => rfl
  refine N_X10_measured (F_X10_measured h) (fun v1 h => ?_)
  obtain ⟨h, hg⟩ := h
  replace hf : ∀ a, ¬ ((138 ≤ a ∧ a ≤ 139) ∨ (141 ≤ a ∧ a ≤ 164) ∨ (191 ≤ a ∧ a ≤ 194) ∨ a = 196) → v1 a = v a := fun a ha => by rw [hg a (by omega), hf a ha]
  clear hg
  refine ⟨fun hc => ?_, fun hc => ?_⟩
  · replace h := h.1 hc
    exact ⟨h, hf⟩
  · replace h := h.2 hc
    refine N_X1_collect (F_X1_collect h) (fun v27 h => ?_)
    obtain ⟨h, hg⟩ := h
    replace hf : ∀ a, ¬ ((138 ≤ a ∧ a ≤ 139) ∨ (141 ≤ a ∧ a ≤ 164) ∨ (191 ≤ a ∧ a ≤ 194) ∨ a = 196) → v27 a = v a := fun a ha => by rw [hg a (by omega), hf a ha]
    clear hg
    exact ⟨h, hf⟩
theorem N_X10_seated  {v : VT} {q q' : VT → Prop} (h : P_X10_seated  v q) (hq : ∀ w, q w → q' w) : P_X10_seated  v q' := by
  unfold P_X10_seated at h ⊢
  refine N_X10_measured h (fun v1 h => ?_)
  intro K30 hKK30
  refine n_cut (h K30) ?_ ?_
  · intro v30 h
    refine hKK30 v30 ?_
    refine ⟨fun hc => ?_, fun hc => ?_⟩
    · replace h := h.1 hc
      exact hq _ h
    · replace h := h.2 hc
      refine N_X8_settle h (fun v56 h => ?_)
      exact hq _ h
  · intro h
    refine ⟨fun hc => ?_, fun hc => ?_⟩
    · replace h := h.1 hc
      exact h
    · replace h := h.2 hc
      refine N_X1_collect h (fun v27 h => ?_)
      exact h
theorem F_X10_seated  {v : VT} {q : VT → Prop} (h : P_X10_seated  v q) : P_X10_seated  v (fun w => q w ∧ ∀ a, ¬ ((138 ≤ a ∧ a ≤ 139) ∨ (141 ≤ a ∧ a ≤ 164) ∨ (191 ≤ a ∧ a ≤ 194) ∨ (196 ≤ a ∧ a ≤ 199)) → w a = v a) := by
  unfold P_X10_seated at h ⊢
  have hf : ∀ a, ¬ ((138 ≤ a ∧ a ≤ 139) ∨ (141 ≤ a ∧ a ≤ 164) ∨ (191 ≤ a ∧ a ≤ 194) ∨ (196 ≤ a ∧ a ≤ 199)) → v a = v a := fun a _ => rfl
  refine N_X10_measured (F_X10_measured h) (fun v1 h => ?_)
  obtain ⟨h, hg⟩ := h
  replace hf : ∀ a, ¬ ((138 ≤ a ∧ a ≤ 139) ∨ (141 ≤ a ∧ a ≤ 164) ∨ (191 ≤ a ∧ a ≤ 194) ∨ (196 ≤ a ∧ a ≤ 199)) → v1 a = v a := fun a ha => by rw [hg a (by omega), hf a ha]
  clear hg
  intro K30 hKK30
  refine n_cut (h (fun (v30 : VT) => (∀ a, ¬ ((138 ≤ a ∧ a ≤ 139) ∨ (141 ≤ a ∧ a ≤ 164) ∨ (191 ≤ a ∧ a ≤ 194) ∨ (196 ≤ a ∧ a ≤ 199)) → v30 a = v a) → K30 v30)) ?_ ?_
  · intro v30 h hf
    refine hKK30 v30 ?_
    refine ⟨fun hc => ?_, fun hc => ?_⟩
    · replace h := h.1 hc
      exact ⟨h, hf⟩
    · replace h := h.2 hc
      refine N_X8_settle (F_X8_settle h) (fun v56 h => ?_)
      obtain ⟨h, hg⟩ := h
      replace hf : ∀ a, ¬ ((138 ≤ a ∧ a ≤ 139) ∨ (141 ≤ a ∧ a ≤ 164) ∨ (191 ≤ a ∧ a ≤ 194) ∨ (196 ≤ a ∧ a ≤ 199)) → v56 a = v a := fun a ha => by rw [hg a (by omega), hf a ha]
      clear hg
      exact ⟨h, hf⟩
  · intro h
    refine ⟨fun hc => ?_, fun hc => ?_⟩
    · replace h := h.1 hc
      exact h hf
    · replace h := h.2 hc
      refine N_X1_collect (F_X1_collect h) (fun v27 h => ?_)
      obtain ⟨h, hg⟩ := h
      replace hf : ∀ a, ¬ ((138 ≤ a ∧ a ≤ 139) ∨ (141 ≤ a ∧ a ≤ 164) ∨ (191 ≤ a ∧ a ≤ 194) ∨ (196 ≤ a ∧ a ≤ 199)) → v27 a = v a := fun a ha => by rw [hg a (by omega), hf a ha]
      clear hg
      exact h hf
theorem N_X10_has {x1 : Int} {v : VT} {q q' : Int → VT → Prop} (h : P_X10_has x1 v q) (hq : ∀ r w, q r w → q' r w) : P_X10_has x1 v q' := by
  unfold P_X10_has at h ⊢
  refine ⟨fun hc => ?_, fun hc => ?_, fun hc => ?_, fun hc => ?_, fun hc => ?_, fun hc => ?_, fun hc => ?_, fun hc => ?_, fun hc => ?_⟩
  · replace h := h.1 hc
    exact hq _ _ h
  · replace h := h.2.1 hc
    exact hq _ _ h
  · replace h := h.2.2.1 hc
    refine N_X10_sorted h (fun v65 h => ?_)
    exact hq _ _ h
  · replace h := h.2.2.2.1 hc
    exact hq _ _ h
  · replace h := h.2.2.2.2.1 hc
    exact hq _ _ h
  · replace h := h.2.2.2.2.2.1 hc
    exact hq _ _ h
  · replace h := h.2.2.2.2.2.2.1 hc
    refine N_X10_seated h (fun v91 h => ?_)
    exact hq _ _ h
  · replace h := h.2.2.2.2.2.2.2.1 hc
    refine N_X10_sorted h (fun v99 h => ?_)
    refine N_X1_isFair h (fun r106 h => ?_)
    refine ⟨fun hc => ?_, fun hc => ?_⟩
    · replace h := h.1 hc
      exact hq _ _ h
    · replace h := h.2 hc
      exact hq _ _ h
  · replace h := h.2.2.2.2.2.2.2.2 hc
    exact hq _ _ h
theorem F_X10_has {x1 : Int} {v : VT} {q : Int → VT → Prop} (h : P_X10_has x1 v q) : P_X10_has x1 v (fun r w => q r w ∧ ∀ a, ¬ ((138 ≤ a ∧ a ≤ 139) ∨ (141 ≤ a ∧ a ≤ 164) ∨ (191 ≤ a ∧ a ≤ 194) ∨ (196 ≤ a ∧ a ≤ 199)) → w a = v a) := by
  unfold P_X10_has at h ⊢
  have hf : ∀ a, ¬ ((138 ≤ a ∧ a ≤ 139) ∨ (141 ≤ a ∧ a ≤ 164) ∨ (191 ≤ a ∧ a ≤ 194) ∨ (196 ≤ a ∧ a ≤ 199)) → v a = v a := fun a _ => rfl
  refine ⟨fun hc => ?_, fun hc => ?_, fun hc => ?_, fun hc => ?_, fun hc => ?_, fun hc => ?_, fun hc => ?_, fun hc => ?_, fun hc => ?_⟩
  · replace h := h.1 hc
    exact ⟨h, hf⟩
  · replace h := h.2.1 hc
    exact ⟨h, hf⟩
  · replace h := h.2.2.1 hc
    refine N_X10_sorted (F_X10_sorted h) (fun v65 h => ?_)
    obtain ⟨h, hg⟩ := h
    replace hf : ∀ a, ¬ ((138 ≤ a ∧ a ≤ 139) ∨ (141 ≤ a ∧ a ≤ 164) ∨ (191 ≤ a ∧ a ≤ 194) ∨ (196 ≤ a ∧ a ≤ 199)) → v65 a = v a := fun a ha => by rw [hg a (by omega), hf a ha]
    clear hg
    exact ⟨h, hf⟩
  · replace h := h.2.2.2.1 hc
    exact ⟨h, hf⟩
  · replace h := h.2.2.2.2.1 hc
    exact ⟨h, hf⟩
  · replace h := h.2.2.2.2.2.1 hc
    exact ⟨h, hf⟩
  · replace h := h.2.2.2.2.2.2.1 hc
    refine N_X10_seated (F_X10_seated h) (fun v91 h => ?_)
    obtain ⟨h, hg⟩ := h
    replace hf : ∀ a, ¬ ((138 ≤ a ∧ a ≤ 139) ∨ (141 ≤ a ∧ a ≤ 164) ∨ (191 ≤ a ∧ a ≤ 194) ∨ (196 ≤ a ∧ a ≤ 199)) → v91 a = v a := fun a ha => by rw [hg a (by omega), hf a ha]
    clear hg
    exact ⟨h, hf⟩
  · replace h := h.2.2.2.2.2.2.2.1 hc
    refine N_X10_sorted (F_X10_sorted h) (fun v99 h => ?_)
    obtain ⟨h, hg⟩ := h
    replace hf : ∀ a, ¬ ((138 ≤ a ∧ a ≤ 139) ∨ (141 ≤ a ∧ a ≤ 164) ∨ (191 ≤ a ∧ a ≤ 194) ∨ (196 ≤ a ∧ a ≤ 199)) → v99 a = v a := fun a ha => by rw [hg a (by omega), hf a ha]
    clear hg
    refine N_X1_isFair h (fun r106 h => ?_)
    refine ⟨fun hc => ?_, fun hc => ?_⟩
    · replace h := h.1 hc
      exact ⟨h, hf⟩
    · replace h := h.2 hc
      exact ⟨h, hf⟩
  · replace h := h.2.2.2.2.2.2.2.2 hc
    exact ⟨h, hf⟩
theorem N_X10_letterOf {x0 : Int} {x1 : Int} {v : VT} {q q' : Int → Prop} (h : P_X10_letterOf x0 x1 v q) (hq : ∀ r, q r → q' r) : P_X10_letterOf x0 x1 v q' := by
  unfold P_X10_letterOf at h ⊢
  obtain ⟨ho1, h⟩ := h
  refine ⟨ho1, ?_⟩
  exact hq _ h
theorem N_X10_letter {x1 : Int} {x2 : Int} {v : VT} {q q' : Int → Prop} (h : P_X10_letter x1 x2 v q) (hq : ∀ r, q r → q' r) : P_X10_letter x1 x2 v q' := by
  unfold P_X10_letter at h ⊢
  refine N_X0_isNode h (fun r5 h => ?_)
  refine ⟨fun hc => ?_, fun hc => ?_⟩
  · replace h := h.1 hc
    exact hq _ h
  · replace h := h.2 hc
    refine ⟨fun hc => ?_, fun hc => ?_⟩
    · replace h := h.1 hc
      exact hq _ h
    · replace h := h.2 hc
      refine ⟨fun hc => ?_, fun hc => ?_⟩
      · replace h := h.1 hc
        obtain ⟨ho1, h⟩ := h
        refine ⟨ho1, ?_⟩
        refine N_X10_letterOf h (fun r32 h => ?_)
        exact hq _ h
      · replace h := h.2 hc
        exact hq _ h
theorem N_X10_named  {v : VT} {q q' : Int → VT → Prop} (h : P_X10_named  v q) (hq : ∀ r w, q r w → q' r w) : P_X10_named  v q' := by
  unfold P_X10_named at h ⊢
  refine N_X5_readName h (fun r8 v8 h => ?_)
  intro v17 ev17
  replace h := h v17 ev17
  refine N_X0_findName h (fun r25 h => ?_)
  exact hq _ _ h
theorem F_X10_named  {v : VT} {q : Int → VT → Prop} (h : P_X10_named  v q) : P_X10_named  v (fun r w => q r w ∧ ∀ a, ¬ (a = 1 ∨ a = 3) → w a = v a) := by
  unfold P_X10_named at h ⊢
  have hf : ∀ a, ¬ (a = 1 ∨ a = 3) → v a = v a := fun a _ => rfl
  refine N_X5_readName (F_X5_readName h) (fun r8 v8 h => ?_)
  obtain ⟨h, hg⟩ := h
  replace hf : ∀ a, ¬ (a = 1 ∨ a = 3) → v8 a = v a := fun a ha => by rw [hg a (by omega), hf a ha]
  clear hg
  intro v17 ev17
  replace h := h v17 ev17
  replace hf : ∀ a, ¬ (a = 1 ∨ a = 3) → v17 a = v a := fun a ha => by rw [ev17, upd2_off _ _ _ (by omega), hf a ha]
  refine N_X0_findName h (fun r25 h => ?_)
  exact ⟨h, hf⟩
theorem N_X10_line {x1 : Int} {x2 : Int} {v : VT} {q q' : Int → VT → Prop} (h : P_X10_line x1 x2 v q) (hq : ∀ r w, q r w → q' r w) : P_X10_line x1 x2 v q' := by
  unfold P_X10_line at h ⊢
  refine N_X0_isLine h (fun r5 h => ?_)
  refine ⟨fun hc => ?_, fun hc => ?_⟩
  · replace h := h.1 hc
    refine ⟨fun hc => ?_, fun hc => ?_, fun hc => ?_, fun hc => ?_, fun hc => ?_⟩
    · replace h := h.1 hc
      obtain ⟨ho1, h⟩ := h
      refine ⟨ho1, ?_⟩
      exact hq _ _ h
    · replace h := h.2.1 hc
      obtain ⟨ho2, h⟩ := h
      refine ⟨ho2, ?_⟩
      exact hq _ _ h
    · replace h := h.2.2.1 hc
      refine N_X10_sorted h (fun v65 h => ?_)
      obtain ⟨ho3, h⟩ := h
      refine ⟨ho3, ?_⟩
      exact hq _ _ h
    · replace h := h.2.2.2.1 hc
      obtain ⟨ho4, h⟩ := h
      refine ⟨ho4, ?_⟩
      exact hq _ _ h
    · replace h := h.2.2.2.2 hc
      exact hq _ _ h
  · replace h := h.2 hc
    exact hq _ _ h
theorem F_X10_line {x1 : Int} {x2 : Int} {v : VT} {q : Int → VT → Prop} (h : P_X10_line x1 x2 v q) : P_X10_line x1 x2 v (fun r w => q r w ∧ ∀ a, ¬ ((138 ≤ a ∧ a ≤ 139) ∨ (141 ≤ a ∧ a ≤ 164) ∨ (191 ≤ a ∧ a ≤ 194) ∨ a = 196) → w a = v a) := by
  unfold P_X10_line at h ⊢
  have hf : ∀ a, ¬ ((138 ≤ a ∧ a ≤ 139) ∨ (141 ≤ a ∧ a ≤ 164) ∨ (191 ≤ a ∧ a ≤ 194) ∨ a = 196) → v a = v a := fun a _ => rfl
  refine N_X0_isLine h (fun r5 h => ?_)
  refine ⟨fun hc => ?_, fun hc => ?_⟩
  · replace h := h.1 hc
    refine ⟨fun hc => ?_, fun hc => ?_, fun hc => ?_, fun hc => ?_, fun hc => ?_⟩
    · replace h := h.1 hc
      obtain ⟨ho1, h⟩ := h
      refine ⟨ho1, ?_⟩
      exact ⟨h, hf⟩
    · replace h := h.2.1 hc
      obtain ⟨ho2, h⟩ := h
      refine ⟨ho2, ?_⟩
      exact ⟨h, hf⟩
    · replace h := h.2.2.1 hc
      refine N_X10_sorted (F_X10_sorted h) (fun v65 h => ?_)
      obtain ⟨h, hg⟩ := h
      replace hf : ∀ a, ¬ ((138 ≤ a ∧ a ≤ 139) ∨ (141 ≤ a ∧ a ≤ 164) ∨ (191 ≤ a ∧ a ≤ 194) ∨ a = 196) → v65 a = v a := fun a ha => by rw [hg a (by omega), hf a ha]
      clear hg
      obtain ⟨ho3, h⟩ := h
      refine ⟨ho3, ?_⟩
      exact ⟨h, hf⟩
    · replace h := h.2.2.2.1 hc
      obtain ⟨ho4, h⟩ := h
      refine ⟨ho4, ?_⟩
      exact ⟨h, hf⟩
    · replace h := h.2.2.2.2 hc
      exact ⟨h, hf⟩
  · replace h := h.2 hc
    exact ⟨h, hf⟩
theorem N_X10_degree {x1 : Int} {v : VT} {q q' : Int → VT → Prop} (h : P_X10_degree x1 v q) (hq : ∀ r w, q r w → q' r w) : P_X10_degree x1 v q' := by
  unfold P_X10_degree at h ⊢
  refine N_X0_isNode h (fun r5 h => ?_)
  refine ⟨fun hc => ?_, fun hc => ?_⟩
  · replace h := h.1 hc
    refine N_X10_measured h (fun v14 h => ?_)
    obtain ⟨ho1, h⟩ := h
    refine ⟨ho1, ?_⟩
    refine N_J6_bitCount_0f7a4 h (fun r22 h => ?_)
    exact hq _ _ h
  · replace h := h.2 hc
    exact hq _ _ h
theorem F_X10_degree {x1 : Int} {v : VT} {q : Int → VT → Prop} (h : P_X10_degree x1 v q) : P_X10_degree x1 v (fun r w => q r w ∧ ∀ a, ¬ ((138 ≤ a ∧ a ≤ 139) ∨ (141 ≤ a ∧ a ≤ 164)) → w a = v a) := by
  unfold P_X10_degree at h ⊢
  have hf : ∀ a, ¬ ((138 ≤ a ∧ a ≤ 139) ∨ (141 ≤ a ∧ a ≤ 164)) → v a = v a := fun a _ => rfl
  refine N_X0_isNode h (fun r5 h => ?_)
  refine ⟨fun hc => ?_, fun hc => ?_⟩
  · replace h := h.1 hc
    refine N_X10_measured (F_X10_measured h) (fun v14 h => ?_)
    obtain ⟨h, hg⟩ := h
    replace hf : ∀ a, ¬ ((138 ≤ a ∧ a ≤ 139) ∨ (141 ≤ a ∧ a ≤ 164)) → v14 a = v a := fun a ha => by rw [hg a (by omega), hf a ha]
    clear hg
    obtain ⟨ho1, h⟩ := h
    refine ⟨ho1, ?_⟩
    refine N_J6_bitCount_0f7a4 h (fun r22 h => ?_)
    exact ⟨h, hf⟩
  · replace h := h.2 hc
    exact ⟨h, hf⟩
theorem N_X10_areNodes {x1 : Int} {x2 : Int} {v : VT} {q q' : Int → Prop} (h : P_X10_areNodes x1 x2 v q) (hq : ∀ r, q r → q' r) : P_X10_areNodes x1 x2 v q' := by
  unfold P_X10_areNodes at h ⊢
  refine N_X0_isNode h (fun r5 h => ?_)
  refine ⟨fun hc => ?_, fun hc => ?_⟩
  · replace h := h.1 hc
    exact hq _ h
  · replace h := h.2 hc
    refine N_X0_isNode h (fun r16 h => ?_)
    refine ⟨fun hc => ?_, fun hc => ?_⟩
    · replace h := h.1 hc
      exact hq _ h
    · replace h := h.2 hc
      exact hq _ h
theorem N_X10_far {x1 : Int} {x2 : Int} {v : VT} {q q' : Int → VT → Prop} (h : P_X10_far x1 x2 v q) (hq : ∀ r w, q r w → q' r w) : P_X10_far x1 x2 v q' := by
  unfold P_X10_far at h ⊢
  refine N_X10_areNodes h (fun r3 h => ?_)
  refine ⟨fun hc => ?_, fun hc => ?_⟩
  · replace h := h.1 hc
    refine N_X10_measured h (fun v12 h => ?_)
    obtain ⟨ho1, h⟩ := h
    refine ⟨ho1, ?_⟩
    obtain ⟨ho2, h⟩ := h
    refine ⟨ho2, ?_⟩
    exact hq _ _ h
  · replace h := h.2 hc
    exact hq _ _ h
theorem F_X10_far {x1 : Int} {x2 : Int} {v : VT} {q : Int → VT → Prop} (h : P_X10_far x1 x2 v q) : P_X10_far x1 x2 v (fun r w => q r w ∧ ∀ a, ¬ ((138 ≤ a ∧ a ≤ 139) ∨ (141 ≤ a ∧ a ≤ 164)) → w a = v a) := by
  unfold P_X10_far at h ⊢
  have hf : ∀ a, ¬ ((138 ≤ a ∧ a ≤ 139) ∨ (141 ≤ a ∧ a ≤ 164)) → v a = v a := fun a _ => rfl
  refine N_X10_areNodes h (fun r3 h => ?_)
  refine ⟨fun hc => ?_, fun hc => ?_⟩
  · replace h := h.1 hc
    refine N_X10_measured (F_X10_measured h) (fun v12 h => ?_)
    obtain ⟨h, hg⟩ := h
    replace hf : ∀ a, ¬ ((138 ≤ a ∧ a ≤ 139) ∨ (141 ≤ a ∧ a ≤ 164)) → v12 a = v a := fun a ha => by rw [hg a (by omega), hf a ha]
    clear hg
    obtain ⟨ho1, h⟩ := h
    refine ⟨ho1, ?_⟩
    obtain ⟨ho2, h⟩ := h
    refine ⟨ho2, ?_⟩
    exact ⟨h, hf⟩
  · replace h := h.2 hc
    exact ⟨h, hf⟩
theorem N_X10_ways {x1 : Int} {x2 : Int} {v : VT} {q q' : Int → VT → Prop} (h : P_X10_ways x1 x2 v q) (hq : ∀ r w, q r w → q' r w) : P_X10_ways x1 x2 v q' := by
  unfold P_X10_ways at h ⊢
  refine N_X10_areNodes h (fun r3 h => ?_)
  refine ⟨fun hc => ?_, fun hc => ?_⟩
  · replace h := h.1 hc
    refine N_X10_measured h (fun v12 h => ?_)
    refine N_X2_countWays h (fun r17 v17 h => ?_)
    exact hq _ _ h
  · replace h := h.2 hc
    exact hq _ _ h
theorem F_X10_ways {x1 : Int} {x2 : Int} {v : VT} {q : Int → VT → Prop} (h : P_X10_ways x1 x2 v q) : P_X10_ways x1 x2 v (fun r w => q r w ∧ ∀ a, ¬ ((138 ≤ a ∧ a ≤ 139) ∨ (141 ≤ a ∧ a ≤ 164) ∨ a = 190) → w a = v a) := by
  unfold P_X10_ways at h ⊢
  have hf : ∀ a, ¬ ((138 ≤ a ∧ a ≤ 139) ∨ (141 ≤ a ∧ a ≤ 164) ∨ a = 190) → v a = v a := fun a _ => rfl
  refine N_X10_areNodes h (fun r3 h => ?_)
  refine ⟨fun hc => ?_, fun hc => ?_⟩
  · replace h := h.1 hc
    refine N_X10_measured (F_X10_measured h) (fun v12 h => ?_)
    obtain ⟨h, hg⟩ := h
    replace hf : ∀ a, ¬ ((138 ≤ a ∧ a ≤ 139) ∨ (141 ≤ a ∧ a ≤ 164) ∨ a = 190) → v12 a = v a := fun a ha => by rw [hg a (by omega), hf a ha]
    clear hg
    refine N_X2_countWays (F_X2_countWays h) (fun r17 v17 h => ?_)
    obtain ⟨h, hg⟩ := h
    replace hf : ∀ a, ¬ ((138 ≤ a ∧ a ≤ 139) ∨ (141 ≤ a ∧ a ≤ 164) ∨ a = 190) → v17 a = v a := fun a ha => by rw [hg a (by omega), hf a ha]
    clear hg
    exact ⟨h, hf⟩
  · replace h := h.2 hc
    exact ⟨h, hf⟩
theorem N_X10_between {x1 : Int} {x2 : Int} {v : VT} {q q' : Int → VT → Prop} (h : P_X10_between x1 x2 v q) (hq : ∀ r w, q r w → q' r w) : P_X10_between x1 x2 v q' := by
  unfold P_X10_between at h ⊢
  refine N_X10_areNodes h (fun r3 h => ?_)
  refine ⟨fun hc => ?_, fun hc => ?_⟩
  · replace h := h.1 hc
    refine N_X10_measured h (fun v12 h => ?_)
    refine N_X2_amid h (fun r17 v17 h => ?_)
    exact hq _ _ h
  · replace h := h.2 hc
    exact hq _ _ h
theorem F_X10_between {x1 : Int} {x2 : Int} {v : VT} {q : Int → VT → Prop} (h : P_X10_between x1 x2 v q) : P_X10_between x1 x2 v (fun r w => q r w ∧ ∀ a, ¬ ((138 ≤ a ∧ a ≤ 139) ∨ (141 ≤ a ∧ a ≤ 164) ∨ (166 ≤ a ∧ a ≤ 189)) → w a = v a) := by
  unfold P_X10_between at h ⊢
  have hf : ∀ a, ¬ ((138 ≤ a ∧ a ≤ 139) ∨ (141 ≤ a ∧ a ≤ 164) ∨ (166 ≤ a ∧ a ≤ 189)) → v a = v a := fun a _ => rfl
  refine N_X10_areNodes h (fun r3 h => ?_)
  refine ⟨fun hc => ?_, fun hc => ?_⟩
  · replace h := h.1 hc
    refine N_X10_measured (F_X10_measured h) (fun v12 h => ?_)
    obtain ⟨h, hg⟩ := h
    replace hf : ∀ a, ¬ ((138 ≤ a ∧ a ≤ 139) ∨ (141 ≤ a ∧ a ≤ 164) ∨ (166 ≤ a ∧ a ≤ 189)) → v12 a = v a := fun a ha => by rw [hg a (by omega), hf a ha]
    clear hg
    refine N_X2_amid (F_X2_amid h) (fun r17 v17 h => ?_)
    obtain ⟨h, hg⟩ := h
    replace hf : ∀ a, ¬ ((138 ≤ a ∧ a ≤ 139) ∨ (141 ≤ a ∧ a ≤ 164) ∨ (166 ≤ a ∧ a ≤ 189)) → v17 a = v a := fun a ha => by rw [hg a (by omega), hf a ha]
    clear hg
    exact ⟨h, hf⟩
  · replace h := h.2 hc
    exact ⟨h, hf⟩
theorem N_X10_reach {x1 : Int} {v : VT} {q q' : Int → VT → Prop} (h : P_X10_reach x1 v q) (hq : ∀ r w, q r w → q' r w) : P_X10_reach x1 v q' := by
  unfold P_X10_reach at h ⊢
  refine N_X0_isNode h (fun r5 h => ?_)
  refine ⟨fun hc => ?_, fun hc => ?_⟩
  · replace h := h.1 hc
    refine N_X10_measured h (fun v14 h => ?_)
    refine N_X2_mostFrom h (fun r18 h => ?_)
    exact hq _ _ h
  · replace h := h.2 hc
    exact hq _ _ h
theorem F_X10_reach {x1 : Int} {v : VT} {q : Int → VT → Prop} (h : P_X10_reach x1 v q) : P_X10_reach x1 v (fun r w => q r w ∧ ∀ a, ¬ ((138 ≤ a ∧ a ≤ 139) ∨ (141 ≤ a ∧ a ≤ 164)) → w a = v a) := by
  unfold P_X10_reach at h ⊢
  have hf : ∀ a, ¬ ((138 ≤ a ∧ a ≤ 139) ∨ (141 ≤ a ∧ a ≤ 164)) → v a = v a := fun a _ => rfl
  refine N_X0_isNode h (fun r5 h => ?_)
  refine ⟨fun hc => ?_, fun hc => ?_⟩
  · replace h := h.1 hc
    refine N_X10_measured (F_X10_measured h) (fun v14 h => ?_)
    obtain ⟨h, hg⟩ := h
    replace hf : ∀ a, ¬ ((138 ≤ a ∧ a ≤ 139) ∨ (141 ≤ a ∧ a ≤ 164)) → v14 a = v a := fun a ha => by rw [hg a (by omega), hf a ha]
    clear hg
    refine N_X2_mostFrom h (fun r18 h => ?_)
    exact ⟨h, hf⟩
  · replace h := h.2 hc
    exact ⟨h, hf⟩
theorem N_X10_price {x1 : Int} {x2 : Int} {x3 : Int} {v : VT} {q q' : Int → VT → Prop} (h : P_X10_price x1 x2 x3 v q) (hq : ∀ r w, q r w → q' r w) : P_X10_price x1 x2 x3 v q' := by
  unfold P_X10_price at h ⊢
  refine ⟨fun hc => ?_, fun hc => ?_⟩
  · replace h := h.1 hc
    exact hq _ _ h
  · replace h := h.2 hc
    refine ⟨fun hc => ?_, fun hc => ?_⟩
    · replace h := h.1 hc
      exact hq _ _ h
    · replace h := h.2 hc
      refine N_X10_areNodes h (fun r12 h => ?_)
      refine ⟨fun hc => ?_, fun hc => ?_⟩
      · replace h := h.1 hc
        exact hq _ _ h
      · replace h := h.2 hc
        refine N_X10_measured h (fun v19 h => ?_)
        obtain ⟨ho1, h⟩ := h
        refine ⟨ho1, ?_⟩
        obtain ⟨ho2, h⟩ := h
        refine ⟨ho2, ?_⟩
        refine ⟨fun hc => ?_, fun hc => ?_⟩
        · replace h := h.1 hc
          refine ⟨fun hc => ?_, fun hc => ?_⟩
          · replace h := h.1 hc
            refine N_X6_weigh h (fun v54 h => ?_)
            obtain ⟨ho3, h⟩ := h
            refine ⟨ho3, ?_⟩
            exact hq _ _ h
          · replace h := h.2 hc
            refine N_X6_weigh h (fun v54_1 h => ?_)
            obtain ⟨ho4, h⟩ := h
            refine ⟨ho4, ?_⟩
            exact hq _ _ h
        · replace h := h.2 hc
          exact hq _ _ h
theorem F_X10_price {x1 : Int} {x2 : Int} {x3 : Int} {v : VT} {q : Int → VT → Prop} (h : P_X10_price x1 x2 x3 v q) : P_X10_price x1 x2 x3 v (fun r w => q r w ∧ ∀ a, ¬ ((138 ≤ a ∧ a ≤ 139) ∨ (141 ≤ a ∧ a ≤ 164) ∨ a = 201) → w a = v a) := by
  unfold P_X10_price at h ⊢
  have hf : ∀ a, ¬ ((138 ≤ a ∧ a ≤ 139) ∨ (141 ≤ a ∧ a ≤ 164) ∨ a = 201) → v a = v a := fun a _ => rfl
  refine ⟨fun hc => ?_, fun hc => ?_⟩
  · replace h := h.1 hc
    exact ⟨h, hf⟩
  · replace h := h.2 hc
    refine ⟨fun hc => ?_, fun hc => ?_⟩
    · replace h := h.1 hc
      exact ⟨h, hf⟩
    · replace h := h.2 hc
      refine N_X10_areNodes h (fun r12 h => ?_)
      refine ⟨fun hc => ?_, fun hc => ?_⟩
      · replace h := h.1 hc
        exact ⟨h, hf⟩
      · replace h := h.2 hc
        refine N_X10_measured (F_X10_measured h) (fun v19 h => ?_)
        obtain ⟨h, hg⟩ := h
        replace hf : ∀ a, ¬ ((138 ≤ a ∧ a ≤ 139) ∨ (141 ≤ a ∧ a ≤ 164) ∨ a = 201) → v19 a = v a := fun a ha => by rw [hg a (by omega), hf a ha]
        clear hg
        obtain ⟨ho1, h⟩ := h
        refine ⟨ho1, ?_⟩
        obtain ⟨ho2, h⟩ := h
        refine ⟨ho2, ?_⟩
        refine ⟨fun hc => ?_, fun hc => ?_⟩
        · replace h := h.1 hc
          refine ⟨fun hc => ?_, fun hc => ?_⟩
          · replace h := h.1 hc
            refine N_X6_weigh (F_X6_weigh h) (fun v54 h => ?_)
            obtain ⟨h, hg⟩ := h
            replace hf : ∀ a, ¬ ((138 ≤ a ∧ a ≤ 139) ∨ (141 ≤ a ∧ a ≤ 164) ∨ a = 201) → v54 a = v a := fun a ha => by rw [hg a (by omega), hf a ha]
            clear hg
            obtain ⟨ho3, h⟩ := h
            refine ⟨ho3, ?_⟩
            exact ⟨h, hf⟩
          · replace h := h.2 hc
            refine N_X6_weigh (F_X6_weigh h) (fun v54_1 h => ?_)
            obtain ⟨h, hg⟩ := h
            replace hf : ∀ a, ¬ ((138 ≤ a ∧ a ≤ 139) ∨ (141 ≤ a ∧ a ≤ 164) ∨ a = 201) → v54_1 a = v a := fun a ha => by rw [hg a (by omega), hf a ha]
            clear hg
            obtain ⟨ho4, h⟩ := h
            refine ⟨ho4, ?_⟩
            exact ⟨h, hf⟩
        · replace h := h.2 hc
          exact ⟨h, hf⟩
theorem N_X10_road {x1 : Int} {x2 : Int} {x3 : Int} {v : VT} {q q' : Int → VT → Prop} (h : P_X10_road x1 x2 x3 v q) (hq : ∀ r w, q r w → q' r w) : P_X10_road x1 x2 x3 v q' := by
  unfold P_X10_road at h ⊢
  refine ⟨fun hc => ?_, fun hc => ?_⟩
  · replace h := h.1 hc
    exact hq _ _ h
  · replace h := h.2 hc
    refine ⟨fun hc => ?_, fun hc => ?_⟩
    · replace h := h.1 hc
      exact hq _ _ h
    · replace h := h.2 hc
      refine N_X10_areNodes h (fun r14 h => ?_)
      refine ⟨fun hc => ?_, fun hc => ?_⟩
      · replace h := h.1 hc
        exact hq _ _ h
      · replace h := h.2 hc
        refine N_X10_measured h (fun v21 h => ?_)
        obtain ⟨ho1, h⟩ := h
        refine ⟨ho1, ?_⟩
        obtain ⟨ho2, h⟩ := h
        refine ⟨ho2, ?_⟩
        refine ⟨fun hc => ?_, fun hc => ?_⟩
        · replace h := h.1 hc
          refine N_X6_weigh h (fun v47 h => ?_)
          refine N_X6_walk h (fun v60 h => ?_)
          refine ⟨fun hc => ?_, fun hc => ?_⟩
          · replace h := h.1 hc
            refine ⟨fun hc => ?_, fun hc => ?_⟩
            · replace h := h.1 hc
              exact hq _ _ h
            · replace h := h.2 hc
              obtain ⟨ho3, h⟩ := h
              refine ⟨ho3, ?_⟩
              exact hq _ _ h
          · replace h := h.2 hc
            exact hq _ _ h
        · replace h := h.2 hc
          exact hq _ _ h
theorem F_X10_road {x1 : Int} {x2 : Int} {x3 : Int} {v : VT} {q : Int → VT → Prop} (h : P_X10_road x1 x2 x3 v q) : P_X10_road x1 x2 x3 v (fun r w => q r w ∧ ∀ a, ¬ ((138 ≤ a ∧ a ≤ 139) ∨ (141 ≤ a ∧ a ≤ 164) ∨ (200 ≤ a ∧ a ≤ 202)) → w a = v a) := by
  unfold P_X10_road at h ⊢
  have hf : ∀ a, ¬ ((138 ≤ a ∧ a ≤ 139) ∨ (141 ≤ a ∧ a ≤ 164) ∨ (200 ≤ a ∧ a ≤ 202)) → v a = v a := fun a _ => rfl
  refine ⟨fun hc => ?_, fun hc => ?_⟩
  · replace h := h.1 hc
    exact ⟨h, hf⟩
  · replace h := h.2 hc
    refine ⟨fun hc => ?_, fun hc => ?_⟩
    · replace h := h.1 hc
      exact ⟨h, hf⟩
    · replace h := h.2 hc
      refine N_X10_areNodes h (fun r14 h => ?_)
      refine ⟨fun hc => ?_, fun hc => ?_⟩
      · replace h := h.1 hc
        exact ⟨h, hf⟩
      · replace h := h.2 hc
        refine N_X10_measured (F_X10_measured h) (fun v21 h => ?_)
        obtain ⟨h, hg⟩ := h
        replace hf : ∀ a, ¬ ((138 ≤ a ∧ a ≤ 139) ∨ (141 ≤ a ∧ a ≤ 164) ∨ (200 ≤ a ∧ a ≤ 202)) → v21 a = v a := fun a ha => by rw [hg a (by omega), hf a ha]
        clear hg
        obtain ⟨ho1, h⟩ := h
        refine ⟨ho1, ?_⟩
        obtain ⟨ho2, h⟩ := h
        refine ⟨ho2, ?_⟩
        refine ⟨fun hc => ?_, fun hc => ?_⟩
        · replace h := h.1 hc
          refine N_X6_weigh (F_X6_weigh h) (fun v47 h => ?_)
          obtain ⟨h, hg⟩ := h
          replace hf : ∀ a, ¬ ((138 ≤ a ∧ a ≤ 139) ∨ (141 ≤ a ∧ a ≤ 164) ∨ (200 ≤ a ∧ a ≤ 202)) → v47 a = v a := fun a ha => by rw [hg a (by omega), hf a ha]
          clear hg
          refine N_X6_walk (F_X6_walk h) (fun v60 h => ?_)
          obtain ⟨h, hg⟩ := h
          replace hf : ∀ a, ¬ ((138 ≤ a ∧ a ≤ 139) ∨ (141 ≤ a ∧ a ≤ 164) ∨ (200 ≤ a ∧ a ≤ 202)) → v60 a = v a := fun a ha => by rw [hg a (by omega), hf a ha]
          clear hg
          refine ⟨fun hc => ?_, fun hc => ?_⟩
          · replace h := h.1 hc
            refine ⟨fun hc => ?_, fun hc => ?_⟩
            · replace h := h.1 hc
              exact ⟨h, hf⟩
            · replace h := h.2 hc
              obtain ⟨ho3, h⟩ := h
              refine ⟨ho3, ?_⟩
              exact ⟨h, hf⟩
          · replace h := h.2 hc
            exact ⟨h, hf⟩
        · replace h := h.2 hc
          exact ⟨h, hf⟩
theorem N_X10_spread  {v : VT} {q q' : Int → VT → Prop} (h : P_X10_spread  v q) (hq : ∀ r w, q r w → q' r w) : P_X10_spread  v q' := by
  unfold P_X10_spread at h ⊢
  refine N_X10_measured h (fun v1 h => ?_)
  refine N_X2_sumAll h (fun r4 h => ?_)
  exact hq _ _ h
theorem F_X10_spread  {v : VT} {q : Int → VT → Prop} (h : P_X10_spread  v q) : P_X10_spread  v (fun r w => q r w ∧ ∀ a, ¬ ((138 ≤ a ∧ a ≤ 139) ∨ (141 ≤ a ∧ a ≤ 164)) → w a = v a) := by
  unfold P_X10_spread at h ⊢
  have hf : ∀ a, ¬ ((138 ≤ a ∧ a ≤ 139) ∨ (141 ≤ a ∧ a ≤ 164)) → v a = v a := fun a _ => rfl
  refine N_X10_measured (F_X10_measured h) (fun v1 h => ?_)
  obtain ⟨h, hg⟩ := h
  replace hf : ∀ a, ¬ ((138 ≤ a ∧ a ≤ 139) ∨ (141 ≤ a ∧ a ≤ 164)) → v1 a = v a := fun a ha => by rw [hg a (by omega), hf a ha]
  clear hg
  refine N_X2_sumAll h (fun r4 h => ?_)
  exact ⟨h, hf⟩
theorem N_X10_alike {x1 : Int} {x2 : Int} {v : VT} {q q' : Int → VT → Prop} (h : P_X10_alike x1 x2 v q) (hq : ∀ r w, q r w → q' r w) : P_X10_alike x1 x2 v q' := by
  unfold P_X10_alike at h ⊢
  refine N_X0_isLine h (fun r5 h => ?_)
  refine ⟨fun hc => ?_, fun hc => ?_⟩
  · replace h := h.1 hc
    exact hq _ _ h
  · replace h := h.2 hc
    refine N_X0_isLine h (fun r16 h => ?_)
    refine ⟨fun hc => ?_, fun hc => ?_⟩
    · replace h := h.1 hc
      refine N_X10_measured h (fun v25 h => ?_)
      refine N_X2_areAlike h (fun r34 h => ?_)
      refine ⟨fun hc => ?_, fun hc => ?_⟩
      · replace h := h.1 hc
        exact hq _ _ h
      · replace h := h.2 hc
        exact hq _ _ h
    · replace h := h.2 hc
      exact hq _ _ h
theorem F_X10_alike {x1 : Int} {x2 : Int} {v : VT} {q : Int → VT → Prop} (h : P_X10_alike x1 x2 v q) : P_X10_alike x1 x2 v (fun r w => q r w ∧ ∀ a, ¬ ((138 ≤ a ∧ a ≤ 139) ∨ (141 ≤ a ∧ a ≤ 164)) → w a = v a) := by
  unfold P_X10_alike at h ⊢
  have hf : ∀ a, ¬ ((138 ≤ a ∧ a ≤ 139) ∨ (141 ≤ a ∧ a ≤ 164)) → v a = v a := fun a _ => rfl
  refine N_X0_isLine h (fun r5 h => ?_)
  refine ⟨fun hc => ?_, fun hc => ?_⟩
  · replace h := h.1 hc
    exact ⟨h, hf⟩
  · replace h := h.2 hc
    refine N_X0_isLine h (fun r16 h => ?_)
    refine ⟨fun hc => ?_, fun hc => ?_⟩
    · replace h := h.1 hc
      refine N_X10_measured (F_X10_measured h) (fun v25 h => ?_)
      obtain ⟨h, hg⟩ := h
      replace hf : ∀ a, ¬ ((138 ≤ a ∧ a ≤ 139) ∨ (141 ≤ a ∧ a ≤ 164)) → v25 a = v a := fun a ha => by rw [hg a (by omega), hf a ha]
      clear hg
      refine N_X2_areAlike h (fun r34 h => ?_)
      refine ⟨fun hc => ?_, fun hc => ?_⟩
      · replace h := h.1 hc
        exact ⟨h, hf⟩
      · replace h := h.2 hc
        exact ⟨h, hf⟩
    · replace h := h.2 hc
      exact ⟨h, hf⟩
theorem N_X10_isKind {x1 : Int} {v : VT} {q q' : Int → VT → Prop} (h : P_X10_isKind x1 v q) (hq : ∀ r w, q r w → q' r w) : P_X10_isKind x1 v q' := by
  unfold P_X10_isKind at h ⊢
  refine ⟨fun hc => ?_, fun hc => ?_⟩
  · replace h := h.1 hc
    exact hq _ _ h
  · replace h := h.2 hc
    refine N_X10_sorted h (fun v6 h => ?_)
    refine ⟨fun hc => ?_, fun hc => ?_⟩
    · replace h := h.1 hc
      exact hq _ _ h
    · replace h := h.2 hc
      exact hq _ _ h
theorem F_X10_isKind {x1 : Int} {v : VT} {q : Int → VT → Prop} (h : P_X10_isKind x1 v q) : P_X10_isKind x1 v (fun r w => q r w ∧ ∀ a, ¬ ((138 ≤ a ∧ a ≤ 139) ∨ (141 ≤ a ∧ a ≤ 164) ∨ (191 ≤ a ∧ a ≤ 194) ∨ a = 196) → w a = v a) := by
  unfold P_X10_isKind at h ⊢
  have hf : ∀ a, ¬ ((138 ≤ a ∧ a ≤ 139) ∨ (141 ≤ a ∧ a ≤ 164) ∨ (191 ≤ a ∧ a ≤ 194) ∨ a = 196) → v a = v a := fun a _ => rfl
  refine ⟨fun hc => ?_, fun hc => ?_⟩
  · replace h := h.1 hc
    exact ⟨h, hf⟩
  · replace h := h.2 hc
    refine N_X10_sorted (F_X10_sorted h) (fun v6 h => ?_)
    obtain ⟨h, hg⟩ := h
    replace hf : ∀ a, ¬ ((138 ≤ a ∧ a ≤ 139) ∨ (141 ≤ a ∧ a ≤ 164) ∨ (191 ≤ a ∧ a ≤ 194) ∨ a = 196) → v6 a = v a := fun a ha => by rw [hg a (by omega), hf a ha]
    clear hg
    refine ⟨fun hc => ?_, fun hc => ?_⟩
    · replace h := h.1 hc
      exact ⟨h, hf⟩
    · replace h := h.2 hc
      exact ⟨h, hf⟩
theorem N_X10_isDirection {x1 : Int} {v : VT} {q q' : Int → VT → Prop} (h : P_X10_isDirection x1 v q) (hq : ∀ r w, q r w → q' r w) : P_X10_isDirection x1 v q' := by
  unfold P_X10_isDirection at h ⊢
  refine N_X10_seated h (fun v1 h => ?_)
  refine ⟨fun hc => ?_, fun hc => ?_⟩
  · replace h := h.1 hc
    exact hq _ _ h
  · replace h := h.2 hc
    refine ⟨fun hc => ?_, fun hc => ?_⟩
    · replace h := h.1 hc
      exact hq _ _ h
    · replace h := h.2 hc
      refine ⟨fun hc => ?_, fun hc => ?_⟩
      · replace h := h.1 hc
        exact hq _ _ h
      · replace h := h.2 hc
        exact hq _ _ h
theorem F_X10_isDirection {x1 : Int} {v : VT} {q : Int → VT → Prop} (h : P_X10_isDirection x1 v q) : P_X10_isDirection x1 v (fun r w => q r w ∧ ∀ a, ¬ ((138 ≤ a ∧ a ≤ 139) ∨ (141 ≤ a ∧ a ≤ 164) ∨ (191 ≤ a ∧ a ≤ 194) ∨ (196 ≤ a ∧ a ≤ 199)) → w a = v a) := by
  unfold P_X10_isDirection at h ⊢
  have hf : ∀ a, ¬ ((138 ≤ a ∧ a ≤ 139) ∨ (141 ≤ a ∧ a ≤ 164) ∨ (191 ≤ a ∧ a ≤ 194) ∨ (196 ≤ a ∧ a ≤ 199)) → v a = v a := fun a _ => rfl
  refine N_X10_seated (F_X10_seated h) (fun v1 h => ?_)
  obtain ⟨h, hg⟩ := h
  replace hf : ∀ a, ¬ ((138 ≤ a ∧ a ≤ 139) ∨ (141 ≤ a ∧ a ≤ 164) ∨ (191 ≤ a ∧ a ≤ 194) ∨ (196 ≤ a ∧ a ≤ 199)) → v1 a = v a := fun a ha => by rw [hg a (by omega), hf a ha]
  clear hg
  refine ⟨fun hc => ?_, fun hc => ?_⟩
  · replace h := h.1 hc
    exact ⟨h, hf⟩
  · replace h := h.2 hc
    refine ⟨fun hc => ?_, fun hc => ?_⟩
    · replace h := h.1 hc
      exact ⟨h, hf⟩
    · replace h := h.2 hc
      refine ⟨fun hc => ?_, fun hc => ?_⟩
      · replace h := h.1 hc
        exact ⟨h, hf⟩
      · replace h := h.2 hc
        exact ⟨h, hf⟩
theorem N_X10_sort {x1 : Int} {x2 : Int} {v : VT} {q q' : Int → VT → Prop} (h : P_X10_sort x1 x2 v q) (hq : ∀ r w, q r w → q' r w) : P_X10_sort x1 x2 v q' := by
  unfold P_X10_sort at h ⊢
  refine N_X10_isKind h (fun r2 v2 h => ?_)
  refine ⟨fun hc => ?_, fun hc => ?_⟩
  · replace h := h.1 hc
    refine ⟨fun hc => ?_, fun hc => ?_, fun hc => ?_, fun hc => ?_, fun hc => ?_⟩
    · replace h := h.1 hc
      obtain ⟨ho1, h⟩ := h
      refine ⟨ho1, ?_⟩
      exact hq _ _ h
    · replace h := h.2.1 hc
      obtain ⟨ho2, h⟩ := h
      refine ⟨ho2, ?_⟩
      exact hq _ _ h
    · replace h := h.2.2.1 hc
      refine N_X10_isDirection h (fun r62 v62 h => ?_)
      refine ⟨fun hc => ?_, fun hc => ?_⟩
      · replace h := h.1 hc
        exact hq _ _ h
      · replace h := h.2 hc
        refine N_X8_costOf h (fun r73 h => ?_)
        exact hq _ _ h
    · replace h := h.2.2.2.1 hc
      refine N_X10_isDirection h (fun r83 v83 h => ?_)
      refine ⟨fun hc => ?_, fun hc => ?_⟩
      · replace h := h.1 hc
        exact hq _ _ h
      · replace h := h.2 hc
        obtain ⟨ho3, h⟩ := h
        refine ⟨ho3, ?_⟩
        exact hq _ _ h
    · replace h := h.2.2.2.2 hc
      exact hq _ _ h
  · replace h := h.2 hc
    exact hq _ _ h
theorem F_X10_sort {x1 : Int} {x2 : Int} {v : VT} {q : Int → VT → Prop} (h : P_X10_sort x1 x2 v q) : P_X10_sort x1 x2 v (fun r w => q r w ∧ ∀ a, ¬ ((138 ≤ a ∧ a ≤ 139) ∨ (141 ≤ a ∧ a ≤ 164) ∨ (191 ≤ a ∧ a ≤ 194) ∨ (196 ≤ a ∧ a ≤ 199)) → w a = v a) := by
  unfold P_X10_sort at h ⊢
  have hf : ∀ a, ¬ ((138 ≤ a ∧ a ≤ 139) ∨ (141 ≤ a ∧ a ≤ 164) ∨ (191 ≤ a ∧ a ≤ 194) ∨ (196 ≤ a ∧ a ≤ 199)) → v a = v a := fun a _ => rfl
  refine N_X10_isKind (F_X10_isKind h) (fun r2 v2 h => ?_)
  obtain ⟨h, hg⟩ := h
  replace hf : ∀ a, ¬ ((138 ≤ a ∧ a ≤ 139) ∨ (141 ≤ a ∧ a ≤ 164) ∨ (191 ≤ a ∧ a ≤ 194) ∨ (196 ≤ a ∧ a ≤ 199)) → v2 a = v a := fun a ha => by rw [hg a (by omega), hf a ha]
  clear hg
  refine ⟨fun hc => ?_, fun hc => ?_⟩
  · replace h := h.1 hc
    refine ⟨fun hc => ?_, fun hc => ?_, fun hc => ?_, fun hc => ?_, fun hc => ?_⟩
    · replace h := h.1 hc
      obtain ⟨ho1, h⟩ := h
      refine ⟨ho1, ?_⟩
      exact ⟨h, hf⟩
    · replace h := h.2.1 hc
      obtain ⟨ho2, h⟩ := h
      refine ⟨ho2, ?_⟩
      exact ⟨h, hf⟩
    · replace h := h.2.2.1 hc
      refine N_X10_isDirection (F_X10_isDirection h) (fun r62 v62 h => ?_)
      obtain ⟨h, hg⟩ := h
      replace hf : ∀ a, ¬ ((138 ≤ a ∧ a ≤ 139) ∨ (141 ≤ a ∧ a ≤ 164) ∨ (191 ≤ a ∧ a ≤ 194) ∨ (196 ≤ a ∧ a ≤ 199)) → v62 a = v a := fun a ha => by rw [hg a (by omega), hf a ha]
      clear hg
      refine ⟨fun hc => ?_, fun hc => ?_⟩
      · replace h := h.1 hc
        exact ⟨h, hf⟩
      · replace h := h.2 hc
        refine N_X8_costOf h (fun r73 h => ?_)
        exact ⟨h, hf⟩
    · replace h := h.2.2.2.1 hc
      refine N_X10_isDirection (F_X10_isDirection h) (fun r83 v83 h => ?_)
      obtain ⟨h, hg⟩ := h
      replace hf : ∀ a, ¬ ((138 ≤ a ∧ a ≤ 139) ∨ (141 ≤ a ∧ a ≤ 164) ∨ (191 ≤ a ∧ a ≤ 194) ∨ (196 ≤ a ∧ a ≤ 199)) → v83 a = v a := fun a ha => by rw [hg a (by omega), hf a ha]
      clear hg
      refine ⟨fun hc => ?_, fun hc => ?_⟩
      · replace h := h.1 hc
        exact ⟨h, hf⟩
      · replace h := h.2 hc
        obtain ⟨ho3, h⟩ := h
        refine ⟨ho3, ?_⟩
        exact ⟨h, hf⟩
    · replace h := h.2.2.2.2 hc
      exact ⟨h, hf⟩
  · replace h := h.2 hc
    exact ⟨h, hf⟩
theorem N_X10_shows {x1 : Int} {v : VT} {q q' : Int → VT → Prop} (h : P_X10_shows x1 v q) (hq : ∀ r w, q r w → q' r w) : P_X10_shows x1 v q' := by
  unfold P_X10_shows at h ⊢
  refine N_X10_seated h (fun v1 h => ?_)
  refine ⟨fun hc => ?_, fun hc => ?_⟩
  · replace h := h.1 hc
    refine ⟨fun hc => ?_, fun hc => ?_⟩
    · replace h := h.1 hc
      refine ⟨fun hc => ?_, fun hc => ?_⟩
      · replace h := h.1 hc
        exact hq _ _ h
      · replace h := h.2 hc
        exact hq _ _ h
    · replace h := h.2 hc
      exact hq _ _ h
  · replace h := h.2 hc
    exact hq _ _ h
theorem F_X10_shows {x1 : Int} {v : VT} {q : Int → VT → Prop} (h : P_X10_shows x1 v q) : P_X10_shows x1 v (fun r w => q r w ∧ ∀ a, ¬ ((138 ≤ a ∧ a ≤ 139) ∨ (141 ≤ a ∧ a ≤ 164) ∨ (191 ≤ a ∧ a ≤ 194) ∨ (196 ≤ a ∧ a ≤ 199)) → w a = v a) := by
  unfold P_X10_shows at h ⊢
  have hf : ∀ a, ¬ ((138 ≤ a ∧ a ≤ 139) ∨ (141 ≤ a ∧ a ≤ 164) ∨ (191 ≤ a ∧ a ≤ 194) ∨ (196 ≤ a ∧ a ≤ 199)) → v a = v a := fun a _ => rfl
  refine N_X10_seated (F_X10_seated h) (fun v1 h => ?_)
  obtain ⟨h, hg⟩ := h
  replace hf : ∀ a, ¬ ((138 ≤ a ∧ a ≤ 139) ∨ (141 ≤ a ∧ a ≤ 164) ∨ (191 ≤ a ∧ a ≤ 194) ∨ (196 ≤ a ∧ a ≤ 199)) → v1 a = v a := fun a ha => by rw [hg a (by omega), hf a ha]
  clear hg
  refine ⟨fun hc => ?_, fun hc => ?_⟩
  · replace h := h.1 hc
    refine ⟨fun hc => ?_, fun hc => ?_⟩
    · replace h := h.1 hc
      refine ⟨fun hc => ?_, fun hc => ?_⟩
      · replace h := h.1 hc
        exact ⟨h, hf⟩
      · replace h := h.2 hc
        exact ⟨h, hf⟩
    · replace h := h.2 hc
      exact ⟨h, hf⟩
  · replace h := h.2 hc
    exact ⟨h, hf⟩
theorem N_X10_sides {x1 : Int} {v : VT} {q q' : Int → VT → Prop} (h : P_X10_sides x1 v q) (hq : ∀ r w, q r w → q' r w) : P_X10_sides x1 v q' := by
  unfold P_X10_sides at h ⊢
  refine N_X10_seated h (fun v1 h => ?_)
  refine ⟨fun hc => ?_, fun hc => ?_⟩
  · replace h := h.1 hc
    exact hq _ _ h
  · replace h := h.2 hc
    refine N_X0_isNode h (fun r15 h => ?_)
    refine ⟨fun hc => ?_, fun hc => ?_⟩
    · replace h := h.1 hc
      obtain ⟨ho1, h⟩ := h
      refine ⟨ho1, ?_⟩
      exact hq _ _ h
    · replace h := h.2 hc
      exact hq _ _ h
theorem F_X10_sides {x1 : Int} {v : VT} {q : Int → VT → Prop} (h : P_X10_sides x1 v q) : P_X10_sides x1 v (fun r w => q r w ∧ ∀ a, ¬ ((138 ≤ a ∧ a ≤ 139) ∨ (141 ≤ a ∧ a ≤ 164) ∨ (191 ≤ a ∧ a ≤ 194) ∨ (196 ≤ a ∧ a ≤ 199)) → w a = v a) := by
  unfold P_X10_sides at h ⊢
  have hf : ∀ a, ¬ ((138 ≤ a ∧ a ≤ 139) ∨ (141 ≤ a ∧ a ≤ 164) ∨ (191 ≤ a ∧ a ≤ 194) ∨ (196 ≤ a ∧ a ≤ 199)) → v a = v a := fun a _ => rfl
  refine N_X10_seated (F_X10_seated h) (fun v1 h => ?_)
  obtain ⟨h, hg⟩ := h
  replace hf : ∀ a, ¬ ((138 ≤ a ∧ a ≤ 139) ∨ (141 ≤ a ∧ a ≤ 164) ∨ (191 ≤ a ∧ a ≤ 194) ∨ (196 ≤ a ∧ a ≤ 199)) → v1 a = v a := fun a ha => by rw [hg a (by omega), hf a ha]
  clear hg
  refine ⟨fun hc => ?_, fun hc => ?_⟩
  · replace h := h.1 hc
    exact ⟨h, hf⟩
  · replace h := h.2 hc
    refine N_X0_isNode h (fun r15 h => ?_)
    refine ⟨fun hc => ?_, fun hc => ?_⟩
    · replace h := h.1 hc
      obtain ⟨ho1, h⟩ := h
      refine ⟨ho1, ?_⟩
      exact ⟨h, hf⟩
    · replace h := h.2 hc
      exact ⟨h, hf⟩
theorem N_X10_at {x1 : Int} {v : VT} {q q' : Int → VT → Prop} (h : P_X10_at x1 v q) (hq : ∀ r w, q r w → q' r w) : P_X10_at x1 v q' := by
  unfold P_X10_at at h ⊢
  refine N_X10_seated h (fun v1 h => ?_)
  refine ⟨fun hc => ?_, fun hc => ?_⟩
  · replace h := h.1 hc
    exact hq _ _ h
  · replace h := h.2 hc
    refine N_X8_nodeAt h (fun r15 h => ?_)
    exact hq _ _ h
theorem F_X10_at {x1 : Int} {v : VT} {q : Int → VT → Prop} (h : P_X10_at x1 v q) : P_X10_at x1 v (fun r w => q r w ∧ ∀ a, ¬ ((138 ≤ a ∧ a ≤ 139) ∨ (141 ≤ a ∧ a ≤ 164) ∨ (191 ≤ a ∧ a ≤ 194) ∨ (196 ≤ a ∧ a ≤ 199)) → w a = v a) := by
  unfold P_X10_at at h ⊢
  have hf : ∀ a, ¬ ((138 ≤ a ∧ a ≤ 139) ∨ (141 ≤ a ∧ a ≤ 164) ∨ (191 ≤ a ∧ a ≤ 194) ∨ (196 ≤ a ∧ a ≤ 199)) → v a = v a := fun a _ => rfl
  refine N_X10_seated (F_X10_seated h) (fun v1 h => ?_)
  obtain ⟨h, hg⟩ := h
  replace hf : ∀ a, ¬ ((138 ≤ a ∧ a ≤ 139) ∨ (141 ≤ a ∧ a ≤ 164) ∨ (191 ≤ a ∧ a ≤ 194) ∨ (196 ≤ a ∧ a ≤ 199)) → v1 a = v a := fun a ha => by rw [hg a (by omega), hf a ha]
  clear hg
  refine ⟨fun hc => ?_, fun hc => ?_⟩
  · replace h := h.1 hc
    exact ⟨h, hf⟩
  · replace h := h.2 hc
    refine N_X8_nodeAt h (fun r15 h => ?_)
    exact ⟨h, hf⟩
theorem N_X10_cross {x1 : Int} {x2 : Int} {v : VT} {q q' : Int → VT → Prop} (h : P_X10_cross x1 x2 v q) (hq : ∀ r w, q r w → q' r w) : P_X10_cross x1 x2 v q' := by
  unfold P_X10_cross at h ⊢
  refine ⟨fun hc => ?_, fun hc => ?_⟩
  · replace h := h.1 hc
    exact hq _ _ h
  · replace h := h.2 hc
    refine N_X10_isDirection h (fun r7 v7 h => ?_)
    refine ⟨fun hc => ?_, fun hc => ?_⟩
    · replace h := h.1 hc
      exact hq _ _ h
    · replace h := h.2 hc
      refine N_X10_isDirection h (fun r15 v15 h => ?_)
      refine ⟨fun hc => ?_, fun hc => ?_⟩
      · replace h := h.1 hc
        refine N_X8_countPairs h (fun r29 h => ?_)
        exact hq _ _ h
      · replace h := h.2 hc
        exact hq _ _ h
theorem F_X10_cross {x1 : Int} {x2 : Int} {v : VT} {q : Int → VT → Prop} (h : P_X10_cross x1 x2 v q) : P_X10_cross x1 x2 v (fun r w => q r w ∧ ∀ a, ¬ ((138 ≤ a ∧ a ≤ 139) ∨ (141 ≤ a ∧ a ≤ 164) ∨ (191 ≤ a ∧ a ≤ 194) ∨ (196 ≤ a ∧ a ≤ 199)) → w a = v a) := by
  unfold P_X10_cross at h ⊢
  have hf : ∀ a, ¬ ((138 ≤ a ∧ a ≤ 139) ∨ (141 ≤ a ∧ a ≤ 164) ∨ (191 ≤ a ∧ a ≤ 194) ∨ (196 ≤ a ∧ a ≤ 199)) → v a = v a := fun a _ => rfl
  refine ⟨fun hc => ?_, fun hc => ?_⟩
  · replace h := h.1 hc
    exact ⟨h, hf⟩
  · replace h := h.2 hc
    refine N_X10_isDirection (F_X10_isDirection h) (fun r7 v7 h => ?_)
    obtain ⟨h, hg⟩ := h
    replace hf : ∀ a, ¬ ((138 ≤ a ∧ a ≤ 139) ∨ (141 ≤ a ∧ a ≤ 164) ∨ (191 ≤ a ∧ a ≤ 194) ∨ (196 ≤ a ∧ a ≤ 199)) → v7 a = v a := fun a ha => by rw [hg a (by omega), hf a ha]
    clear hg
    refine ⟨fun hc => ?_, fun hc => ?_⟩
    · replace h := h.1 hc
      exact ⟨h, hf⟩
    · replace h := h.2 hc
      refine N_X10_isDirection (F_X10_isDirection h) (fun r15 v15 h => ?_)
      obtain ⟨h, hg⟩ := h
      replace hf : ∀ a, ¬ ((138 ≤ a ∧ a ≤ 139) ∨ (141 ≤ a ∧ a ≤ 164) ∨ (191 ≤ a ∧ a ≤ 194) ∨ (196 ≤ a ∧ a ≤ 199)) → v15 a = v a := fun a ha => by rw [hg a (by omega), hf a ha]
      clear hg
      refine ⟨fun hc => ?_, fun hc => ?_⟩
      · replace h := h.1 hc
        refine N_X8_countPairs h (fun r29 h => ?_)
        exact ⟨h, hf⟩
      · replace h := h.2 hc
        exact ⟨h, hf⟩
theorem N_X10_isHalf {x1 : Int} {v : VT} {q q' : Int → VT → Prop} (h : P_X10_isHalf x1 v q) (hq : ∀ r w, q r w → q' r w) : P_X10_isHalf x1 v q' := by
  unfold P_X10_isHalf at h ⊢
  refine N_X10_seated h (fun v1 h => ?_)
  refine ⟨fun hc => ?_, fun hc => ?_⟩
  · replace h := h.1 hc
    exact hq _ _ h
  · replace h := h.2 hc
    refine ⟨fun hc => ?_, fun hc => ?_⟩
    · replace h := h.1 hc
      exact hq _ _ h
    · replace h := h.2 hc
      obtain ⟨ho1, h⟩ := h
      refine ⟨ho1, ?_⟩
      refine ⟨fun hc => ?_, fun hc => ?_⟩
      · replace h := h.1 hc
        exact hq _ _ h
      · replace h := h.2 hc
        exact hq _ _ h
theorem F_X10_isHalf {x1 : Int} {v : VT} {q : Int → VT → Prop} (h : P_X10_isHalf x1 v q) : P_X10_isHalf x1 v (fun r w => q r w ∧ ∀ a, ¬ ((138 ≤ a ∧ a ≤ 139) ∨ (141 ≤ a ∧ a ≤ 164) ∨ (191 ≤ a ∧ a ≤ 194) ∨ (196 ≤ a ∧ a ≤ 199)) → w a = v a) := by
  unfold P_X10_isHalf at h ⊢
  have hf : ∀ a, ¬ ((138 ≤ a ∧ a ≤ 139) ∨ (141 ≤ a ∧ a ≤ 164) ∨ (191 ≤ a ∧ a ≤ 194) ∨ (196 ≤ a ∧ a ≤ 199)) → v a = v a := fun a _ => rfl
  refine N_X10_seated (F_X10_seated h) (fun v1 h => ?_)
  obtain ⟨h, hg⟩ := h
  replace hf : ∀ a, ¬ ((138 ≤ a ∧ a ≤ 139) ∨ (141 ≤ a ∧ a ≤ 164) ∨ (191 ≤ a ∧ a ≤ 194) ∨ (196 ≤ a ∧ a ≤ 199)) → v1 a = v a := fun a ha => by rw [hg a (by omega), hf a ha]
  clear hg
  refine ⟨fun hc => ?_, fun hc => ?_⟩
  · replace h := h.1 hc
    exact ⟨h, hf⟩
  · replace h := h.2 hc
    refine ⟨fun hc => ?_, fun hc => ?_⟩
    · replace h := h.1 hc
      exact ⟨h, hf⟩
    · replace h := h.2 hc
      obtain ⟨ho1, h⟩ := h
      refine ⟨ho1, ?_⟩
      refine ⟨fun hc => ?_, fun hc => ?_⟩
      · replace h := h.1 hc
        exact ⟨h, hf⟩
      · replace h := h.2 hc
        exact ⟨h, hf⟩
theorem N_X10_fit {x1 : Int} {x2 : Int} {v : VT} {q q' : Int → VT → Prop} (h : P_X10_fit x1 x2 v q) (hq : ∀ r w, q r w → q' r w) : P_X10_fit x1 x2 v q' := by
  unfold P_X10_fit at h ⊢
  refine ⟨fun hc => ?_, fun hc => ?_⟩
  · replace h := h.1 hc
    exact hq _ _ h
  · replace h := h.2 hc
    refine N_X10_isHalf h (fun r7 v7 h => ?_)
    refine ⟨fun hc => ?_, fun hc => ?_⟩
    · replace h := h.1 hc
      exact hq _ _ h
    · replace h := h.2 hc
      refine N_X10_isHalf h (fun r15 v15 h => ?_)
      refine ⟨fun hc => ?_, fun hc => ?_⟩
      · replace h := h.1 hc
        refine N_X8_doFit h (fun r29 h => ?_)
        refine ⟨fun hc => ?_, fun hc => ?_⟩
        · replace h := h.1 hc
          exact hq _ _ h
        · replace h := h.2 hc
          exact hq _ _ h
      · replace h := h.2 hc
        exact hq _ _ h
theorem F_X10_fit {x1 : Int} {x2 : Int} {v : VT} {q : Int → VT → Prop} (h : P_X10_fit x1 x2 v q) : P_X10_fit x1 x2 v (fun r w => q r w ∧ ∀ a, ¬ ((138 ≤ a ∧ a ≤ 139) ∨ (141 ≤ a ∧ a ≤ 164) ∨ (191 ≤ a ∧ a ≤ 194) ∨ (196 ≤ a ∧ a ≤ 199)) → w a = v a) := by
  unfold P_X10_fit at h ⊢
  have hf : ∀ a, ¬ ((138 ≤ a ∧ a ≤ 139) ∨ (141 ≤ a ∧ a ≤ 164) ∨ (191 ≤ a ∧ a ≤ 194) ∨ (196 ≤ a ∧ a ≤ 199)) → v a = v a := fun a _ => rfl
  refine ⟨fun hc => ?_, fun hc => ?_⟩
  · replace h := h.1 hc
    exact ⟨h, hf⟩
  · replace h := h.2 hc
    refine N_X10_isHalf (F_X10_isHalf h) (fun r7 v7 h => ?_)
    obtain ⟨h, hg⟩ := h
    replace hf : ∀ a, ¬ ((138 ≤ a ∧ a ≤ 139) ∨ (141 ≤ a ∧ a ≤ 164) ∨ (191 ≤ a ∧ a ≤ 194) ∨ (196 ≤ a ∧ a ≤ 199)) → v7 a = v a := fun a ha => by rw [hg a (by omega), hf a ha]
    clear hg
    refine ⟨fun hc => ?_, fun hc => ?_⟩
    · replace h := h.1 hc
      exact ⟨h, hf⟩
    · replace h := h.2 hc
      refine N_X10_isHalf (F_X10_isHalf h) (fun r15 v15 h => ?_)
      obtain ⟨h, hg⟩ := h
      replace hf : ∀ a, ¬ ((138 ≤ a ∧ a ≤ 139) ∨ (141 ≤ a ∧ a ≤ 164) ∨ (191 ≤ a ∧ a ≤ 194) ∨ (196 ≤ a ∧ a ≤ 199)) → v15 a = v a := fun a ha => by rw [hg a (by omega), hf a ha]
      clear hg
      refine ⟨fun hc => ?_, fun hc => ?_⟩
      · replace h := h.1 hc
        refine N_X8_doFit h (fun r29 h => ?_)
        refine ⟨fun hc => ?_, fun hc => ?_⟩
        · replace h := h.1 hc
          exact ⟨h, hf⟩
        · replace h := h.2 hc
          exact ⟨h, hf⟩
      · replace h := h.2 hc
        exact ⟨h, hf⟩
theorem N_X10_cubes {x1 : Int} {v : VT} {q q' : Int → VT → Prop} (h : P_X10_cubes x1 v q) (hq : ∀ r w, q r w → q' r w) : P_X10_cubes x1 v q' := by
  unfold P_X10_cubes at h ⊢
  refine ⟨fun hc => ?_, fun hc => ?_⟩
  · replace h := h.1 hc
    exact hq _ _ h
  · replace h := h.2 hc
    refine N_X10_seated h (fun v5 h => ?_)
    refine ⟨fun hc => ?_, fun hc => ?_⟩
    · replace h := h.1 hc
      refine N_X8_countCubes h (fun r21 h => ?_)
      exact hq _ _ h
    · replace h := h.2 hc
      exact hq _ _ h
theorem F_X10_cubes {x1 : Int} {v : VT} {q : Int → VT → Prop} (h : P_X10_cubes x1 v q) : P_X10_cubes x1 v (fun r w => q r w ∧ ∀ a, ¬ ((138 ≤ a ∧ a ≤ 139) ∨ (141 ≤ a ∧ a ≤ 164) ∨ (191 ≤ a ∧ a ≤ 194) ∨ (196 ≤ a ∧ a ≤ 199)) → w a = v a) := by
  unfold P_X10_cubes at h ⊢
  have hf : ∀ a, ¬ ((138 ≤ a ∧ a ≤ 139) ∨ (141 ≤ a ∧ a ≤ 164) ∨ (191 ≤ a ∧ a ≤ 194) ∨ (196 ≤ a ∧ a ≤ 199)) → v a = v a := fun a _ => rfl
  refine ⟨fun hc => ?_, fun hc => ?_⟩
  · replace h := h.1 hc
    exact ⟨h, hf⟩
  · replace h := h.2 hc
    refine N_X10_seated (F_X10_seated h) (fun v5 h => ?_)
    obtain ⟨h, hg⟩ := h
    replace hf : ∀ a, ¬ ((138 ≤ a ∧ a ≤ 139) ∨ (141 ≤ a ∧ a ≤ 164) ∨ (191 ≤ a ∧ a ≤ 194) ∨ (196 ≤ a ∧ a ≤ 199)) → v5 a = v a := fun a ha => by rw [hg a (by omega), hf a ha]
    clear hg
    refine ⟨fun hc => ?_, fun hc => ?_⟩
    · replace h := h.1 hc
      refine N_X8_countCubes h (fun r21 h => ?_)
      exact ⟨h, hf⟩
    · replace h := h.2 hc
      exact ⟨h, hf⟩
theorem N_X10_most {x1 : Int} {v : VT} {q q' : Int → VT → Prop} (h : P_X10_most x1 v q) (hq : ∀ r w, q r w → q' r w) : P_X10_most x1 v q' := by
  unfold P_X10_most at h ⊢
  refine ⟨fun hc => ?_, fun hc => ?_⟩
  · replace h := h.1 hc
    exact hq _ _ h
  · replace h := h.2 hc
    refine ⟨fun hc => ?_, fun hc => ?_⟩
    · replace h := h.1 hc
      exact hq _ _ h
    · replace h := h.2 hc
      refine N_X10_seated h (fun v10 h => ?_)
      refine ⟨fun hc => ?_, fun hc => ?_⟩
      · replace h := h.1 hc
        refine N_X7_findCrossing h (fun v29 h => ?_)
        refine ⟨fun hc => ?_, fun hc => ?_⟩
        · replace h := h.1 hc
          exact hq _ _ h
        · replace h := h.2 hc
          exact hq _ _ h
      · replace h := h.2 hc
        exact hq _ _ h
theorem F_X10_most {x1 : Int} {v : VT} {q : Int → VT → Prop} (h : P_X10_most x1 v q) : P_X10_most x1 v (fun r w => q r w ∧ ∀ a, ¬ ((138 ≤ a ∧ a ≤ 139) ∨ (141 ≤ a ∧ a ≤ 164) ∨ (191 ≤ a ∧ a ≤ 194) ∨ (196 ≤ a ∧ a ≤ 199) ∨ (203 ≤ a ∧ a ≤ 204)) → w a = v a) := by
  unfold P_X10_most at h ⊢
  have hf : ∀ a, ¬ ((138 ≤ a ∧ a ≤ 139) ∨ (141 ≤ a ∧ a ≤ 164) ∨ (191 ≤ a ∧ a ≤ 194) ∨ (196 ≤ a ∧ a ≤ 199) ∨ (203 ≤ a ∧ a ≤ 204)) → v a = v a := fun a _ => rfl
  refine ⟨fun hc => ?_, fun hc => ?_⟩
  · replace h := h.1 hc
    exact ⟨h, hf⟩
  · replace h := h.2 hc
    refine ⟨fun hc => ?_, fun hc => ?_⟩
    · replace h := h.1 hc
      exact ⟨h, hf⟩
    · replace h := h.2 hc
      refine N_X10_seated (F_X10_seated h) (fun v10 h => ?_)
      obtain ⟨h, hg⟩ := h
      replace hf : ∀ a, ¬ ((138 ≤ a ∧ a ≤ 139) ∨ (141 ≤ a ∧ a ≤ 164) ∨ (191 ≤ a ∧ a ≤ 194) ∨ (196 ≤ a ∧ a ≤ 199) ∨ (203 ≤ a ∧ a ≤ 204)) → v10 a = v a := fun a ha => by rw [hg a (by omega), hf a ha]
      clear hg
      refine ⟨fun hc => ?_, fun hc => ?_⟩
      · replace h := h.1 hc
        refine N_X7_findCrossing (F_X7_findCrossing h) (fun v29 h => ?_)
        obtain ⟨h, hg⟩ := h
        replace hf : ∀ a, ¬ ((138 ≤ a ∧ a ≤ 139) ∨ (141 ≤ a ∧ a ≤ 164) ∨ (191 ≤ a ∧ a ≤ 194) ∨ (196 ≤ a ∧ a ≤ 199) ∨ (203 ≤ a ∧ a ≤ 204)) → v29 a = v a := fun a ha => by rw [hg a (by omega), hf a ha]
        clear hg
        refine ⟨fun hc => ?_, fun hc => ?_⟩
        · replace h := h.1 hc
          exact ⟨h, hf⟩
        · replace h := h.2 hc
          exact ⟨h, hf⟩
      · replace h := h.2 hc
        exact ⟨h, hf⟩
theorem N_X10_opposite {x1 : Int} {v : VT} {q q' : Int → VT → Prop} (h : P_X10_opposite x1 v q) (hq : ∀ r w, q r w → q' r w) : P_X10_opposite x1 v q' := by
  unfold P_X10_opposite at h ⊢
  refine N_X10_seated h (fun v1 h => ?_)
  refine ⟨fun hc => ?_, fun hc => ?_⟩
  · replace h := h.1 hc
    exact hq _ _ h
  · replace h := h.2 hc
    refine N_X0_isNode h (fun r15 h => ?_)
    refine ⟨fun hc => ?_, fun hc => ?_⟩
    · replace h := h.1 hc
      obtain ⟨ho1, h⟩ := h
      refine ⟨ho1, ?_⟩
      refine N_X10_allBits h (fun r43 h => ?_)
      refine N_X8_nodeAt h (fun r47 h => ?_)
      exact hq _ _ h
    · replace h := h.2 hc
      exact hq _ _ h
theorem F_X10_opposite {x1 : Int} {v : VT} {q : Int → VT → Prop} (h : P_X10_opposite x1 v q) : P_X10_opposite x1 v (fun r w => q r w ∧ ∀ a, ¬ ((138 ≤ a ∧ a ≤ 139) ∨ (141 ≤ a ∧ a ≤ 164) ∨ (191 ≤ a ∧ a ≤ 194) ∨ (196 ≤ a ∧ a ≤ 199)) → w a = v a) := by
  unfold P_X10_opposite at h ⊢
  have hf : ∀ a, ¬ ((138 ≤ a ∧ a ≤ 139) ∨ (141 ≤ a ∧ a ≤ 164) ∨ (191 ≤ a ∧ a ≤ 194) ∨ (196 ≤ a ∧ a ≤ 199)) → v a = v a := fun a _ => rfl
  refine N_X10_seated (F_X10_seated h) (fun v1 h => ?_)
  obtain ⟨h, hg⟩ := h
  replace hf : ∀ a, ¬ ((138 ≤ a ∧ a ≤ 139) ∨ (141 ≤ a ∧ a ≤ 164) ∨ (191 ≤ a ∧ a ≤ 194) ∨ (196 ≤ a ∧ a ≤ 199)) → v1 a = v a := fun a ha => by rw [hg a (by omega), hf a ha]
  clear hg
  refine ⟨fun hc => ?_, fun hc => ?_⟩
  · replace h := h.1 hc
    exact ⟨h, hf⟩
  · replace h := h.2 hc
    refine N_X0_isNode h (fun r15 h => ?_)
    refine ⟨fun hc => ?_, fun hc => ?_⟩
    · replace h := h.1 hc
      obtain ⟨ho1, h⟩ := h
      refine ⟨ho1, ?_⟩
      refine N_X10_allBits h (fun r43 h => ?_)
      refine N_X8_nodeAt h (fun r47 h => ?_)
      exact ⟨h, hf⟩
    · replace h := h.2 hc
      exact ⟨h, hf⟩
theorem N_X10_even {x1 : Int} {v : VT} {q q' : Int → VT → Prop} (h : P_X10_even x1 v q) (hq : ∀ r w, q r w → q' r w) : P_X10_even x1 v q' := by
  unfold P_X10_even at h ⊢
  refine ⟨fun hc => ?_, fun hc => ?_⟩
  · replace h := h.1 hc
    exact hq _ _ h
  · replace h := h.2 hc
    refine ⟨fun hc => ?_, fun hc => ?_⟩
    · replace h := h.1 hc
      exact hq _ _ h
    · replace h := h.2 hc
      refine N_X10_seated h (fun v10 h => ?_)
      refine ⟨fun hc => ?_, fun hc => ?_⟩
      · replace h := h.1 hc
        exact hq _ _ h
      · replace h := h.2 hc
        refine ⟨fun hc => ?_, fun hc => ?_⟩
        · replace h := h.1 hc
          intro X35 hKX35
          refine n_cut (h X35) ?_ ?_
          · intro i2 i3 h
            refine hKX35 i2 i3 ?_
            refine ⟨fun hc => ?_, fun hc => ?_⟩
            · replace h := h.1 hc
              refine ⟨fun hc => ?_, fun hc => ?_⟩
              · replace h := h.1 hc
                refine N_X8_costOf h (fun r86 h => ?_)
                exact hq _ _ h
              · replace h := h.2 hc
                exact hq _ _ h
            · replace h := h.2 hc
              refine N_X8_costOf h (fun r51 h => ?_)
              refine N_X8_costOf h (fun r59 h => ?_)
              refine ⟨fun hc => ?_, fun hc => ?_⟩
              · replace h := h.1 hc
                obtain ⟨ho1, h⟩ := h
                refine ⟨ho1, ?_⟩
                exact h
              · replace h := h.2 hc
                obtain ⟨ho2, h⟩ := h
                refine ⟨ho2, ?_⟩
                exact h
          · intro h
            exact h
        · replace h := h.2 hc
          exact hq _ _ h
theorem F_X10_even {x1 : Int} {v : VT} {q : Int → VT → Prop} (h : P_X10_even x1 v q) : P_X10_even x1 v (fun r w => q r w ∧ ∀ a, ¬ ((138 ≤ a ∧ a ≤ 139) ∨ (141 ≤ a ∧ a ≤ 164) ∨ (191 ≤ a ∧ a ≤ 194) ∨ (196 ≤ a ∧ a ≤ 199)) → w a = v a) := by
  unfold P_X10_even at h ⊢
  have hf : ∀ a, ¬ ((138 ≤ a ∧ a ≤ 139) ∨ (141 ≤ a ∧ a ≤ 164) ∨ (191 ≤ a ∧ a ≤ 194) ∨ (196 ≤ a ∧ a ≤ 199)) → v a = v a := fun a _ => rfl
  refine ⟨fun hc => ?_, fun hc => ?_⟩
  · replace h := h.1 hc
    exact ⟨h, hf⟩
  · replace h := h.2 hc
    refine ⟨fun hc => ?_, fun hc => ?_⟩
    · replace h := h.1 hc
      exact ⟨h, hf⟩
    · replace h := h.2 hc
      refine N_X10_seated (F_X10_seated h) (fun v10 h => ?_)
      obtain ⟨h, hg⟩ := h
      replace hf : ∀ a, ¬ ((138 ≤ a ∧ a ≤ 139) ∨ (141 ≤ a ∧ a ≤ 164) ∨ (191 ≤ a ∧ a ≤ 194) ∨ (196 ≤ a ∧ a ≤ 199)) → v10 a = v a := fun a ha => by rw [hg a (by omega), hf a ha]
      clear hg
      refine ⟨fun hc => ?_, fun hc => ?_⟩
      · replace h := h.1 hc
        exact ⟨h, hf⟩
      · replace h := h.2 hc
        refine ⟨fun hc => ?_, fun hc => ?_⟩
        · replace h := h.1 hc
          intro X35 hKX35
          refine n_cut (h X35) ?_ ?_
          · intro i2 i3 h
            refine hKX35 i2 i3 ?_
            refine ⟨fun hc => ?_, fun hc => ?_⟩
            · replace h := h.1 hc
              refine ⟨fun hc => ?_, fun hc => ?_⟩
              · replace h := h.1 hc
                refine N_X8_costOf h (fun r86 h => ?_)
                exact ⟨h, hf⟩
              · replace h := h.2 hc
                exact ⟨h, hf⟩
            · replace h := h.2 hc
              refine N_X8_costOf h (fun r51 h => ?_)
              refine N_X8_costOf h (fun r59 h => ?_)
              refine ⟨fun hc => ?_, fun hc => ?_⟩
              · replace h := h.1 hc
                obtain ⟨ho1, h⟩ := h
                refine ⟨ho1, ?_⟩
                exact h
              · replace h := h.2 hc
                obtain ⟨ho2, h⟩ := h
                refine ⟨ho2, ?_⟩
                exact h
          · intro h
            exact h
        · replace h := h.2 hc
          exact ⟨h, hf⟩
theorem N_X10_few  {v : VT} {q q' : Int → VT → Prop} (h : P_X10_few  v q) (hq : ∀ r w, q r w → q' r w) : P_X10_few  v q' := by
  unfold P_X10_few at h ⊢
  refine N_X10_seated h (fun v1 h => ?_)
  refine ⟨fun hc => ?_, fun hc => ?_⟩
  · replace h := h.1 hc
    exact hq _ _ h
  · replace h := h.2 hc
    refine ⟨fun hc => ?_, fun hc => ?_⟩
    · replace h := h.1 hc
      refine N_X7_findPairs h (fun v32 h => ?_)
      obtain ⟨ho1, h⟩ := h
      refine ⟨ho1, ?_⟩
      exact hq _ _ h
    · replace h := h.2 hc
      exact hq _ _ h
theorem F_X10_few  {v : VT} {q : Int → VT → Prop} (h : P_X10_few  v q) : P_X10_few  v (fun r w => q r w ∧ ∀ a, ¬ ((138 ≤ a ∧ a ≤ 139) ∨ (141 ≤ a ∧ a ≤ 164) ∨ (191 ≤ a ∧ a ≤ 194) ∨ (196 ≤ a ∧ a ≤ 199) ∨ (203 ≤ a ∧ a ≤ 204)) → w a = v a) := by
  unfold P_X10_few at h ⊢
  have hf : ∀ a, ¬ ((138 ≤ a ∧ a ≤ 139) ∨ (141 ≤ a ∧ a ≤ 164) ∨ (191 ≤ a ∧ a ≤ 194) ∨ (196 ≤ a ∧ a ≤ 199) ∨ (203 ≤ a ∧ a ≤ 204)) → v a = v a := fun a _ => rfl
  refine N_X10_seated (F_X10_seated h) (fun v1 h => ?_)
  obtain ⟨h, hg⟩ := h
  replace hf : ∀ a, ¬ ((138 ≤ a ∧ a ≤ 139) ∨ (141 ≤ a ∧ a ≤ 164) ∨ (191 ≤ a ∧ a ≤ 194) ∨ (196 ≤ a ∧ a ≤ 199) ∨ (203 ≤ a ∧ a ≤ 204)) → v1 a = v a := fun a ha => by rw [hg a (by omega), hf a ha]
  clear hg
  refine ⟨fun hc => ?_, fun hc => ?_⟩
  · replace h := h.1 hc
    exact ⟨h, hf⟩
  · replace h := h.2 hc
    refine ⟨fun hc => ?_, fun hc => ?_⟩
    · replace h := h.1 hc
      refine N_X7_findPairs (F_X7_findPairs h) (fun v32 h => ?_)
      obtain ⟨h, hg⟩ := h
      replace hf : ∀ a, ¬ ((138 ≤ a ∧ a ≤ 139) ∨ (141 ≤ a ∧ a ≤ 164) ∨ (191 ≤ a ∧ a ≤ 194) ∨ (196 ≤ a ∧ a ≤ 199) ∨ (203 ≤ a ∧ a ≤ 204)) → v32 a = v a := fun a ha => by rw [hg a (by omega), hf a ha]
      clear hg
      obtain ⟨ho1, h⟩ := h
      refine ⟨ho1, ?_⟩
      exact ⟨h, hf⟩
    · replace h := h.2 hc
      exact ⟨h, hf⟩
theorem N_X10_median {x1 : Int} {x2 : Int} {x3 : Int} {v : VT} {q q' : Int → VT → Prop} (h : P_X10_median x1 x2 x3 v q) (hq : ∀ r w, q r w → q' r w) : P_X10_median x1 x2 x3 v q' := by
  unfold P_X10_median at h ⊢
  refine N_X10_areNodes h (fun r3 h => ?_)
  refine ⟨fun hc => ?_, fun hc => ?_⟩
  · replace h := h.1 hc
    exact hq _ _ h
  · replace h := h.2 hc
    refine N_X0_isNode h (fun r14 h => ?_)
    refine ⟨fun hc => ?_, fun hc => ?_⟩
    · replace h := h.1 hc
      refine N_X10_measured h (fun v23 h => ?_)
      refine N_X2_amid h (fun r28 v28 h => ?_)
      refine N_X2_amid h (fun r37 v37 h => ?_)
      refine N_X2_amid h (fun r47 v47 h => ?_)
      exact hq _ _ h
    · replace h := h.2 hc
      exact hq _ _ h
theorem F_X10_median {x1 : Int} {x2 : Int} {x3 : Int} {v : VT} {q : Int → VT → Prop} (h : P_X10_median x1 x2 x3 v q) : P_X10_median x1 x2 x3 v (fun r w => q r w ∧ ∀ a, ¬ ((138 ≤ a ∧ a ≤ 139) ∨ (141 ≤ a ∧ a ≤ 164) ∨ (166 ≤ a ∧ a ≤ 189)) → w a = v a) := by
  unfold P_X10_median at h ⊢
  have hf : ∀ a, ¬ ((138 ≤ a ∧ a ≤ 139) ∨ (141 ≤ a ∧ a ≤ 164) ∨ (166 ≤ a ∧ a ≤ 189)) → v a = v a := fun a _ => rfl
  refine N_X10_areNodes h (fun r3 h => ?_)
  refine ⟨fun hc => ?_, fun hc => ?_⟩
  · replace h := h.1 hc
    exact ⟨h, hf⟩
  · replace h := h.2 hc
    refine N_X0_isNode h (fun r14 h => ?_)
    refine ⟨fun hc => ?_, fun hc => ?_⟩
    · replace h := h.1 hc
      refine N_X10_measured (F_X10_measured h) (fun v23 h => ?_)
      obtain ⟨h, hg⟩ := h
      replace hf : ∀ a, ¬ ((138 ≤ a ∧ a ≤ 139) ∨ (141 ≤ a ∧ a ≤ 164) ∨ (166 ≤ a ∧ a ≤ 189)) → v23 a = v a := fun a ha => by rw [hg a (by omega), hf a ha]
      clear hg
      refine N_X2_amid (F_X2_amid h) (fun r28 v28 h => ?_)
      obtain ⟨h, hg⟩ := h
      replace hf : ∀ a, ¬ ((138 ≤ a ∧ a ≤ 139) ∨ (141 ≤ a ∧ a ≤ 164) ∨ (166 ≤ a ∧ a ≤ 189)) → v28 a = v a := fun a ha => by rw [hg a (by omega), hf a ha]
      clear hg
      refine N_X2_amid (F_X2_amid h) (fun r37 v37 h => ?_)
      obtain ⟨h, hg⟩ := h
      replace hf : ∀ a, ¬ ((138 ≤ a ∧ a ≤ 139) ∨ (141 ≤ a ∧ a ≤ 164) ∨ (166 ≤ a ∧ a ≤ 189)) → v37 a = v a := fun a ha => by rw [hg a (by omega), hf a ha]
      clear hg
      refine N_X2_amid (F_X2_amid h) (fun r47 v47 h => ?_)
      obtain ⟨h, hg⟩ := h
      replace hf : ∀ a, ¬ ((138 ≤ a ∧ a ≤ 139) ∨ (141 ≤ a ∧ a ≤ 164) ∨ (166 ≤ a ∧ a ≤ 189)) → v47 a = v a := fun a ha => by rw [hg a (by omega), hf a ha]
      clear hg
      exact ⟨h, hf⟩
    · replace h := h.2 hc
      exact ⟨h, hf⟩
theorem N_X10_medians {x1 : Int} {v : VT} {q q' : Int → VT → Prop} (h : P_X10_medians x1 v q) (hq : ∀ r w, q r w → q' r w) : P_X10_medians x1 v q' := by
  unfold P_X10_medians at h ⊢
  refine ⟨fun hc => ?_, fun hc => ?_⟩
  · replace h := h.1 hc
    exact hq _ _ h
  · replace h := h.2 hc
    refine ⟨fun hc => ?_, fun hc => ?_⟩
    · replace h := h.1 hc
      refine N_X10_measured h (fun v12 h => ?_)
      refine N_X2_firstWithoutMedian h (fun r15 v15 h => ?_)
      refine ⟨fun hc => ?_, fun hc => ?_⟩
      · replace h := h.1 hc
        refine ⟨fun hc => ?_, fun hc => ?_⟩
        · replace h := h.1 hc
          obtain ⟨ho1, h⟩ := h
          refine ⟨ho1, ?_⟩
          obtain ⟨ho2, h⟩ := h
          refine ⟨ho2, ?_⟩
          exact hq _ _ h
        · replace h := h.2 hc
          exact hq _ _ h
      · replace h := h.2 hc
        refine ⟨fun hc => ?_, fun hc => ?_⟩
        · replace h := h.1 hc
          exact hq _ _ h
        · replace h := h.2 hc
          exact hq _ _ h
    · replace h := h.2 hc
      exact hq _ _ h
theorem F_X10_medians {x1 : Int} {v : VT} {q : Int → VT → Prop} (h : P_X10_medians x1 v q) : P_X10_medians x1 v (fun r w => q r w ∧ ∀ a, ¬ ((138 ≤ a ∧ a ≤ 139) ∨ (141 ≤ a ∧ a ≤ 164) ∨ (166 ≤ a ∧ a ≤ 189)) → w a = v a) := by
  unfold P_X10_medians at h ⊢
  have hf : ∀ a, ¬ ((138 ≤ a ∧ a ≤ 139) ∨ (141 ≤ a ∧ a ≤ 164) ∨ (166 ≤ a ∧ a ≤ 189)) → v a = v a := fun a _ => rfl
  refine ⟨fun hc => ?_, fun hc => ?_⟩
  · replace h := h.1 hc
    exact ⟨h, hf⟩
  · replace h := h.2 hc
    refine ⟨fun hc => ?_, fun hc => ?_⟩
    · replace h := h.1 hc
      refine N_X10_measured (F_X10_measured h) (fun v12 h => ?_)
      obtain ⟨h, hg⟩ := h
      replace hf : ∀ a, ¬ ((138 ≤ a ∧ a ≤ 139) ∨ (141 ≤ a ∧ a ≤ 164) ∨ (166 ≤ a ∧ a ≤ 189)) → v12 a = v a := fun a ha => by rw [hg a (by omega), hf a ha]
      clear hg
      refine N_X2_firstWithoutMedian (F_X2_firstWithoutMedian h) (fun r15 v15 h => ?_)
      obtain ⟨h, hg⟩ := h
      replace hf : ∀ a, ¬ ((138 ≤ a ∧ a ≤ 139) ∨ (141 ≤ a ∧ a ≤ 164) ∨ (166 ≤ a ∧ a ≤ 189)) → v15 a = v a := fun a ha => by rw [hg a (by omega), hf a ha]
      clear hg
      refine ⟨fun hc => ?_, fun hc => ?_⟩
      · replace h := h.1 hc
        refine ⟨fun hc => ?_, fun hc => ?_⟩
        · replace h := h.1 hc
          obtain ⟨ho1, h⟩ := h
          refine ⟨ho1, ?_⟩
          obtain ⟨ho2, h⟩ := h
          refine ⟨ho2, ?_⟩
          exact ⟨h, hf⟩
        · replace h := h.2 hc
          exact ⟨h, hf⟩
      · replace h := h.2 hc
        refine ⟨fun hc => ?_, fun hc => ?_⟩
        · replace h := h.1 hc
          exact ⟨h, hf⟩
        · replace h := h.2 hc
          exact ⟨h, hf⟩
    · replace h := h.2 hc
      exact ⟨h, hf⟩
theorem N_X10_vote  {v : VT} {q q' : Int → VT → Prop} (h : P_X10_vote  v q) (hq : ∀ r w, q r w → q' r w) : P_X10_vote  v q' := by
  unfold P_X10_vote at h ⊢
  intro v13 ev13
  replace h := h v13 ev13
  intro K32 hKK32
  refine n_cut (h K32) ?_ ?_
  · intro s0 h
    refine hKK32 s0 ?_
    intro K67 hKK67
    refine n_cut (h K67) ?_ ?_
    · intro i2 h
      refine hKK67 i2 ?_
      refine ⟨fun hc => ?_, fun hc => ?_⟩
      · replace h := h.1 hc
        intro X79 hKX79
        refine n_cut (h X79) ?_ ?_
        · intro i3 v79 h
          refine hKX79 i3 v79 ?_
          refine ⟨fun hc => ?_, fun hc => ?_⟩
          · replace h := h.1 hc
            intro v107 ev107
            replace h := h v107 ev107
            exact hq _ _ h
          · replace h := h.2 hc
            obtain ⟨ho1, h⟩ := h
            refine ⟨ho1, ?_⟩
            obtain ⟨ho2, h⟩ := h
            refine ⟨ho2, ?_⟩
            intro v98 ev98
            replace h := h v98 ev98
            obtain ⟨ho3, h⟩ := h
            refine ⟨ho3, ?_⟩
            exact h
        · intro h
          exact h
      · replace h := h.2 hc
        refine N_X10_refuse h (fun r73 v73 h => ?_)
        exact hq _ _ h
    · intro h
      intro X35 hKX35
      refine n_cut (h X35) ?_ ?_
      · intro i2_1 i3_1 h
        refine hKX35 i2_1 i3_1 ?_
        refine ⟨fun hc => ?_, fun hc => ?_⟩
        · replace h := h.1 hc
          exact h
        · replace h := h.2 hc
          refine ⟨fun hc => ?_, fun hc => ?_⟩
          · replace h := h.1 hc
            exact h
          · replace h := h.2 hc
            obtain ⟨ho4, h⟩ := h
            refine ⟨ho4, ?_⟩
            refine N_X0_isNode h (fun r57 h => ?_)
            obtain ⟨ho5, h⟩ := h
            refine ⟨ho5, ?_⟩
            exact h
      · intro h
        exact h
  · intro h
    intro K31 hKK31
    refine n_cut (h K31) ?_ ?_
    · intro h
      refine hKK31  ?_
      exact h
    · intro h
      refine ⟨fun hc => ?_, fun hc => ?_⟩
      · replace h := h.1 hc
        exact h
      · replace h := h.2 hc
        refine ⟨fun hc => ?_, fun hc => ?_⟩
        · replace h := h.1 hc
          exact h
        · replace h := h.2 hc
          exact h
theorem F_X10_vote  {v : VT} {q : Int → VT → Prop} (h : P_X10_vote  v q) : P_X10_vote  v (fun r w => q r w ∧ ∀ a, ¬ ((0 ≤ a ∧ a ≤ 1) ∨ a = 213 ∨ a = 217) → w a = v a) := by
  unfold P_X10_vote at h ⊢
  have hf : ∀ a, ¬ ((0 ≤ a ∧ a ≤ 1) ∨ a = 213 ∨ a = 217) → v a = v a := fun a _ => rfl
  intro v13 ev13
  replace h := h v13 ev13
  replace hf : ∀ a, ¬ ((0 ≤ a ∧ a ≤ 1) ∨ a = 213 ∨ a = 217) → v13 a = v a := fun a ha => by rw [ev13, upd2_off _ _ _ (by omega), hf a ha]
  intro K32 hKK32
  refine n_cut (h K32) ?_ ?_
  · intro s0 h
    refine hKK32 s0 ?_
    intro K67 hKK67
    refine n_cut (h K67) ?_ ?_
    · intro i2 h
      refine hKK67 i2 ?_
      refine ⟨fun hc => ?_, fun hc => ?_⟩
      · replace h := h.1 hc
        intro X79 hKX79
        refine n_cut (h (fun (i3 : Int) (v79 : VT) => (∀ a, ¬ ((0 ≤ a ∧ a ≤ 1) ∨ a = 213 ∨ a = 217) → v79 a = v a) → X79 i3 v79)) ?_ ?_
        · intro i3 v79 h hf
          refine hKX79 i3 v79 ?_
          refine ⟨fun hc => ?_, fun hc => ?_⟩
          · replace h := h.1 hc
            intro v107 ev107
            replace h := h v107 ev107
            replace hf : ∀ a, ¬ ((0 ≤ a ∧ a ≤ 1) ∨ a = 213 ∨ a = 217) → v107 a = v a := fun a ha => by rw [ev107, upd2_off _ _ _ (by omega), hf a ha]
            exact ⟨h, hf⟩
          · replace h := h.2 hc
            obtain ⟨ho1, h⟩ := h
            refine ⟨ho1, ?_⟩
            obtain ⟨ho2, h⟩ := h
            refine ⟨ho2, ?_⟩
            intro v98 ev98
            replace h := h v98 ev98
            replace hf : ∀ a, ¬ ((0 ≤ a ∧ a ≤ 1) ∨ a = 213 ∨ a = 217) → v98 a = v a := fun a ha => by rw [ev98, upd2_off _ _ _ (by omega), hf a ha]
            obtain ⟨ho3, h⟩ := h
            refine ⟨ho3, ?_⟩
            exact h hf
        · intro h
          exact h hf
      · replace h := h.2 hc
        refine N_X10_refuse (F_X10_refuse h) (fun r73 v73 h => ?_)
        obtain ⟨h, hg⟩ := h
        replace hf : ∀ a, ¬ ((0 ≤ a ∧ a ≤ 1) ∨ a = 213 ∨ a = 217) → v73 a = v a := fun a ha => by rw [hg a (by omega), hf a ha]
        clear hg
        exact ⟨h, hf⟩
    · intro h
      intro X35 hKX35
      refine n_cut (h X35) ?_ ?_
      · intro i2_1 i3_1 h
        refine hKX35 i2_1 i3_1 ?_
        refine ⟨fun hc => ?_, fun hc => ?_⟩
        · replace h := h.1 hc
          exact h
        · replace h := h.2 hc
          refine ⟨fun hc => ?_, fun hc => ?_⟩
          · replace h := h.1 hc
            exact h
          · replace h := h.2 hc
            obtain ⟨ho4, h⟩ := h
            refine ⟨ho4, ?_⟩
            refine N_X0_isNode h (fun r57 h => ?_)
            obtain ⟨ho5, h⟩ := h
            refine ⟨ho5, ?_⟩
            exact h
      · intro h
        exact h
  · intro h
    intro K31 hKK31
    refine n_cut (h K31) ?_ ?_
    · intro h
      refine hKK31  ?_
      exact h
    · intro h
      refine ⟨fun hc => ?_, fun hc => ?_⟩
      · replace h := h.1 hc
        exact h
      · replace h := h.2 hc
        refine ⟨fun hc => ?_, fun hc => ?_⟩
        · replace h := h.1 hc
          exact h
        · replace h := h.2 hc
          exact h
theorem N_X10_areNodesStill {a1 : Nat} {n1 : Nat} {x2 : Int} {v : VT} {q q' : Int → Prop} (h : P_X10_areNodesStill a1 n1 x2 v q) (hq : ∀ r, q r → q' r) : P_X10_areNodesStill a1 n1 x2 v q' := by
  unfold P_X10_areNodesStill at h ⊢
  intro X2 hKX2
  refine n_cut (h X2) ?_ ?_
  · intro i3 h
    refine hKX2 i3 ?_
    refine ⟨fun hc => ?_, fun hc => ?_⟩
    · replace h := h.1 hc
      exact hq _ h
    · replace h := h.2 hc
      refine ⟨fun hc => ?_, fun hc => ?_⟩
      · replace h := h.1 hc
        exact hq _ h
      · replace h := h.2 hc
        obtain ⟨ho1, h⟩ := h
        refine ⟨ho1, ?_⟩
        refine N_X0_isNode h (fun r20 h => ?_)
        refine ⟨fun hc => ?_, fun hc => ?_⟩
        · replace h := h.1 hc
          obtain ⟨ho2, h⟩ := h
          refine ⟨ho2, ?_⟩
          exact h
        · replace h := h.2 hc
          exact hq _ h
  · intro h
    exact h
theorem N_X10_majority  {v : VT} {q q' : Int → Prop} (h : P_X10_majority  v q) (hq : ∀ r, q r → q' r) : P_X10_majority  v q' := by
  unfold P_X10_majority at h ⊢
  intro X4 hKX4
  refine n_cut (h X4) ?_ ?_
  · intro i1 i2 h
    refine hKX4 i1 i2 ?_
    refine ⟨fun hc => ?_, fun hc => ?_⟩
    · replace h := h.1 hc
      exact hq _ h
    · replace h := h.2 hc
      intro K57 hKK57
      refine n_cut (h K57) ?_ ?_
      · intro i3 h
        refine hKK57 i3 ?_
        obtain ⟨ho1, h⟩ := h
        refine ⟨ho1, ?_⟩
        refine ⟨fun hc => ?_, fun hc => ?_⟩
        · replace h := h.1 hc
          obtain ⟨ho2, h⟩ := h
          refine ⟨ho2, ?_⟩
          exact h
        · replace h := h.2 hc
          intro l1 el1
          replace h := h l1 el1
          obtain ⟨ho3, h⟩ := h
          refine ⟨ho3, ?_⟩
          exact h
      · intro h
        intro X20 hKX20
        refine n_cut (h X20) ?_ ?_
        · intro i3_1 i4 h
          refine hKX20 i3_1 i4 ?_
          refine ⟨fun hc => ?_, fun hc => ?_⟩
          · replace h := h.1 hc
            exact h
          · replace h := h.2 hc
            obtain ⟨ho4, h⟩ := h
            refine ⟨ho4, ?_⟩
            obtain ⟨ho5, h⟩ := h
            refine ⟨ho5, ?_⟩
            obtain ⟨ho6, h⟩ := h
            refine ⟨ho6, ?_⟩
            intro l3 el3
            replace h := h l3 el3
            obtain ⟨ho7, h⟩ := h
            refine ⟨ho7, ?_⟩
            exact h
        · intro h
          exact h
  · intro h
    exact h
theorem N_X10_farFromVotes {x1 : Int} {v : VT} {q q' : Int → Prop} (h : P_X10_farFromVotes x1 v q) (hq : ∀ r, q r → q' r) : P_X10_farFromVotes x1 v q' := by
  unfold P_X10_farFromVotes at h ⊢
  intro X4 hKX4
  refine n_cut (h X4) ?_ ?_
  · intro i2 i3 h
    refine hKX4 i2 i3 ?_
    refine ⟨fun hc => ?_, fun hc => ?_⟩
    · replace h := h.1 hc
      exact hq _ h
    · replace h := h.2 hc
      obtain ⟨ho1, h⟩ := h
      refine ⟨ho1, ?_⟩
      obtain ⟨ho2, h⟩ := h
      refine ⟨ho2, ?_⟩
      obtain ⟨ho3, h⟩ := h
      refine ⟨ho3, ?_⟩
      obtain ⟨ho4, h⟩ := h
      refine ⟨ho4, ?_⟩
      intro l2 el2
      replace h := h l2 el2
      obtain ⟨ho5, h⟩ := h
      refine ⟨ho5, ?_⟩
      exact h
  · intro h
    exact h
theorem N_X10_winner {x1 : Int} {v : VT} {q q' : Int → VT → Prop} (h : P_X10_winner x1 v q) (hq : ∀ r w, q r w → q' r w) : P_X10_winner x1 v q' := by
  unfold P_X10_winner at h ⊢
  refine ⟨fun hc => ?_, fun hc => ?_⟩
  · replace h := h.1 hc
    exact hq _ _ h
  · replace h := h.2 hc
    refine ⟨fun hc => ?_, fun hc => ?_⟩
    · replace h := h.1 hc
      exact hq _ _ h
    · replace h := h.2 hc
      refine ⟨fun hc => ?_, fun hc => ?_⟩
      · replace h := h.1 hc
        exact hq _ _ h
      · replace h := h.2 hc
        refine N_X10_measured h (fun v17 h => ?_)
        refine ⟨fun hc => ?_, fun hc => ?_⟩
        · replace h := h.1 hc
          exact hq _ _ h
        · replace h := h.2 hc
          refine N_X10_areNodesStill h (fun r35 h => ?_)
          refine ⟨fun hc => ?_, fun hc => ?_⟩
          · replace h := h.1 hc
            refine ⟨fun hc => ?_, fun hc => ?_⟩
            · replace h := h.1 hc
              intro X78 hKX78
              refine n_cut (h X78) ?_ ?_
              · intro i2 i3 h
                refine hKX78 i2 i3 ?_
                refine ⟨fun hc => ?_, fun hc => ?_⟩
                · replace h := h.1 hc
                  refine ⟨fun hc => ?_, fun hc => ?_⟩
                  · replace h := h.1 hc
                    refine N_X10_farFromVotes h (fun r120 h => ?_)
                    exact hq _ _ h
                  · replace h := h.2 hc
                    exact hq _ _ h
                · replace h := h.2 hc
                  refine N_X10_farFromVotes h (fun r91 h => ?_)
                  refine N_X10_farFromVotes h (fun r96 h => ?_)
                  refine ⟨fun hc => ?_, fun hc => ?_⟩
                  · replace h := h.1 hc
                    obtain ⟨ho1, h⟩ := h
                    refine ⟨ho1, ?_⟩
                    exact h
                  · replace h := h.2 hc
                    obtain ⟨ho2, h⟩ := h
                    refine ⟨ho2, ?_⟩
                    exact h
              · intro h
                exact h
            · replace h := h.2 hc
              refine N_X10_seated h (fun v49 h => ?_)
              refine ⟨fun hc => ?_, fun hc => ?_⟩
              · replace h := h.1 hc
                exact hq _ _ h
              · replace h := h.2 hc
                refine N_X10_majority h (fun r63 h => ?_)
                refine N_X8_nodeAt h (fun r66 h => ?_)
                exact hq _ _ h
          · replace h := h.2 hc
            exact hq _ _ h
theorem F_X10_winner {x1 : Int} {v : VT} {q : Int → VT → Prop} (h : P_X10_winner x1 v q) : P_X10_winner x1 v (fun r w => q r w ∧ ∀ a, ¬ ((138 ≤ a ∧ a ≤ 139) ∨ (141 ≤ a ∧ a ≤ 164) ∨ (191 ≤ a ∧ a ≤ 194) ∨ (196 ≤ a ∧ a ≤ 199)) → w a = v a) := by
  unfold P_X10_winner at h ⊢
  have hf : ∀ a, ¬ ((138 ≤ a ∧ a ≤ 139) ∨ (141 ≤ a ∧ a ≤ 164) ∨ (191 ≤ a ∧ a ≤ 194) ∨ (196 ≤ a ∧ a ≤ 199)) → v a = v a := fun a _ => rfl
  refine ⟨fun hc => ?_, fun hc => ?_⟩
  · replace h := h.1 hc
    exact ⟨h, hf⟩
  · replace h := h.2 hc
    refine ⟨fun hc => ?_, fun hc => ?_⟩
    · replace h := h.1 hc
      exact ⟨h, hf⟩
    · replace h := h.2 hc
      refine ⟨fun hc => ?_, fun hc => ?_⟩
      · replace h := h.1 hc
        exact ⟨h, hf⟩
      · replace h := h.2 hc
        refine N_X10_measured (F_X10_measured h) (fun v17 h => ?_)
        obtain ⟨h, hg⟩ := h
        replace hf : ∀ a, ¬ ((138 ≤ a ∧ a ≤ 139) ∨ (141 ≤ a ∧ a ≤ 164) ∨ (191 ≤ a ∧ a ≤ 194) ∨ (196 ≤ a ∧ a ≤ 199)) → v17 a = v a := fun a ha => by rw [hg a (by omega), hf a ha]
        clear hg
        refine ⟨fun hc => ?_, fun hc => ?_⟩
        · replace h := h.1 hc
          exact ⟨h, hf⟩
        · replace h := h.2 hc
          refine N_X10_areNodesStill h (fun r35 h => ?_)
          refine ⟨fun hc => ?_, fun hc => ?_⟩
          · replace h := h.1 hc
            refine ⟨fun hc => ?_, fun hc => ?_⟩
            · replace h := h.1 hc
              intro X78 hKX78
              refine n_cut (h X78) ?_ ?_
              · intro i2 i3 h
                refine hKX78 i2 i3 ?_
                refine ⟨fun hc => ?_, fun hc => ?_⟩
                · replace h := h.1 hc
                  refine ⟨fun hc => ?_, fun hc => ?_⟩
                  · replace h := h.1 hc
                    refine N_X10_farFromVotes h (fun r120 h => ?_)
                    exact ⟨h, hf⟩
                  · replace h := h.2 hc
                    exact ⟨h, hf⟩
                · replace h := h.2 hc
                  refine N_X10_farFromVotes h (fun r91 h => ?_)
                  refine N_X10_farFromVotes h (fun r96 h => ?_)
                  refine ⟨fun hc => ?_, fun hc => ?_⟩
                  · replace h := h.1 hc
                    obtain ⟨ho1, h⟩ := h
                    refine ⟨ho1, ?_⟩
                    exact h
                  · replace h := h.2 hc
                    obtain ⟨ho2, h⟩ := h
                    refine ⟨ho2, ?_⟩
                    exact h
              · intro h
                exact h
            · replace h := h.2 hc
              refine N_X10_seated (F_X10_seated h) (fun v49 h => ?_)
              obtain ⟨h, hg⟩ := h
              replace hf : ∀ a, ¬ ((138 ≤ a ∧ a ≤ 139) ∨ (141 ≤ a ∧ a ≤ 164) ∨ (191 ≤ a ∧ a ≤ 194) ∨ (196 ≤ a ∧ a ≤ 199)) → v49 a = v a := fun a ha => by rw [hg a (by omega), hf a ha]
              clear hg
              refine ⟨fun hc => ?_, fun hc => ?_⟩
              · replace h := h.1 hc
                exact ⟨h, hf⟩
              · replace h := h.2 hc
                refine N_X10_majority h (fun r63 h => ?_)
                refine N_X8_nodeAt h (fun r66 h => ?_)
                exact ⟨h, hf⟩
          · replace h := h.2 hc
            exact ⟨h, hf⟩
theorem N_X10_isSet {x1 : Int} {v : VT} {q q' : Int → VT → Prop} (h : P_X10_isSet x1 v q) (hq : ∀ r w, q r w → q' r w) : P_X10_isSet x1 v q' := by
  unfold P_X10_isSet at h ⊢
  refine ⟨fun hc => ?_, fun hc => ?_⟩
  · replace h := h.1 hc
    exact hq _ _ h
  · replace h := h.2 hc
    refine N_X10_measured h (fun v11 h => ?_)
    refine ⟨fun hc => ?_, fun hc => ?_⟩
    · replace h := h.1 hc
      exact hq _ _ h
    · replace h := h.2 hc
      refine N_X10_allBits h (fun r28 h => ?_)
      refine ⟨fun hc => ?_, fun hc => ?_⟩
      · replace h := h.1 hc
        exact hq _ _ h
      · replace h := h.2 hc
        exact hq _ _ h
theorem F_X10_isSet {x1 : Int} {v : VT} {q : Int → VT → Prop} (h : P_X10_isSet x1 v q) : P_X10_isSet x1 v (fun r w => q r w ∧ ∀ a, ¬ ((138 ≤ a ∧ a ≤ 139) ∨ (141 ≤ a ∧ a ≤ 164)) → w a = v a) := by
  unfold P_X10_isSet at h ⊢
  have hf : ∀ a, ¬ ((138 ≤ a ∧ a ≤ 139) ∨ (141 ≤ a ∧ a ≤ 164)) → v a = v a := fun a _ => rfl
  refine ⟨fun hc => ?_, fun hc => ?_⟩
  · replace h := h.1 hc
    exact ⟨h, hf⟩
  · replace h := h.2 hc
    refine N_X10_measured (F_X10_measured h) (fun v11 h => ?_)
    obtain ⟨h, hg⟩ := h
    replace hf : ∀ a, ¬ ((138 ≤ a ∧ a ≤ 139) ∨ (141 ≤ a ∧ a ≤ 164)) → v11 a = v a := fun a ha => by rw [hg a (by omega), hf a ha]
    clear hg
    refine ⟨fun hc => ?_, fun hc => ?_⟩
    · replace h := h.1 hc
      exact ⟨h, hf⟩
    · replace h := h.2 hc
      refine N_X10_allBits h (fun r28 h => ?_)
      refine ⟨fun hc => ?_, fun hc => ?_⟩
      · replace h := h.1 hc
        exact ⟨h, hf⟩
      · replace h := h.2 hc
        exact ⟨h, hf⟩
theorem N_X10_set {x1 : Int} {x2 : Int} {v : VT} {q q' : Int → VT → Prop} (h : P_X10_set x1 x2 v q) (hq : ∀ r w, q r w → q' r w) : P_X10_set x1 x2 v q' := by
  unfold P_X10_set at h ⊢
  refine ⟨fun hc => ?_, fun hc => ?_⟩
  · replace h := h.1 hc
    exact hq _ _ h
  · replace h := h.2 hc
    refine ⟨fun hc => ?_, fun hc => ?_⟩
    · replace h := h.1 hc
      exact hq _ _ h
    · replace h := h.2 hc
      refine N_X10_isSet h (fun r11 v11 h => ?_)
      refine ⟨fun hc => ?_, fun hc => ?_⟩
      · replace h := h.1 hc
        refine ⟨fun hc => ?_, fun hc => ?_⟩
        · replace h := h.1 hc
          refine N_X2_widen h (fun r39 v39 h => ?_)
          refine ⟨fun hc => ?_, fun hc => ?_⟩
          · replace h := h.1 hc
            exact hq _ _ h
          · replace h := h.2 hc
            exact hq _ _ h
        · replace h := h.2 hc
          refine N_X2_isTrue h (fun r28 h => ?_)
          refine ⟨fun hc => ?_, fun hc => ?_⟩
          · replace h := h.1 hc
            exact hq _ _ h
          · replace h := h.2 hc
            exact hq _ _ h
      · replace h := h.2 hc
        exact hq _ _ h
theorem F_X10_set {x1 : Int} {x2 : Int} {v : VT} {q : Int → VT → Prop} (h : P_X10_set x1 x2 v q) : P_X10_set x1 x2 v (fun r w => q r w ∧ ∀ a, ¬ ((138 ≤ a ∧ a ≤ 139) ∨ (141 ≤ a ∧ a ≤ 164) ∨ (166 ≤ a ∧ a ≤ 189)) → w a = v a) := by
  unfold P_X10_set at h ⊢
  have hf : ∀ a, ¬ ((138 ≤ a ∧ a ≤ 139) ∨ (141 ≤ a ∧ a ≤ 164) ∨ (166 ≤ a ∧ a ≤ 189)) → v a = v a := fun a _ => rfl
  refine ⟨fun hc => ?_, fun hc => ?_⟩
  · replace h := h.1 hc
    exact ⟨h, hf⟩
  · replace h := h.2 hc
    refine ⟨fun hc => ?_, fun hc => ?_⟩
    · replace h := h.1 hc
      exact ⟨h, hf⟩
    · replace h := h.2 hc
      refine N_X10_isSet (F_X10_isSet h) (fun r11 v11 h => ?_)
      obtain ⟨h, hg⟩ := h
      replace hf : ∀ a, ¬ ((138 ≤ a ∧ a ≤ 139) ∨ (141 ≤ a ∧ a ≤ 164) ∨ (166 ≤ a ∧ a ≤ 189)) → v11 a = v a := fun a ha => by rw [hg a (by omega), hf a ha]
      clear hg
      refine ⟨fun hc => ?_, fun hc => ?_⟩
      · replace h := h.1 hc
        refine ⟨fun hc => ?_, fun hc => ?_⟩
        · replace h := h.1 hc
          refine N_X2_widen (F_X2_widen h) (fun r39 v39 h => ?_)
          obtain ⟨h, hg⟩ := h
          replace hf : ∀ a, ¬ ((138 ≤ a ∧ a ≤ 139) ∨ (141 ≤ a ∧ a ≤ 164) ∨ (166 ≤ a ∧ a ≤ 189)) → v39 a = v a := fun a ha => by rw [hg a (by omega), hf a ha]
          clear hg
          refine ⟨fun hc => ?_, fun hc => ?_⟩
          · replace h := h.1 hc
            exact ⟨h, hf⟩
          · replace h := h.2 hc
            exact ⟨h, hf⟩
        · replace h := h.2 hc
          refine N_X2_isTrue h (fun r28 h => ?_)
          refine ⟨fun hc => ?_, fun hc => ?_⟩
          · replace h := h.1 hc
            exact ⟨h, hf⟩
          · replace h := h.2 hc
            exact ⟨h, hf⟩
      · replace h := h.2 hc
        exact ⟨h, hf⟩
theorem N_X10_hull {x1 : Int} {v : VT} {q q' : Int → VT → Prop} (h : P_X10_hull x1 v q) (hq : ∀ r w, q r w → q' r w) : P_X10_hull x1 v q' := by
  unfold P_X10_hull at h ⊢
  refine N_X10_isSet h (fun r2 v2 h => ?_)
  refine ⟨fun hc => ?_, fun hc => ?_⟩
  · replace h := h.1 hc
    exact hq _ _ h
  · replace h := h.2 hc
    refine N_X2_close h (fun r13 v13 h => ?_)
    exact hq _ _ h
theorem F_X10_hull {x1 : Int} {v : VT} {q : Int → VT → Prop} (h : P_X10_hull x1 v q) : P_X10_hull x1 v (fun r w => q r w ∧ ∀ a, ¬ ((138 ≤ a ∧ a ≤ 139) ∨ (141 ≤ a ∧ a ≤ 164) ∨ (166 ≤ a ∧ a ≤ 189)) → w a = v a) := by
  unfold P_X10_hull at h ⊢
  have hf : ∀ a, ¬ ((138 ≤ a ∧ a ≤ 139) ∨ (141 ≤ a ∧ a ≤ 164) ∨ (166 ≤ a ∧ a ≤ 189)) → v a = v a := fun a _ => rfl
  refine N_X10_isSet (F_X10_isSet h) (fun r2 v2 h => ?_)
  obtain ⟨h, hg⟩ := h
  replace hf : ∀ a, ¬ ((138 ≤ a ∧ a ≤ 139) ∨ (141 ≤ a ∧ a ≤ 164) ∨ (166 ≤ a ∧ a ≤ 189)) → v2 a = v a := fun a ha => by rw [hg a (by omega), hf a ha]
  clear hg
  refine ⟨fun hc => ?_, fun hc => ?_⟩
  · replace h := h.1 hc
    exact ⟨h, hf⟩
  · replace h := h.2 hc
    refine N_X2_close (F_X2_close h) (fun r13 v13 h => ?_)
    obtain ⟨h, hg⟩ := h
    replace hf : ∀ a, ¬ ((138 ≤ a ∧ a ≤ 139) ∨ (141 ≤ a ∧ a ≤ 164) ∨ (166 ≤ a ∧ a ≤ 189)) → v13 a = v a := fun a ha => by rw [hg a (by omega), hf a ha]
    clear hg
    exact ⟨h, hf⟩
theorem N_X10_gate {x1 : Int} {x2 : Int} {v : VT} {q q' : Int → VT → Prop} (h : P_X10_gate x1 x2 v q) (hq : ∀ r w, q r w → q' r w) : P_X10_gate x1 x2 v q' := by
  unfold P_X10_gate at h ⊢
  refine N_X0_isNode h (fun r5 h => ?_)
  refine ⟨fun hc => ?_, fun hc => ?_⟩
  · replace h := h.1 hc
    exact hq _ _ h
  · replace h := h.2 hc
    refine N_X10_isSet h (fun r13 v13 h => ?_)
    refine ⟨fun hc => ?_, fun hc => ?_⟩
    · replace h := h.1 hc
      refine N_X2_findGate h (fun r27 h => ?_)
      exact hq _ _ h
    · replace h := h.2 hc
      exact hq _ _ h
theorem F_X10_gate {x1 : Int} {x2 : Int} {v : VT} {q : Int → VT → Prop} (h : P_X10_gate x1 x2 v q) : P_X10_gate x1 x2 v (fun r w => q r w ∧ ∀ a, ¬ ((138 ≤ a ∧ a ≤ 139) ∨ (141 ≤ a ∧ a ≤ 164)) → w a = v a) := by
  unfold P_X10_gate at h ⊢
  have hf : ∀ a, ¬ ((138 ≤ a ∧ a ≤ 139) ∨ (141 ≤ a ∧ a ≤ 164)) → v a = v a := fun a _ => rfl
  refine N_X0_isNode h (fun r5 h => ?_)
  refine ⟨fun hc => ?_, fun hc => ?_⟩
  · replace h := h.1 hc
    exact ⟨h, hf⟩
  · replace h := h.2 hc
    refine N_X10_isSet (F_X10_isSet h) (fun r13 v13 h => ?_)
    obtain ⟨h, hg⟩ := h
    replace hf : ∀ a, ¬ ((138 ≤ a ∧ a ≤ 139) ∨ (141 ≤ a ∧ a ≤ 164)) → v13 a = v a := fun a ha => by rw [hg a (by omega), hf a ha]
    clear hg
    refine ⟨fun hc => ?_, fun hc => ?_⟩
    · replace h := h.1 hc
      refine N_X2_findGate h (fun r27 h => ?_)
      exact ⟨h, hf⟩
    · replace h := h.2 hc
      exact ⟨h, hf⟩
theorem N_X10_see  {v : VT} {q q' : Int → VT → Prop} (h : P_X10_see  v q) (hq : ∀ r w, q r w → q' r w) : P_X10_see  v q' := by
  unfold P_X10_see at h ⊢
  intro v13 ev13
  replace h := h v13 ev13
  intro K38 hKK38
  refine n_cut (h K38) ?_ ?_
  · intro s0 h
    refine hKK38 s0 ?_
    intro K99 hKK99
    refine n_cut (h K99) ?_ ?_
    · intro i2 h
      refine hKK99 i2 ?_
      refine ⟨fun hc => ?_, fun hc => ?_⟩
      · replace h := h.1 hc
        intro v113 ev113
        replace h := h v113 ev113
        intro X118 hKX118
        refine n_cut (h X118) ?_ ?_
        · intro i3 v118 h
          refine hKX118 i3 v118 ?_
          refine ⟨fun hc => ?_, fun hc => ?_⟩
          · replace h := h.1 hc
            exact hq _ _ h
          · replace h := h.2 hc
            obtain ⟨ho1, h⟩ := h
            refine ⟨ho1, ?_⟩
            obtain ⟨ho2, h⟩ := h
            refine ⟨ho2, ?_⟩
            obtain ⟨ho3, h⟩ := h
            refine ⟨ho3, ?_⟩
            intro v142 ev142
            replace h := h v142 ev142
            obtain ⟨ho4, h⟩ := h
            refine ⟨ho4, ?_⟩
            obtain ⟨ho5, h⟩ := h
            refine ⟨ho5, ?_⟩
            obtain ⟨ho6, h⟩ := h
            refine ⟨ho6, ?_⟩
            obtain ⟨ho7, h⟩ := h
            refine ⟨ho7, ?_⟩
            intro v161 ev161
            replace h := h v161 ev161
            obtain ⟨ho8, h⟩ := h
            refine ⟨ho8, ?_⟩
            exact h
        · intro h
          exact h
      · replace h := h.2 hc
        refine N_X10_refuse h (fun r105 v105 h => ?_)
        exact hq _ _ h
    · intro h
      intro X41 hKX41
      refine n_cut (h X41) ?_ ?_
      · intro i2_1 i3_1 h
        refine hKX41 i2_1 i3_1 ?_
        refine ⟨fun hc => ?_, fun hc => ?_⟩
        · replace h := h.1 hc
          exact h
        · replace h := h.2 hc
          obtain ⟨ho9, h⟩ := h
          refine ⟨ho9, ?_⟩
          refine ⟨fun hc => ?_, fun hc => ?_⟩
          · replace h := h.1 hc
            exact h
          · replace h := h.2 hc
            obtain ⟨ho10, h⟩ := h
            refine ⟨ho10, ?_⟩
            refine N_X0_isNode h (fun r65 h => ?_)
            refine ⟨fun hc => ?_, fun hc => ?_⟩
            · replace h := h.1 hc
              obtain ⟨ho11, h⟩ := h
              refine ⟨ho11, ?_⟩
              exact h
            · replace h := h.2 hc
              obtain ⟨ho12, h⟩ := h
              refine ⟨ho12, ?_⟩
              obtain ⟨ho13, h⟩ := h
              refine ⟨ho13, ?_⟩
              refine ⟨fun hc => ?_, fun hc => ?_⟩
              · replace h := h.1 hc
                obtain ⟨ho14, h⟩ := h
                refine ⟨ho14, ?_⟩
                exact h
              · replace h := h.2 hc
                obtain ⟨ho15, h⟩ := h
                refine ⟨ho15, ?_⟩
                exact h
      · intro h
        exact h
  · intro h
    intro K37 hKK37
    refine n_cut (h K37) ?_ ?_
    · intro h
      refine hKK37  ?_
      exact h
    · intro h
      refine ⟨fun hc => ?_, fun hc => ?_⟩
      · replace h := h.1 hc
        exact h
      · replace h := h.2 hc
        refine ⟨fun hc => ?_, fun hc => ?_⟩
        · replace h := h.1 hc
          exact h
        · replace h := h.2 hc
          refine ⟨fun hc => ?_, fun hc => ?_⟩
          · replace h := h.1 hc
            exact h
          · replace h := h.2 hc
            exact h
theorem F_X10_see  {v : VT} {q : Int → VT → Prop} (h : P_X10_see  v q) : P_X10_see  v (fun r w => q r w ∧ ∀ a, ¬ ((0 ≤ a ∧ a ≤ 1) ∨ (214 ≤ a ∧ a ≤ 215) ∨ a = 217) → w a = v a) := by
  unfold P_X10_see at h ⊢
  have hf : ∀ a, ¬ ((0 ≤ a ∧ a ≤ 1) ∨ (214 ≤ a ∧ a ≤ 215) ∨ a = 217) → v a = v a := fun a _ => rfl
  intro v13 ev13
  replace h := h v13 ev13
  replace hf : ∀ a, ¬ ((0 ≤ a ∧ a ≤ 1) ∨ (214 ≤ a ∧ a ≤ 215) ∨ a = 217) → v13 a = v a := fun a ha => by rw [ev13, upd2_off _ _ _ (by omega), hf a ha]
  intro K38 hKK38
  refine n_cut (h K38) ?_ ?_
  · intro s0 h
    refine hKK38 s0 ?_
    intro K99 hKK99
    refine n_cut (h K99) ?_ ?_
    · intro i2 h
      refine hKK99 i2 ?_
      refine ⟨fun hc => ?_, fun hc => ?_⟩
      · replace h := h.1 hc
        intro v113 ev113
        replace h := h v113 ev113
        replace hf : ∀ a, ¬ ((0 ≤ a ∧ a ≤ 1) ∨ (214 ≤ a ∧ a ≤ 215) ∨ a = 217) → v113 a = v a := fun a ha => by rw [ev113, upd2_off _ _ _ (by omega), hf a ha]
        intro X118 hKX118
        refine n_cut (h (fun (i3 : Int) (v118 : VT) => (∀ a, ¬ ((0 ≤ a ∧ a ≤ 1) ∨ (214 ≤ a ∧ a ≤ 215) ∨ a = 217) → v118 a = v a) → X118 i3 v118)) ?_ ?_
        · intro i3 v118 h hf
          refine hKX118 i3 v118 ?_
          refine ⟨fun hc => ?_, fun hc => ?_⟩
          · replace h := h.1 hc
            exact ⟨h, hf⟩
          · replace h := h.2 hc
            obtain ⟨ho1, h⟩ := h
            refine ⟨ho1, ?_⟩
            obtain ⟨ho2, h⟩ := h
            refine ⟨ho2, ?_⟩
            obtain ⟨ho3, h⟩ := h
            refine ⟨ho3, ?_⟩
            intro v142 ev142
            replace h := h v142 ev142
            replace hf : ∀ a, ¬ ((0 ≤ a ∧ a ≤ 1) ∨ (214 ≤ a ∧ a ≤ 215) ∨ a = 217) → v142 a = v a := fun a ha => by rw [ev142, upd2_off _ _ _ (by omega), hf a ha]
            obtain ⟨ho4, h⟩ := h
            refine ⟨ho4, ?_⟩
            obtain ⟨ho5, h⟩ := h
            refine ⟨ho5, ?_⟩
            obtain ⟨ho6, h⟩ := h
            refine ⟨ho6, ?_⟩
            obtain ⟨ho7, h⟩ := h
            refine ⟨ho7, ?_⟩
            intro v161 ev161
            replace h := h v161 ev161
            replace hf : ∀ a, ¬ ((0 ≤ a ∧ a ≤ 1) ∨ (214 ≤ a ∧ a ≤ 215) ∨ a = 217) → v161 a = v a := fun a ha => by rw [ev161, upd2_off _ _ _ (by omega), hf a ha]
            obtain ⟨ho8, h⟩ := h
            refine ⟨ho8, ?_⟩
            exact h hf
        · intro h
          exact h hf
      · replace h := h.2 hc
        refine N_X10_refuse (F_X10_refuse h) (fun r105 v105 h => ?_)
        obtain ⟨h, hg⟩ := h
        replace hf : ∀ a, ¬ ((0 ≤ a ∧ a ≤ 1) ∨ (214 ≤ a ∧ a ≤ 215) ∨ a = 217) → v105 a = v a := fun a ha => by rw [hg a (by omega), hf a ha]
        clear hg
        exact ⟨h, hf⟩
    · intro h
      intro X41 hKX41
      refine n_cut (h X41) ?_ ?_
      · intro i2_1 i3_1 h
        refine hKX41 i2_1 i3_1 ?_
        refine ⟨fun hc => ?_, fun hc => ?_⟩
        · replace h := h.1 hc
          exact h
        · replace h := h.2 hc
          obtain ⟨ho9, h⟩ := h
          refine ⟨ho9, ?_⟩
          refine ⟨fun hc => ?_, fun hc => ?_⟩
          · replace h := h.1 hc
            exact h
          · replace h := h.2 hc
            obtain ⟨ho10, h⟩ := h
            refine ⟨ho10, ?_⟩
            refine N_X0_isNode h (fun r65 h => ?_)
            refine ⟨fun hc => ?_, fun hc => ?_⟩
            · replace h := h.1 hc
              obtain ⟨ho11, h⟩ := h
              refine ⟨ho11, ?_⟩
              exact h
            · replace h := h.2 hc
              obtain ⟨ho12, h⟩ := h
              refine ⟨ho12, ?_⟩
              obtain ⟨ho13, h⟩ := h
              refine ⟨ho13, ?_⟩
              refine ⟨fun hc => ?_, fun hc => ?_⟩
              · replace h := h.1 hc
                obtain ⟨ho14, h⟩ := h
                refine ⟨ho14, ?_⟩
                exact h
              · replace h := h.2 hc
                obtain ⟨ho15, h⟩ := h
                refine ⟨ho15, ?_⟩
                exact h
      · intro h
        exact h
  · intro h
    intro K37 hKK37
    refine n_cut (h K37) ?_ ?_
    · intro h
      refine hKK37  ?_
      exact h
    · intro h
      refine ⟨fun hc => ?_, fun hc => ?_⟩
      · replace h := h.1 hc
        exact h
      · replace h := h.2 hc
        refine ⟨fun hc => ?_, fun hc => ?_⟩
        · replace h := h.1 hc
          exact h
        · replace h := h.2 hc
          refine ⟨fun hc => ?_, fun hc => ?_⟩
          · replace h := h.1 hc
            exact h
          · replace h := h.2 hc
            exact h
theorem N_X10_isAsSeen {x1 : Int} {v : VT} {q q' : Int → Prop} (h : P_X10_isAsSeen x1 v q) (hq : ∀ r, q r → q' r) : P_X10_isAsSeen x1 v q' := by
  unfold P_X10_isAsSeen at h ⊢
  intro X2 hKX2
  refine n_cut (h X2) ?_ ?_
  · intro i2 h
    refine hKX2 i2 ?_
    refine ⟨fun hc => ?_, fun hc => ?_⟩
    · replace h := h.1 hc
      exact hq _ h
    · replace h := h.2 hc
      obtain ⟨ho1, h⟩ := h
      refine ⟨ho1, ?_⟩
      obtain ⟨ho2, h⟩ := h
      refine ⟨ho2, ?_⟩
      obtain ⟨ho3, h⟩ := h
      refine ⟨ho3, ?_⟩
      obtain ⟨ho4, h⟩ := h
      refine ⟨ho4, ?_⟩
      refine ⟨fun hc => ?_, fun hc => ?_⟩
      · replace h := h.1 hc
        obtain ⟨ho5, h⟩ := h
        refine ⟨ho5, ?_⟩
        exact h
      · replace h := h.2 hc
        exact hq _ h
  · intro h
    exact h
theorem N_X10_fits  {v : VT} {q q' : Int → VT → Prop} (h : P_X10_fits  v q) (hq : ∀ r w, q r w → q' r w) : P_X10_fits  v q' := by
  unfold P_X10_fits at h ⊢
  refine ⟨fun hc => ?_, fun hc => ?_⟩
  · replace h := h.1 hc
    exact hq _ _ h
  · replace h := h.2 hc
    refine N_X10_areNodesStill h (fun r16 h => ?_)
    refine ⟨fun hc => ?_, fun hc => ?_⟩
    · replace h := h.1 hc
      refine N_X10_measured h (fun v25 h => ?_)
      intro X33 hKX33
      refine n_cut (h X33) ?_ ?_
      · intro i1 i2 h
        refine hKX33 i1 i2 ?_
        refine ⟨fun hc => ?_, fun hc => ?_⟩
        · replace h := h.1 hc
          exact hq _ _ h
        · replace h := h.2 hc
          refine N_X10_isAsSeen h (fun r46 h => ?_)
          refine ⟨fun hc => ?_, fun hc => ?_⟩
          · replace h := h.1 hc
            obtain ⟨ho1, h⟩ := h
            refine ⟨ho1, ?_⟩
            exact h
          · replace h := h.2 hc
            intro l1 el1
            replace h := h l1 el1
            obtain ⟨ho2, h⟩ := h
            refine ⟨ho2, ?_⟩
            exact h
      · intro h
        exact h
    · replace h := h.2 hc
      exact hq _ _ h
theorem F_X10_fits  {v : VT} {q : Int → VT → Prop} (h : P_X10_fits  v q) : P_X10_fits  v (fun r w => q r w ∧ ∀ a, ¬ ((138 ≤ a ∧ a ≤ 139) ∨ (141 ≤ a ∧ a ≤ 164)) → w a = v a) := by
  unfold P_X10_fits at h ⊢
  have hf : ∀ a, ¬ ((138 ≤ a ∧ a ≤ 139) ∨ (141 ≤ a ∧ a ≤ 164)) → v a = v a := fun a _ => rfl
  refine ⟨fun hc => ?_, fun hc => ?_⟩
  · replace h := h.1 hc
    exact ⟨h, hf⟩
  · replace h := h.2 hc
    refine N_X10_areNodesStill h (fun r16 h => ?_)
    refine ⟨fun hc => ?_, fun hc => ?_⟩
    · replace h := h.1 hc
      refine N_X10_measured (F_X10_measured h) (fun v25 h => ?_)
      obtain ⟨h, hg⟩ := h
      replace hf : ∀ a, ¬ ((138 ≤ a ∧ a ≤ 139) ∨ (141 ≤ a ∧ a ≤ 164)) → v25 a = v a := fun a ha => by rw [hg a (by omega), hf a ha]
      clear hg
      intro X33 hKX33
      refine n_cut (h X33) ?_ ?_
      · intro i1 i2 h
        refine hKX33 i1 i2 ?_
        refine ⟨fun hc => ?_, fun hc => ?_⟩
        · replace h := h.1 hc
          exact ⟨h, hf⟩
        · replace h := h.2 hc
          refine N_X10_isAsSeen h (fun r46 h => ?_)
          refine ⟨fun hc => ?_, fun hc => ?_⟩
          · replace h := h.1 hc
            obtain ⟨ho1, h⟩ := h
            refine ⟨ho1, ?_⟩
            exact h
          · replace h := h.2 hc
            intro l1 el1
            replace h := h l1 el1
            obtain ⟨ho2, h⟩ := h
            refine ⟨ho2, ?_⟩
            exact h
      · intro h
        exact h
    · replace h := h.2 hc
      exact ⟨h, hf⟩
theorem N_X10_mostLeft {x1 : Int} {x2 : Int} {v : VT} {q q' : Int → VT → Prop} (h : P_X10_mostLeft x1 x2 v q) (hq : ∀ r w, q r w → q' r w) : P_X10_mostLeft x1 x2 v q' := by
  unfold P_X10_mostLeft at h ⊢
  intro K24 hKK24
  refine n_cut (h K24) ?_ ?_
  · intro v24 h
    refine hKK24 v24 ?_
    intro X29 hKX29
    refine n_cut (h X29) ?_ ?_
    · intro i3 i4 v29 h
      refine hKX29 i3 i4 v29 ?_
      refine ⟨fun hc => ?_, fun hc => ?_⟩
      · replace h := h.1 hc
        exact hq _ _ h
      · replace h := h.2 hc
        refine N_X10_hasBit h (fun r44 h => ?_)
        refine ⟨fun hc => ?_, fun hc => ?_⟩
        · replace h := h.1 hc
          obtain ⟨ho1, h⟩ := h
          refine ⟨ho1, ?_⟩
          exact h
        · replace h := h.2 hc
          obtain ⟨ho2, h⟩ := h
          refine ⟨ho2, ?_⟩
          obtain ⟨ho3, h⟩ := h
          refine ⟨ho3, ?_⟩
          intro l5 el5
          replace h := h l5 el5
          intro K77 hKK77
          refine n_cut (h K77) ?_ ?_
          · intro s0 h
            refine hKK77 s0 ?_
            obtain ⟨ho4, h⟩ := h
            refine ⟨ho4, ?_⟩
            obtain ⟨ho5, h⟩ := h
            refine ⟨ho5, ?_⟩
            obtain ⟨ho6, h⟩ := h
            refine ⟨ho6, ?_⟩
            intro v89 ev89
            replace h := h v89 ev89
            obtain ⟨ho7, h⟩ := h
            refine ⟨ho7, ?_⟩
            intro l3 el3
            replace h := h l3 el3
            obtain ⟨ho8, h⟩ := h
            refine ⟨ho8, ?_⟩
            exact h
          · intro h
            refine ⟨fun hc => ?_, fun hc => ?_⟩
            · replace h := h.1 hc
              exact h
            · replace h := h.2 hc
              exact h
    · intro h
      exact h
  · intro h
    intro X2 hKX2
    refine n_cut (h X2) ?_ ?_
    · intro i3_1 v2 h
      refine hKX2 i3_1 v2 ?_
      refine ⟨fun hc => ?_, fun hc => ?_⟩
      · replace h := h.1 hc
        exact h
      · replace h := h.2 hc
        obtain ⟨ho9, h⟩ := h
        refine ⟨ho9, ?_⟩
        intro v17 ev17
        replace h := h v17 ev17
        obtain ⟨ho10, h⟩ := h
        refine ⟨ho10, ?_⟩
        exact h
    · intro h
      exact h
theorem F_X10_mostLeft {x1 : Int} {x2 : Int} {v : VT} {q : Int → VT → Prop} (h : P_X10_mostLeft x1 x2 v q) : P_X10_mostLeft x1 x2 v (fun r w => q r w ∧ ∀ a, ¬ (a = 216) → w a = v a) := by
  unfold P_X10_mostLeft at h ⊢
  have hf : ∀ a, ¬ (a = 216) → v a = v a := fun a _ => rfl
  intro K24 hKK24
  refine n_cut (h (fun (v24 : VT) => (∀ a, ¬ (a = 216) → v24 a = v a) → K24 v24)) ?_ ?_
  · intro v24 h hf
    refine hKK24 v24 ?_
    intro X29 hKX29
    refine n_cut (h (fun (i3 : Int) (i4 : Int) (v29 : VT) => (∀ a, ¬ (a = 216) → v29 a = v a) → X29 i3 i4 v29)) ?_ ?_
    · intro i3 i4 v29 h hf
      refine hKX29 i3 i4 v29 ?_
      refine ⟨fun hc => ?_, fun hc => ?_⟩
      · replace h := h.1 hc
        exact ⟨h, hf⟩
      · replace h := h.2 hc
        refine N_X10_hasBit h (fun r44 h => ?_)
        refine ⟨fun hc => ?_, fun hc => ?_⟩
        · replace h := h.1 hc
          obtain ⟨ho1, h⟩ := h
          refine ⟨ho1, ?_⟩
          exact h hf
        · replace h := h.2 hc
          obtain ⟨ho2, h⟩ := h
          refine ⟨ho2, ?_⟩
          obtain ⟨ho3, h⟩ := h
          refine ⟨ho3, ?_⟩
          intro l5 el5
          replace h := h l5 el5
          intro K77 hKK77
          refine n_cut (h K77) ?_ ?_
          · intro s0 h
            refine hKK77 s0 ?_
            obtain ⟨ho4, h⟩ := h
            refine ⟨ho4, ?_⟩
            obtain ⟨ho5, h⟩ := h
            refine ⟨ho5, ?_⟩
            obtain ⟨ho6, h⟩ := h
            refine ⟨ho6, ?_⟩
            intro v89 ev89
            replace h := h v89 ev89
            replace hf : ∀ a, ¬ (a = 216) → v89 a = v a := fun a ha => by rw [ev89, upd2_off _ _ _ (by omega), hf a ha]
            obtain ⟨ho7, h⟩ := h
            refine ⟨ho7, ?_⟩
            intro l3 el3
            replace h := h l3 el3
            obtain ⟨ho8, h⟩ := h
            refine ⟨ho8, ?_⟩
            exact h hf
          · intro h
            refine ⟨fun hc => ?_, fun hc => ?_⟩
            · replace h := h.1 hc
              exact h
            · replace h := h.2 hc
              exact h
    · intro h
      exact h hf
  · intro h
    intro X2 hKX2
    refine n_cut (h (fun (i3_1 : Int) (v2 : VT) => (∀ a, ¬ (a = 216) → v2 a = v a) → X2 i3_1 v2)) ?_ ?_
    · intro i3_1 v2 h hf
      refine hKX2 i3_1 v2 ?_
      refine ⟨fun hc => ?_, fun hc => ?_⟩
      · replace h := h.1 hc
        exact h hf
      · replace h := h.2 hc
        obtain ⟨ho9, h⟩ := h
        refine ⟨ho9, ?_⟩
        intro v17 ev17
        replace h := h v17 ev17
        replace hf : ∀ a, ¬ (a = 216) → v17 a = v a := fun a ha => by rw [ev17, upd2_off _ _ _ (by omega), hf a ha]
        obtain ⟨ho10, h⟩ := h
        refine ⟨ho10, ?_⟩
        exact h hf
    · intro h
      exact h hf
theorem N_X10_tells {x1 : Int} {v : VT} {q q' : Int → VT → Prop} (h : P_X10_tells x1 v q) (hq : ∀ r w, q r w → q' r w) : P_X10_tells x1 v q' := by
  unfold P_X10_tells at h ⊢
  intro K17 hKK17
  refine n_cut (h K17) ?_ ?_
  · intro s0 v17 h
    refine hKK17 s0 v17 ?_
    refine ⟨fun hc => ?_, fun hc => ?_⟩
    · replace h := h.1 hc
      exact hq _ _ h
    · replace h := h.2 hc
      refine ⟨fun hc => ?_, fun hc => ?_⟩
      · replace h := h.1 hc
        refine N_X10_mostLeft h (fun r34 v34 h => ?_)
        intro X42 hKX42
        refine n_cut (h X42) ?_ ?_
        · intro i3 i4 i5 v42 h
          refine hKX42 i3 i4 i5 v42 ?_
          refine ⟨fun hc => ?_, fun hc => ?_⟩
          · replace h := h.1 hc
            refine ⟨fun hc => ?_, fun hc => ?_⟩
            · replace h := h.1 hc
              exact hq _ _ h
            · replace h := h.2 hc
              exact hq _ _ h
          · replace h := h.2 hc
            refine N_X10_mostLeft h (fun r58 v58 h => ?_)
            refine ⟨fun hc => ?_, fun hc => ?_⟩
            · replace h := h.1 hc
              obtain ⟨ho1, h⟩ := h
              refine ⟨ho1, ?_⟩
              exact h
            · replace h := h.2 hc
              obtain ⟨ho2, h⟩ := h
              refine ⟨ho2, ?_⟩
              exact h
        · intro h
          exact h
      · replace h := h.2 hc
        exact hq _ _ h
  · intro h
    intro K9 hKK9
    refine n_cut (h K9) ?_ ?_
    · intro h
      refine hKK9  ?_
      exact h
    · intro h
      refine ⟨fun hc => ?_, fun hc => ?_⟩
      · replace h := h.1 hc
        exact h
      · replace h := h.2 hc
        refine ⟨fun hc => ?_, fun hc => ?_⟩
        · replace h := h.1 hc
          refine N_X10_fits h (fun r14 v14 h => ?_)
          exact h
        · replace h := h.2 hc
          exact h
theorem F_X10_tells {x1 : Int} {v : VT} {q : Int → VT → Prop} (h : P_X10_tells x1 v q) : P_X10_tells x1 v (fun r w => q r w ∧ ∀ a, ¬ ((138 ≤ a ∧ a ≤ 139) ∨ (141 ≤ a ∧ a ≤ 164) ∨ a = 216) → w a = v a) := by
  unfold P_X10_tells at h ⊢
  have hf : ∀ a, ¬ ((138 ≤ a ∧ a ≤ 139) ∨ (141 ≤ a ∧ a ≤ 164) ∨ a = 216) → v a = v a := fun a _ => rfl
  intro K17 hKK17
  refine n_cut (h (fun (s0 : Int) (v17 : VT) => (∀ a, ¬ ((138 ≤ a ∧ a ≤ 139) ∨ (141 ≤ a ∧ a ≤ 164) ∨ a = 216) → v17 a = v a) → K17 s0 v17)) ?_ ?_
  · intro s0 v17 h hf
    refine hKK17 s0 v17 ?_
    refine ⟨fun hc => ?_, fun hc => ?_⟩
    · replace h := h.1 hc
      exact ⟨h, hf⟩
    · replace h := h.2 hc
      refine ⟨fun hc => ?_, fun hc => ?_⟩
      · replace h := h.1 hc
        refine N_X10_mostLeft (F_X10_mostLeft h) (fun r34 v34 h => ?_)
        obtain ⟨h, hg⟩ := h
        replace hf : ∀ a, ¬ ((138 ≤ a ∧ a ≤ 139) ∨ (141 ≤ a ∧ a ≤ 164) ∨ a = 216) → v34 a = v a := fun a ha => by rw [hg a (by omega), hf a ha]
        clear hg
        intro X42 hKX42
        refine n_cut (h (fun (i3 : Int) (i4 : Int) (i5 : Int) (v42 : VT) => (∀ a, ¬ ((138 ≤ a ∧ a ≤ 139) ∨ (141 ≤ a ∧ a ≤ 164) ∨ a = 216) → v42 a = v a) → X42 i3 i4 i5 v42)) ?_ ?_
        · intro i3 i4 i5 v42 h hf
          refine hKX42 i3 i4 i5 v42 ?_
          refine ⟨fun hc => ?_, fun hc => ?_⟩
          · replace h := h.1 hc
            refine ⟨fun hc => ?_, fun hc => ?_⟩
            · replace h := h.1 hc
              exact ⟨h, hf⟩
            · replace h := h.2 hc
              exact ⟨h, hf⟩
          · replace h := h.2 hc
            refine N_X10_mostLeft (F_X10_mostLeft h) (fun r58 v58 h => ?_)
            obtain ⟨h, hg⟩ := h
            replace hf : ∀ a, ¬ ((138 ≤ a ∧ a ≤ 139) ∨ (141 ≤ a ∧ a ≤ 164) ∨ a = 216) → v58 a = v a := fun a ha => by rw [hg a (by omega), hf a ha]
            clear hg
            refine ⟨fun hc => ?_, fun hc => ?_⟩
            · replace h := h.1 hc
              obtain ⟨ho1, h⟩ := h
              refine ⟨ho1, ?_⟩
              exact h hf
            · replace h := h.2 hc
              obtain ⟨ho2, h⟩ := h
              refine ⟨ho2, ?_⟩
              exact h hf
        · intro h
          exact h hf
      · replace h := h.2 hc
        exact ⟨h, hf⟩
  · intro h
    intro K9 hKK9
    refine n_cut (h K9) ?_ ?_
    · intro h
      refine hKK9  ?_
      exact h hf
    · intro h
      refine ⟨fun hc => ?_, fun hc => ?_⟩
      · replace h := h.1 hc
        exact h
      · replace h := h.2 hc
        refine ⟨fun hc => ?_, fun hc => ?_⟩
        · replace h := h.1 hc
          refine N_X10_fits (F_X10_fits h) (fun r14 v14 h => ?_)
          obtain ⟨h, hg⟩ := h
          replace hf : ∀ a, ¬ ((138 ≤ a ∧ a ≤ 139) ∨ (141 ≤ a ∧ a ≤ 164) ∨ a = 216) → v14 a = v a := fun a ha => by rw [hg a (by omega), hf a ha]
          clear hg
          exact h hf
        · replace h := h.2 hc
          exact h
theorem N_X10_join {x1 : Int} {x2 : Int} {v : VT} {q q' : Int → VT → Prop} (h : P_X10_join x1 x2 v q) (hq : ∀ r w, q r w → q' r w) : P_X10_join x1 x2 v q' := by
  unfold P_X10_join at h ⊢
  refine N_X0_canJoin h (fun r6 h => ?_)
  refine ⟨fun hc => ?_, fun hc => ?_⟩
  · replace h := h.1 hc
    refine N_X3_keep h (fun v26 h => ?_)
    refine N_X0_addLine h (fun v36 h => ?_)
    refine N_X10_changed h (fun v40 h => ?_)
    obtain ⟨ho1, h⟩ := h
    refine ⟨ho1, ?_⟩
    exact hq _ _ h
  · replace h := h.2 hc
    refine N_X10_refuse h (fun r14 v14 h => ?_)
    exact hq _ _ h
theorem F_X10_join {x1 : Int} {x2 : Int} {v : VT} {q : Int → VT → Prop} (h : P_X10_join x1 x2 v q) : P_X10_join x1 x2 v (fun r w => q r w ∧ ∀ a, ¬ (a = 10 ∨ (12 ≤ a ∧ a ≤ 14) ∨ a = 16 ∨ (18 ≤ a ∧ a ≤ 138) ∨ a = 191 ∨ a = 197 ∨ a = 217) → w a = v a) := by
  unfold P_X10_join at h ⊢
  have hf : ∀ a, ¬ (a = 10 ∨ (12 ≤ a ∧ a ≤ 14) ∨ a = 16 ∨ (18 ≤ a ∧ a ≤ 138) ∨ a = 191 ∨ a = 197 ∨ a = 217) → v a = v a := fun a _ => rfl
  refine N_X0_canJoin h (fun r6 h => ?_)
  refine ⟨fun hc => ?_, fun hc => ?_⟩
  · replace h := h.1 hc
    refine N_X3_keep (F_X3_keep h) (fun v26 h => ?_)
    obtain ⟨h, hg⟩ := h
    replace hf : ∀ a, ¬ (a = 10 ∨ (12 ≤ a ∧ a ≤ 14) ∨ a = 16 ∨ (18 ≤ a ∧ a ≤ 138) ∨ a = 191 ∨ a = 197 ∨ a = 217) → v26 a = v a := fun a ha => by rw [hg a (by omega), hf a ha]
    clear hg
    refine N_X0_addLine (F_X0_addLine h) (fun v36 h => ?_)
    obtain ⟨h, hg⟩ := h
    replace hf : ∀ a, ¬ (a = 10 ∨ (12 ≤ a ∧ a ≤ 14) ∨ a = 16 ∨ (18 ≤ a ∧ a ≤ 138) ∨ a = 191 ∨ a = 197 ∨ a = 217) → v36 a = v a := fun a ha => by rw [hg a (by omega), hf a ha]
    clear hg
    refine N_X10_changed (F_X10_changed h) (fun v40 h => ?_)
    obtain ⟨h, hg⟩ := h
    replace hf : ∀ a, ¬ (a = 10 ∨ (12 ≤ a ∧ a ≤ 14) ∨ a = 16 ∨ (18 ≤ a ∧ a ≤ 138) ∨ a = 191 ∨ a = 197 ∨ a = 217) → v40 a = v a := fun a ha => by rw [hg a (by omega), hf a ha]
    clear hg
    obtain ⟨ho1, h⟩ := h
    refine ⟨ho1, ?_⟩
    exact ⟨h, hf⟩
  · replace h := h.2 hc
    refine N_X10_refuse (F_X10_refuse h) (fun r14 v14 h => ?_)
    obtain ⟨h, hg⟩ := h
    replace hf : ∀ a, ¬ (a = 10 ∨ (12 ≤ a ∧ a ≤ 14) ∨ a = 16 ∨ (18 ≤ a ∧ a ≤ 138) ∨ a = 191 ∨ a = 197 ∨ a = 217) → v14 a = v a := fun a ha => by rw [hg a (by omega), hf a ha]
    clear hg
    exact ⟨h, hf⟩
theorem N_X10_cut {x1 : Int} {v : VT} {q q' : Int → VT → Prop} (h : P_X10_cut x1 v q) (hq : ∀ r w, q r w → q' r w) : P_X10_cut x1 v q' := by
  unfold P_X10_cut at h ⊢
  refine N_X0_isLine h (fun r5 h => ?_)
  refine ⟨fun hc => ?_, fun hc => ?_⟩
  · replace h := h.1 hc
    refine N_X3_keep h (fun v25 h => ?_)
    refine N_X0_removeLine h (fun v33 h => ?_)
    refine N_X10_changed h (fun v37 h => ?_)
    exact hq _ _ h
  · replace h := h.2 hc
    refine N_X10_deny h (fun r13 v13 h => ?_)
    obtain ⟨ho1, h⟩ := h
    refine ⟨ho1, ?_⟩
    exact hq _ _ h
theorem F_X10_cut {x1 : Int} {v : VT} {q : Int → VT → Prop} (h : P_X10_cut x1 v q) : P_X10_cut x1 v (fun r w => q r w ∧ ∀ a, ¬ (a = 10 ∨ (12 ≤ a ∧ a ≤ 14) ∨ a = 16 ∨ (18 ≤ a ∧ a ≤ 138) ∨ a = 191 ∨ a = 197 ∨ a = 217) → w a = v a) := by
  unfold P_X10_cut at h ⊢
  have hf : ∀ a, ¬ (a = 10 ∨ (12 ≤ a ∧ a ≤ 14) ∨ a = 16 ∨ (18 ≤ a ∧ a ≤ 138) ∨ a = 191 ∨ a = 197 ∨ a = 217) → v a = v a := fun a _ => rfl
  refine N_X0_isLine h (fun r5 h => ?_)
  refine ⟨fun hc => ?_, fun hc => ?_⟩
  · replace h := h.1 hc
    refine N_X3_keep (F_X3_keep h) (fun v25 h => ?_)
    obtain ⟨h, hg⟩ := h
    replace hf : ∀ a, ¬ (a = 10 ∨ (12 ≤ a ∧ a ≤ 14) ∨ a = 16 ∨ (18 ≤ a ∧ a ≤ 138) ∨ a = 191 ∨ a = 197 ∨ a = 217) → v25 a = v a := fun a ha => by rw [hg a (by omega), hf a ha]
    clear hg
    refine N_X0_removeLine (F_X0_removeLine h) (fun v33 h => ?_)
    obtain ⟨h, hg⟩ := h
    replace hf : ∀ a, ¬ (a = 10 ∨ (12 ≤ a ∧ a ≤ 14) ∨ a = 16 ∨ (18 ≤ a ∧ a ≤ 138) ∨ a = 191 ∨ a = 197 ∨ a = 217) → v33 a = v a := fun a ha => by rw [hg a (by omega), hf a ha]
    clear hg
    refine N_X10_changed (F_X10_changed h) (fun v37 h => ?_)
    obtain ⟨h, hg⟩ := h
    replace hf : ∀ a, ¬ (a = 10 ∨ (12 ≤ a ∧ a ≤ 14) ∨ a = 16 ∨ (18 ≤ a ∧ a ≤ 138) ∨ a = 191 ∨ a = 197 ∨ a = 217) → v37 a = v a := fun a ha => by rw [hg a (by omega), hf a ha]
    clear hg
    exact ⟨h, hf⟩
  · replace h := h.2 hc
    refine N_X10_deny (F_X10_deny h) (fun r13 v13 h => ?_)
    obtain ⟨h, hg⟩ := h
    replace hf : ∀ a, ¬ (a = 10 ∨ (12 ≤ a ∧ a ≤ 14) ∨ a = 16 ∨ (18 ≤ a ∧ a ≤ 138) ∨ a = 191 ∨ a = 197 ∨ a = 217) → v13 a = v a := fun a ha => by rw [hg a (by omega), hf a ha]
    clear hg
    obtain ⟨ho1, h⟩ := h
    refine ⟨ho1, ?_⟩
    exact ⟨h, hf⟩
theorem N_X10_toll {x1 : Int} {x2 : Int} {v : VT} {q q' : Int → VT → Prop} (h : P_X10_toll x1 x2 v q) (hq : ∀ r w, q r w → q' r w) : P_X10_toll x1 x2 v q' := by
  unfold P_X10_toll at h ⊢
  refine N_X0_isLine h (fun r5 h => ?_)
  refine ⟨fun hc => ?_, fun hc => ?_⟩
  · replace h := h.1 hc
    refine N_X10_deny h (fun r37 v37 h => ?_)
    obtain ⟨ho1, h⟩ := h
    refine ⟨ho1, ?_⟩
    exact hq _ _ h
  · replace h := h.2 hc
    refine ⟨fun hc => ?_, fun hc => ?_⟩
    · replace h := h.1 hc
      refine N_X10_deny h (fun r37_1 v37_1 h => ?_)
      obtain ⟨ho2, h⟩ := h
      refine ⟨ho2, ?_⟩
      exact hq _ _ h
    · replace h := h.2 hc
      refine ⟨fun hc => ?_, fun hc => ?_⟩
      · replace h := h.1 hc
        refine N_X10_deny h (fun r37_2 v37_2 h => ?_)
        obtain ⟨ho3, h⟩ := h
        refine ⟨ho3, ?_⟩
        exact hq _ _ h
      · replace h := h.2 hc
        obtain ⟨ho4, h⟩ := h
        refine ⟨ho4, ?_⟩
        refine ⟨fun hc => ?_, fun hc => ?_⟩
        · replace h := h.1 hc
          refine N_X3_keep h (fun v49 h => ?_)
          obtain ⟨ho5, h⟩ := h
          refine ⟨ho5, ?_⟩
          intro v61 ev61
          replace h := h v61 ev61
          exact hq _ _ h
        · replace h := h.2 hc
          refine N_X10_deny h (fun r37_3 v37_3 h => ?_)
          obtain ⟨ho6, h⟩ := h
          refine ⟨ho6, ?_⟩
          exact hq _ _ h
theorem F_X10_toll {x1 : Int} {x2 : Int} {v : VT} {q : Int → VT → Prop} (h : P_X10_toll x1 x2 v q) : P_X10_toll x1 x2 v (fun r w => q r w ∧ ∀ a, ¬ (a = 14 ∨ a = 16 ∨ (18 ≤ a ∧ a ≤ 137) ∨ a = 217) → w a = v a) := by
  unfold P_X10_toll at h ⊢
  have hf : ∀ a, ¬ (a = 14 ∨ a = 16 ∨ (18 ≤ a ∧ a ≤ 137) ∨ a = 217) → v a = v a := fun a _ => rfl
  refine N_X0_isLine h (fun r5 h => ?_)
  refine ⟨fun hc => ?_, fun hc => ?_⟩
  · replace h := h.1 hc
    refine N_X10_deny (F_X10_deny h) (fun r37 v37 h => ?_)
    obtain ⟨h, hg⟩ := h
    replace hf : ∀ a, ¬ (a = 14 ∨ a = 16 ∨ (18 ≤ a ∧ a ≤ 137) ∨ a = 217) → v37 a = v a := fun a ha => by rw [hg a (by omega), hf a ha]
    clear hg
    obtain ⟨ho1, h⟩ := h
    refine ⟨ho1, ?_⟩
    exact ⟨h, hf⟩
  · replace h := h.2 hc
    refine ⟨fun hc => ?_, fun hc => ?_⟩
    · replace h := h.1 hc
      refine N_X10_deny (F_X10_deny h) (fun r37_1 v37_1 h => ?_)
      obtain ⟨h, hg⟩ := h
      replace hf : ∀ a, ¬ (a = 14 ∨ a = 16 ∨ (18 ≤ a ∧ a ≤ 137) ∨ a = 217) → v37_1 a = v a := fun a ha => by rw [hg a (by omega), hf a ha]
      clear hg
      obtain ⟨ho2, h⟩ := h
      refine ⟨ho2, ?_⟩
      exact ⟨h, hf⟩
    · replace h := h.2 hc
      refine ⟨fun hc => ?_, fun hc => ?_⟩
      · replace h := h.1 hc
        refine N_X10_deny (F_X10_deny h) (fun r37_2 v37_2 h => ?_)
        obtain ⟨h, hg⟩ := h
        replace hf : ∀ a, ¬ (a = 14 ∨ a = 16 ∨ (18 ≤ a ∧ a ≤ 137) ∨ a = 217) → v37_2 a = v a := fun a ha => by rw [hg a (by omega), hf a ha]
        clear hg
        obtain ⟨ho3, h⟩ := h
        refine ⟨ho3, ?_⟩
        exact ⟨h, hf⟩
      · replace h := h.2 hc
        obtain ⟨ho4, h⟩ := h
        refine ⟨ho4, ?_⟩
        refine ⟨fun hc => ?_, fun hc => ?_⟩
        · replace h := h.1 hc
          refine N_X3_keep (F_X3_keep h) (fun v49 h => ?_)
          obtain ⟨h, hg⟩ := h
          replace hf : ∀ a, ¬ (a = 14 ∨ a = 16 ∨ (18 ≤ a ∧ a ≤ 137) ∨ a = 217) → v49 a = v a := fun a ha => by rw [hg a (by omega), hf a ha]
          clear hg
          obtain ⟨ho5, h⟩ := h
          refine ⟨ho5, ?_⟩
          intro v61 ev61
          replace h := h v61 ev61
          replace hf : ∀ a, ¬ (a = 14 ∨ a = 16 ∨ (18 ≤ a ∧ a ≤ 137) ∨ a = 217) → v61 a = v a := fun a ha => by rw [ev61, upd2_off _ _ _ (by omega), hf a ha]
          exact ⟨h, hf⟩
        · replace h := h.2 hc
          refine N_X10_deny (F_X10_deny h) (fun r37_3 v37_3 h => ?_)
          obtain ⟨h, hg⟩ := h
          replace hf : ∀ a, ¬ (a = 14 ∨ a = 16 ∨ (18 ≤ a ∧ a ≤ 137) ∨ a = 217) → v37_3 a = v a := fun a ha => by rw [hg a (by omega), hf a ha]
          clear hg
          obtain ⟨ho6, h⟩ := h
          refine ⟨ho6, ?_⟩
          exact ⟨h, hf⟩
theorem N_X10_grow {x1 : Int} {v : VT} {q q' : Int → VT → Prop} (h : P_X10_grow x1 v q) (hq : ∀ r w, q r w → q' r w) : P_X10_grow x1 v q' := by
  unfold P_X10_grow at h ⊢
  refine N_X0_canGrow h (fun r5 h => ?_)
  refine ⟨fun hc => ?_, fun hc => ?_⟩
  · replace h := h.1 hc
    refine N_X3_keep h (fun v25 h => ?_)
    refine N_X0_addLeaf h (fun v33 h => ?_)
    refine N_X10_changed h (fun v37 h => ?_)
    obtain ⟨ho1, h⟩ := h
    refine ⟨ho1, ?_⟩
    exact hq _ _ h
  · replace h := h.2 hc
    refine N_X10_refuse h (fun r13 v13 h => ?_)
    exact hq _ _ h
theorem F_X10_grow {x1 : Int} {v : VT} {q : Int → VT → Prop} (h : P_X10_grow x1 v q) : P_X10_grow x1 v (fun r w => q r w ∧ ∀ a, ¬ ((10 ≤ a ∧ a ≤ 14) ∨ a = 16 ∨ (18 ≤ a ∧ a ≤ 138) ∨ a = 191 ∨ a = 197 ∨ a = 217) → w a = v a) := by
  unfold P_X10_grow at h ⊢
  have hf : ∀ a, ¬ ((10 ≤ a ∧ a ≤ 14) ∨ a = 16 ∨ (18 ≤ a ∧ a ≤ 138) ∨ a = 191 ∨ a = 197 ∨ a = 217) → v a = v a := fun a _ => rfl
  refine N_X0_canGrow h (fun r5 h => ?_)
  refine ⟨fun hc => ?_, fun hc => ?_⟩
  · replace h := h.1 hc
    refine N_X3_keep (F_X3_keep h) (fun v25 h => ?_)
    obtain ⟨h, hg⟩ := h
    replace hf : ∀ a, ¬ ((10 ≤ a ∧ a ≤ 14) ∨ a = 16 ∨ (18 ≤ a ∧ a ≤ 138) ∨ a = 191 ∨ a = 197 ∨ a = 217) → v25 a = v a := fun a ha => by rw [hg a (by omega), hf a ha]
    clear hg
    refine N_X0_addLeaf (F_X0_addLeaf h) (fun v33 h => ?_)
    obtain ⟨h, hg⟩ := h
    replace hf : ∀ a, ¬ ((10 ≤ a ∧ a ≤ 14) ∨ a = 16 ∨ (18 ≤ a ∧ a ≤ 138) ∨ a = 191 ∨ a = 197 ∨ a = 217) → v33 a = v a := fun a ha => by rw [hg a (by omega), hf a ha]
    clear hg
    refine N_X10_changed (F_X10_changed h) (fun v37 h => ?_)
    obtain ⟨h, hg⟩ := h
    replace hf : ∀ a, ¬ ((10 ≤ a ∧ a ≤ 14) ∨ a = 16 ∨ (18 ≤ a ∧ a ≤ 138) ∨ a = 191 ∨ a = 197 ∨ a = 217) → v37 a = v a := fun a ha => by rw [hg a (by omega), hf a ha]
    clear hg
    obtain ⟨ho1, h⟩ := h
    refine ⟨ho1, ?_⟩
    exact ⟨h, hf⟩
  · replace h := h.2 hc
    refine N_X10_refuse (F_X10_refuse h) (fun r13 v13 h => ?_)
    obtain ⟨h, hg⟩ := h
    replace hf : ∀ a, ¬ ((10 ≤ a ∧ a ≤ 14) ∨ a = 16 ∨ (18 ≤ a ∧ a ≤ 138) ∨ a = 191 ∨ a = 197 ∨ a = 217) → v13 a = v a := fun a ha => by rw [hg a (by omega), hf a ha]
    clear hg
    exact ⟨h, hf⟩
theorem N_X10_drop {x1 : Int} {v : VT} {q q' : Int → VT → Prop} (h : P_X10_drop x1 v q) (hq : ∀ r w, q r w → q' r w) : P_X10_drop x1 v q' := by
  unfold P_X10_drop at h ⊢
  refine N_X0_isNode h (fun r5 h => ?_)
  refine ⟨fun hc => ?_, fun hc => ?_⟩
  · replace h := h.1 hc
    refine N_X10_deny h (fun r24 v24 h => ?_)
    obtain ⟨ho1, h⟩ := h
    refine ⟨ho1, ?_⟩
    exact hq _ _ h
  · replace h := h.2 hc
    refine ⟨fun hc => ?_, fun hc => ?_⟩
    · replace h := h.1 hc
      refine N_X3_keep h (fun v36 h => ?_)
      refine N_X0_removeNode h (fun v44 h => ?_)
      refine N_X10_changed h (fun v48 h => ?_)
      exact hq _ _ h
    · replace h := h.2 hc
      refine N_X10_deny h (fun r24_1 v24_1 h => ?_)
      obtain ⟨ho2, h⟩ := h
      refine ⟨ho2, ?_⟩
      exact hq _ _ h
theorem F_X10_drop {x1 : Int} {v : VT} {q : Int → VT → Prop} (h : P_X10_drop x1 v q) : P_X10_drop x1 v (fun r w => q r w ∧ ∀ a, ¬ ((10 ≤ a ∧ a ≤ 14) ∨ a = 16 ∨ (18 ≤ a ∧ a ≤ 138) ∨ a = 191 ∨ a = 197 ∨ a = 217) → w a = v a) := by
  unfold P_X10_drop at h ⊢
  have hf : ∀ a, ¬ ((10 ≤ a ∧ a ≤ 14) ∨ a = 16 ∨ (18 ≤ a ∧ a ≤ 138) ∨ a = 191 ∨ a = 197 ∨ a = 217) → v a = v a := fun a _ => rfl
  refine N_X0_isNode h (fun r5 h => ?_)
  refine ⟨fun hc => ?_, fun hc => ?_⟩
  · replace h := h.1 hc
    refine N_X10_deny (F_X10_deny h) (fun r24 v24 h => ?_)
    obtain ⟨h, hg⟩ := h
    replace hf : ∀ a, ¬ ((10 ≤ a ∧ a ≤ 14) ∨ a = 16 ∨ (18 ≤ a ∧ a ≤ 138) ∨ a = 191 ∨ a = 197 ∨ a = 217) → v24 a = v a := fun a ha => by rw [hg a (by omega), hf a ha]
    clear hg
    obtain ⟨ho1, h⟩ := h
    refine ⟨ho1, ?_⟩
    exact ⟨h, hf⟩
  · replace h := h.2 hc
    refine ⟨fun hc => ?_, fun hc => ?_⟩
    · replace h := h.1 hc
      refine N_X3_keep (F_X3_keep h) (fun v36 h => ?_)
      obtain ⟨h, hg⟩ := h
      replace hf : ∀ a, ¬ ((10 ≤ a ∧ a ≤ 14) ∨ a = 16 ∨ (18 ≤ a ∧ a ≤ 138) ∨ a = 191 ∨ a = 197 ∨ a = 217) → v36 a = v a := fun a ha => by rw [hg a (by omega), hf a ha]
      clear hg
      refine N_X0_removeNode (F_X0_removeNode h) (fun v44 h => ?_)
      obtain ⟨h, hg⟩ := h
      replace hf : ∀ a, ¬ ((10 ≤ a ∧ a ≤ 14) ∨ a = 16 ∨ (18 ≤ a ∧ a ≤ 138) ∨ a = 191 ∨ a = 197 ∨ a = 217) → v44 a = v a := fun a ha => by rw [hg a (by omega), hf a ha]
      clear hg
      refine N_X10_changed (F_X10_changed h) (fun v48 h => ?_)
      obtain ⟨h, hg⟩ := h
      replace hf : ∀ a, ¬ ((10 ≤ a ∧ a ≤ 14) ∨ a = 16 ∨ (18 ≤ a ∧ a ≤ 138) ∨ a = 191 ∨ a = 197 ∨ a = 217) → v48 a = v a := fun a ha => by rw [hg a (by omega), hf a ha]
      clear hg
      exact ⟨h, hf⟩
    · replace h := h.2 hc
      refine N_X10_deny (F_X10_deny h) (fun r24_1 v24_1 h => ?_)
      obtain ⟨h, hg⟩ := h
      replace hf : ∀ a, ¬ ((10 ≤ a ∧ a ≤ 14) ∨ a = 16 ∨ (18 ≤ a ∧ a ≤ 138) ∨ a = 191 ∨ a = 197 ∨ a = 217) → v24_1 a = v a := fun a ha => by rw [hg a (by omega), hf a ha]
      clear hg
      obtain ⟨ho2, h⟩ := h
      refine ⟨ho2, ?_⟩
      exact ⟨h, hf⟩
theorem N_X10_pressKind {x1 : Int} {v : VT} {q q' : VT → Prop} (h : P_X10_pressKind x1 v q) (hq : ∀ w, q w → q' w) : P_X10_pressKind x1 v q' := by
  unfold P_X10_pressKind at h ⊢
  refine N_X1_gather h (fun v9 h => ?_)
  refine N_X0_merge h (fun v23 h => ?_)
  refine N_X10_changed h (fun v27 h => ?_)
  exact hq _ h
theorem F_X10_pressKind {x1 : Int} {v : VT} {q : VT → Prop} (h : P_X10_pressKind x1 v q) : P_X10_pressKind x1 v (fun w => q w ∧ ∀ a, ¬ ((10 ≤ a ∧ a ≤ 15) ∨ a = 138 ∨ a = 191 ∨ a = 195 ∨ a = 197) → w a = v a) := by
  unfold P_X10_pressKind at h ⊢
  have hf : ∀ a, ¬ ((10 ≤ a ∧ a ≤ 15) ∨ a = 138 ∨ a = 191 ∨ a = 195 ∨ a = 197) → v a = v a := fun a _ => rfl
  refine N_X1_gather (F_X1_gather h) (fun v9 h => ?_)
  obtain ⟨h, hg⟩ := h
  replace hf : ∀ a, ¬ ((10 ≤ a ∧ a ≤ 15) ∨ a = 138 ∨ a = 191 ∨ a = 195 ∨ a = 197) → v9 a = v a := fun a ha => by rw [hg a (by omega), hf a ha]
  clear hg
  refine N_X0_merge (F_X0_merge h) (fun v23 h => ?_)
  obtain ⟨h, hg⟩ := h
  replace hf : ∀ a, ¬ ((10 ≤ a ∧ a ≤ 15) ∨ a = 138 ∨ a = 191 ∨ a = 195 ∨ a = 197) → v23 a = v a := fun a ha => by rw [hg a (by omega), hf a ha]
  clear hg
  refine N_X10_changed (F_X10_changed h) (fun v27 h => ?_)
  obtain ⟨h, hg⟩ := h
  replace hf : ∀ a, ¬ ((10 ≤ a ∧ a ≤ 15) ∨ a = 138 ∨ a = 191 ∨ a = 195 ∨ a = 197) → v27 a = v a := fun a ha => by rw [hg a (by omega), hf a ha]
  clear hg
  exact ⟨h, hf⟩
theorem N_X10_press {x1 : Int} {v : VT} {q q' : Int → VT → Prop} (h : P_X10_press x1 v q) (hq : ∀ r w, q r w → q' r w) : P_X10_press x1 v q' := by
  unfold P_X10_press at h ⊢
  refine N_X10_isKind h (fun r2 v2 h => ?_)
  refine ⟨fun hc => ?_, fun hc => ?_⟩
  · replace h := h.1 hc
    refine N_X3_keep h (fun v22 h => ?_)
    refine N_X10_pressKind h (fun v27 h => ?_)
    exact hq _ _ h
  · replace h := h.2 hc
    refine N_X10_refuse h (fun r10 v10 h => ?_)
    exact hq _ _ h
theorem F_X10_press {x1 : Int} {v : VT} {q : Int → VT → Prop} (h : P_X10_press x1 v q) : P_X10_press x1 v (fun r w => q r w ∧ ∀ a, ¬ ((10 ≤ a ∧ a ≤ 16) ∨ (18 ≤ a ∧ a ≤ 139) ∨ (141 ≤ a ∧ a ≤ 164) ∨ (191 ≤ a ∧ a ≤ 197) ∨ a = 217) → w a = v a) := by
  unfold P_X10_press at h ⊢
  have hf : ∀ a, ¬ ((10 ≤ a ∧ a ≤ 16) ∨ (18 ≤ a ∧ a ≤ 139) ∨ (141 ≤ a ∧ a ≤ 164) ∨ (191 ≤ a ∧ a ≤ 197) ∨ a = 217) → v a = v a := fun a _ => rfl
  refine N_X10_isKind (F_X10_isKind h) (fun r2 v2 h => ?_)
  obtain ⟨h, hg⟩ := h
  replace hf : ∀ a, ¬ ((10 ≤ a ∧ a ≤ 16) ∨ (18 ≤ a ∧ a ≤ 139) ∨ (141 ≤ a ∧ a ≤ 164) ∨ (191 ≤ a ∧ a ≤ 197) ∨ a = 217) → v2 a = v a := fun a ha => by rw [hg a (by omega), hf a ha]
  clear hg
  refine ⟨fun hc => ?_, fun hc => ?_⟩
  · replace h := h.1 hc
    refine N_X3_keep (F_X3_keep h) (fun v22 h => ?_)
    obtain ⟨h, hg⟩ := h
    replace hf : ∀ a, ¬ ((10 ≤ a ∧ a ≤ 16) ∨ (18 ≤ a ∧ a ≤ 139) ∨ (141 ≤ a ∧ a ≤ 164) ∨ (191 ≤ a ∧ a ≤ 197) ∨ a = 217) → v22 a = v a := fun a ha => by rw [hg a (by omega), hf a ha]
    clear hg
    refine N_X10_pressKind (F_X10_pressKind h) (fun v27 h => ?_)
    obtain ⟨h, hg⟩ := h
    replace hf : ∀ a, ¬ ((10 ≤ a ∧ a ≤ 16) ∨ (18 ≤ a ∧ a ≤ 139) ∨ (141 ≤ a ∧ a ≤ 164) ∨ (191 ≤ a ∧ a ≤ 197) ∨ a = 217) → v27 a = v a := fun a ha => by rw [hg a (by omega), hf a ha]
    clear hg
    exact ⟨h, hf⟩
  · replace h := h.2 hc
    refine N_X10_refuse (F_X10_refuse h) (fun r10 v10 h => ?_)
    obtain ⟨h, hg⟩ := h
    replace hf : ∀ a, ¬ ((10 ≤ a ∧ a ≤ 16) ∨ (18 ≤ a ∧ a ≤ 139) ∨ (141 ≤ a ∧ a ≤ 164) ∨ (191 ≤ a ∧ a ≤ 197) ∨ a = 217) → v10 a = v a := fun a ha => by rw [hg a (by omega), hf a ha]
    clear hg
    exact ⟨h, hf⟩
theorem N_X10_open {x1 : Int} {x2 : Int} {v : VT} {q q' : Int → VT → Prop} (h : P_X10_open x1 x2 v q) (hq : ∀ r w, q r w → q' r w) : P_X10_open x1 x2 v q' := by
  unfold P_X10_open at h ⊢
  refine N_X0_canOpen h (fun r6 h => ?_)
  refine ⟨fun hc => ?_, fun hc => ?_⟩
  · replace h := h.1 hc
    refine N_X3_keep h (fun v26 h => ?_)
    refine N_X0_doubleAlong h (fun v35 h => ?_)
    refine N_X10_changed h (fun v39 h => ?_)
    exact hq _ _ h
  · replace h := h.2 hc
    refine N_X10_refuse h (fun r14 v14 h => ?_)
    exact hq _ _ h
theorem F_X10_open {x1 : Int} {x2 : Int} {v : VT} {q : Int → VT → Prop} (h : P_X10_open x1 x2 v q) : P_X10_open x1 x2 v (fun r w => q r w ∧ ∀ a, ¬ ((10 ≤ a ∧ a ≤ 16) ∨ (18 ≤ a ∧ a ≤ 138) ∨ a = 191 ∨ a = 197 ∨ a = 217) → w a = v a) := by
  unfold P_X10_open at h ⊢
  have hf : ∀ a, ¬ ((10 ≤ a ∧ a ≤ 16) ∨ (18 ≤ a ∧ a ≤ 138) ∨ a = 191 ∨ a = 197 ∨ a = 217) → v a = v a := fun a _ => rfl
  refine N_X0_canOpen h (fun r6 h => ?_)
  refine ⟨fun hc => ?_, fun hc => ?_⟩
  · replace h := h.1 hc
    refine N_X3_keep (F_X3_keep h) (fun v26 h => ?_)
    obtain ⟨h, hg⟩ := h
    replace hf : ∀ a, ¬ ((10 ≤ a ∧ a ≤ 16) ∨ (18 ≤ a ∧ a ≤ 138) ∨ a = 191 ∨ a = 197 ∨ a = 217) → v26 a = v a := fun a ha => by rw [hg a (by omega), hf a ha]
    clear hg
    refine N_X0_doubleAlong (F_X0_doubleAlong h) (fun v35 h => ?_)
    obtain ⟨h, hg⟩ := h
    replace hf : ∀ a, ¬ ((10 ≤ a ∧ a ≤ 16) ∨ (18 ≤ a ∧ a ≤ 138) ∨ a = 191 ∨ a = 197 ∨ a = 217) → v35 a = v a := fun a ha => by rw [hg a (by omega), hf a ha]
    clear hg
    refine N_X10_changed (F_X10_changed h) (fun v39 h => ?_)
    obtain ⟨h, hg⟩ := h
    replace hf : ∀ a, ¬ ((10 ≤ a ∧ a ≤ 16) ∨ (18 ≤ a ∧ a ≤ 138) ∨ a = 191 ∨ a = 197 ∨ a = 217) → v39 a = v a := fun a ha => by rw [hg a (by omega), hf a ha]
    clear hg
    exact ⟨h, hf⟩
  · replace h := h.2 hc
    refine N_X10_refuse (F_X10_refuse h) (fun r14 v14 h => ?_)
    obtain ⟨h, hg⟩ := h
    replace hf : ∀ a, ¬ ((10 ≤ a ∧ a ≤ 16) ∨ (18 ≤ a ∧ a ≤ 138) ∨ a = 191 ∨ a = 197 ∨ a = 217) → v14 a = v a := fun a ha => by rw [hg a (by omega), hf a ha]
    clear hg
    exact ⟨h, hf⟩
theorem N_X10_draw {x1 : Int} {v : VT} {q q' : Int → VT → Prop} (h : P_X10_draw x1 v q) (hq : ∀ r w, q r w → q' r w) : P_X10_draw x1 v q' := by
  unfold P_X10_draw at h ⊢
  intro v17 ev17
  replace h := h v17 ev17
  refine ⟨fun hc => ?_, fun hc => ?_⟩
  · replace h := h.1 hc
    exact hq _ _ h
  · replace h := h.2 hc
    obtain ⟨ho1, h⟩ := h
    refine ⟨ho1, ?_⟩
    exact hq _ _ h
theorem F_X10_draw {x1 : Int} {v : VT} {q : Int → VT → Prop} (h : P_X10_draw x1 v q) : P_X10_draw x1 v (fun r w => q r w ∧ ∀ a, ¬ (a = 0) → w a = v a) := by
  unfold P_X10_draw at h ⊢
  have hf : ∀ a, ¬ (a = 0) → v a = v a := fun a _ => rfl
  intro v17 ev17
  replace h := h v17 ev17
  replace hf : ∀ a, ¬ (a = 0) → v17 a = v a := fun a ha => by rw [ev17, upd2_off _ _ _ (by omega), hf a ha]
  refine ⟨fun hc => ?_, fun hc => ?_⟩
  · replace h := h.1 hc
    exact ⟨h, hf⟩
  · replace h := h.2 hc
    obtain ⟨ho1, h⟩ := h
    refine ⟨ho1, ?_⟩
    exact ⟨h, hf⟩
theorem N_X10_switchLine {x1 : Int} {x2 : Int} {v : VT} {q q' : VT → Prop} (h : P_X10_switchLine x1 x2 v q) (hq : ∀ w, q w → q' w) : P_X10_switchLine x1 x2 v q' := by
  unfold P_X10_switchLine at h ⊢
  refine N_X0_findLine h (fun r6 h => ?_)
  refine ⟨fun hc => ?_, fun hc => ?_⟩
  · replace h := h.1 hc
    refine N_X0_canJoin h (fun r36 h => ?_)
    refine ⟨fun hc => ?_, fun hc => ?_⟩
    · replace h := h.1 hc
      exact hq _ h
    · replace h := h.2 hc
      refine N_X0_addLine h (fun v49 h => ?_)
      refine N_X10_changed h (fun v53 h => ?_)
      exact hq _ h
  · replace h := h.2 hc
    refine N_X0_removeLine h (fun v20 h => ?_)
    refine N_X10_changed h (fun v24 h => ?_)
    exact hq _ h
theorem F_X10_switchLine {x1 : Int} {x2 : Int} {v : VT} {q : VT → Prop} (h : P_X10_switchLine x1 x2 v q) : P_X10_switchLine x1 x2 v (fun w => q w ∧ ∀ a, ¬ (a = 10 ∨ (12 ≤ a ∧ a ≤ 14) ∨ a = 138 ∨ a = 191 ∨ a = 197) → w a = v a) := by
  unfold P_X10_switchLine at h ⊢
  have hf : ∀ a, ¬ (a = 10 ∨ (12 ≤ a ∧ a ≤ 14) ∨ a = 138 ∨ a = 191 ∨ a = 197) → v a = v a := fun a _ => rfl
  refine N_X0_findLine h (fun r6 h => ?_)
  refine ⟨fun hc => ?_, fun hc => ?_⟩
  · replace h := h.1 hc
    refine N_X0_canJoin h (fun r36 h => ?_)
    refine ⟨fun hc => ?_, fun hc => ?_⟩
    · replace h := h.1 hc
      exact ⟨h, hf⟩
    · replace h := h.2 hc
      refine N_X0_addLine (F_X0_addLine h) (fun v49 h => ?_)
      obtain ⟨h, hg⟩ := h
      replace hf : ∀ a, ¬ (a = 10 ∨ (12 ≤ a ∧ a ≤ 14) ∨ a = 138 ∨ a = 191 ∨ a = 197) → v49 a = v a := fun a ha => by rw [hg a (by omega), hf a ha]
      clear hg
      refine N_X10_changed (F_X10_changed h) (fun v53 h => ?_)
      obtain ⟨h, hg⟩ := h
      replace hf : ∀ a, ¬ (a = 10 ∨ (12 ≤ a ∧ a ≤ 14) ∨ a = 138 ∨ a = 191 ∨ a = 197) → v53 a = v a := fun a ha => by rw [hg a (by omega), hf a ha]
      clear hg
      exact ⟨h, hf⟩
  · replace h := h.2 hc
    refine N_X0_removeLine (F_X0_removeLine h) (fun v20 h => ?_)
    obtain ⟨h, hg⟩ := h
    replace hf : ∀ a, ¬ (a = 10 ∨ (12 ≤ a ∧ a ≤ 14) ∨ a = 138 ∨ a = 191 ∨ a = 197) → v20 a = v a := fun a ha => by rw [hg a (by omega), hf a ha]
    clear hg
    refine N_X10_changed (F_X10_changed h) (fun v24 h => ?_)
    obtain ⟨h, hg⟩ := h
    replace hf : ∀ a, ¬ (a = 10 ∨ (12 ≤ a ∧ a ≤ 14) ∨ a = 138 ∨ a = 191 ∨ a = 197) → v24 a = v a := fun a ha => by rw [hg a (by omega), hf a ha]
    clear hg
    exact ⟨h, hf⟩
theorem N_X10_actBySeed  {v : VT} {q q' : VT → Prop} (h : P_X10_actBySeed  v q) (hq : ∀ w, q w → q' w) : P_X10_actBySeed  v q' := by
  unfold P_X10_actBySeed at h ⊢
  refine N_X10_draw h (fun r2 v2 h => ?_)
  refine ⟨fun hc => ?_, fun hc => ?_⟩
  · replace h := h.1 hc
    refine ⟨fun hc => ?_, fun hc => ?_⟩
    · replace h := h.1 hc
      refine N_X10_sorted h (fun v88 h => ?_)
      refine N_X10_draw h (fun r101 v101 h => ?_)
      refine ⟨fun hc => ?_, fun hc => ?_⟩
      · replace h := h.1 hc
        exact hq _ h
      · replace h := h.2 hc
        refine N_X10_pressKind h (fun v112 h => ?_)
        exact hq _ h
    · replace h := h.2 hc
      refine N_X10_draw h (fun r62 v62 h => ?_)
      refine N_X10_draw h (fun r74 v74 h => ?_)
      refine N_X10_switchLine h (fun v81 h => ?_)
      exact hq _ h
  · replace h := h.2 hc
    refine N_X10_draw h (fun r19 v19 h => ?_)
    refine N_X0_canGrow h (fun r28 h => ?_)
    refine ⟨fun hc => ?_, fun hc => ?_⟩
    · replace h := h.1 hc
      exact hq _ h
    · replace h := h.2 hc
      refine N_X0_addLeaf h (fun v39 h => ?_)
      refine N_X10_changed h (fun v43 h => ?_)
      exact hq _ h
theorem F_X10_actBySeed  {v : VT} {q : VT → Prop} (h : P_X10_actBySeed  v q) : P_X10_actBySeed  v (fun w => q w ∧ ∀ a, ¬ (a = 0 ∨ (10 ≤ a ∧ a ≤ 15) ∨ (138 ≤ a ∧ a ≤ 139) ∨ (141 ≤ a ∧ a ≤ 164) ∨ (191 ≤ a ∧ a ≤ 197)) → w a = v a) := by
  unfold P_X10_actBySeed at h ⊢
  have hf : ∀ a, ¬ (a = 0 ∨ (10 ≤ a ∧ a ≤ 15) ∨ (138 ≤ a ∧ a ≤ 139) ∨ (141 ≤ a ∧ a ≤ 164) ∨ (191 ≤ a ∧ a ≤ 197)) → v a = v a := fun a _ => rfl
  refine N_X10_draw (F_X10_draw h) (fun r2 v2 h => ?_)
  obtain ⟨h, hg⟩ := h
  replace hf : ∀ a, ¬ (a = 0 ∨ (10 ≤ a ∧ a ≤ 15) ∨ (138 ≤ a ∧ a ≤ 139) ∨ (141 ≤ a ∧ a ≤ 164) ∨ (191 ≤ a ∧ a ≤ 197)) → v2 a = v a := fun a ha => by rw [hg a (by omega), hf a ha]
  clear hg
  refine ⟨fun hc => ?_, fun hc => ?_⟩
  · replace h := h.1 hc
    refine ⟨fun hc => ?_, fun hc => ?_⟩
    · replace h := h.1 hc
      refine N_X10_sorted (F_X10_sorted h) (fun v88 h => ?_)
      obtain ⟨h, hg⟩ := h
      replace hf : ∀ a, ¬ (a = 0 ∨ (10 ≤ a ∧ a ≤ 15) ∨ (138 ≤ a ∧ a ≤ 139) ∨ (141 ≤ a ∧ a ≤ 164) ∨ (191 ≤ a ∧ a ≤ 197)) → v88 a = v a := fun a ha => by rw [hg a (by omega), hf a ha]
      clear hg
      refine N_X10_draw (F_X10_draw h) (fun r101 v101 h => ?_)
      obtain ⟨h, hg⟩ := h
      replace hf : ∀ a, ¬ (a = 0 ∨ (10 ≤ a ∧ a ≤ 15) ∨ (138 ≤ a ∧ a ≤ 139) ∨ (141 ≤ a ∧ a ≤ 164) ∨ (191 ≤ a ∧ a ≤ 197)) → v101 a = v a := fun a ha => by rw [hg a (by omega), hf a ha]
      clear hg
      refine ⟨fun hc => ?_, fun hc => ?_⟩
      · replace h := h.1 hc
        exact ⟨h, hf⟩
      · replace h := h.2 hc
        refine N_X10_pressKind (F_X10_pressKind h) (fun v112 h => ?_)
        obtain ⟨h, hg⟩ := h
        replace hf : ∀ a, ¬ (a = 0 ∨ (10 ≤ a ∧ a ≤ 15) ∨ (138 ≤ a ∧ a ≤ 139) ∨ (141 ≤ a ∧ a ≤ 164) ∨ (191 ≤ a ∧ a ≤ 197)) → v112 a = v a := fun a ha => by rw [hg a (by omega), hf a ha]
        clear hg
        exact ⟨h, hf⟩
    · replace h := h.2 hc
      refine N_X10_draw (F_X10_draw h) (fun r62 v62 h => ?_)
      obtain ⟨h, hg⟩ := h
      replace hf : ∀ a, ¬ (a = 0 ∨ (10 ≤ a ∧ a ≤ 15) ∨ (138 ≤ a ∧ a ≤ 139) ∨ (141 ≤ a ∧ a ≤ 164) ∨ (191 ≤ a ∧ a ≤ 197)) → v62 a = v a := fun a ha => by rw [hg a (by omega), hf a ha]
      clear hg
      refine N_X10_draw (F_X10_draw h) (fun r74 v74 h => ?_)
      obtain ⟨h, hg⟩ := h
      replace hf : ∀ a, ¬ (a = 0 ∨ (10 ≤ a ∧ a ≤ 15) ∨ (138 ≤ a ∧ a ≤ 139) ∨ (141 ≤ a ∧ a ≤ 164) ∨ (191 ≤ a ∧ a ≤ 197)) → v74 a = v a := fun a ha => by rw [hg a (by omega), hf a ha]
      clear hg
      refine N_X10_switchLine (F_X10_switchLine h) (fun v81 h => ?_)
      obtain ⟨h, hg⟩ := h
      replace hf : ∀ a, ¬ (a = 0 ∨ (10 ≤ a ∧ a ≤ 15) ∨ (138 ≤ a ∧ a ≤ 139) ∨ (141 ≤ a ∧ a ≤ 164) ∨ (191 ≤ a ∧ a ≤ 197)) → v81 a = v a := fun a ha => by rw [hg a (by omega), hf a ha]
      clear hg
      exact ⟨h, hf⟩
  · replace h := h.2 hc
    refine N_X10_draw (F_X10_draw h) (fun r19 v19 h => ?_)
    obtain ⟨h, hg⟩ := h
    replace hf : ∀ a, ¬ (a = 0 ∨ (10 ≤ a ∧ a ≤ 15) ∨ (138 ≤ a ∧ a ≤ 139) ∨ (141 ≤ a ∧ a ≤ 164) ∨ (191 ≤ a ∧ a ≤ 197)) → v19 a = v a := fun a ha => by rw [hg a (by omega), hf a ha]
    clear hg
    refine N_X0_canGrow h (fun r28 h => ?_)
    refine ⟨fun hc => ?_, fun hc => ?_⟩
    · replace h := h.1 hc
      exact ⟨h, hf⟩
    · replace h := h.2 hc
      refine N_X0_addLeaf (F_X0_addLeaf h) (fun v39 h => ?_)
      obtain ⟨h, hg⟩ := h
      replace hf : ∀ a, ¬ (a = 0 ∨ (10 ≤ a ∧ a ≤ 15) ∨ (138 ≤ a ∧ a ≤ 139) ∨ (141 ≤ a ∧ a ≤ 164) ∨ (191 ≤ a ∧ a ≤ 197)) → v39 a = v a := fun a ha => by rw [hg a (by omega), hf a ha]
      clear hg
      refine N_X10_changed (F_X10_changed h) (fun v43 h => ?_)
      obtain ⟨h, hg⟩ := h
      replace hf : ∀ a, ¬ (a = 0 ∨ (10 ≤ a ∧ a ≤ 15) ∨ (138 ≤ a ∧ a ≤ 139) ∨ (141 ≤ a ∧ a ≤ 164) ∨ (191 ≤ a ∧ a ≤ 197)) → v43 a = v a := fun a ha => by rw [hg a (by omega), hf a ha]
      clear hg
      exact ⟨h, hf⟩
theorem N_X10_chance {x1 : Int} {v : VT} {q q' : Int → VT → Prop} (h : P_X10_chance x1 v q) (hq : ∀ r w, q r w → q' r w) : P_X10_chance x1 v q' := by
  unfold P_X10_chance at h ⊢
  refine ⟨fun hc => ?_, fun hc => ?_⟩
  · replace h := h.1 hc
    refine N_X10_refuse h (fun r23 v23 h => ?_)
    exact hq _ _ h
  · replace h := h.2 hc
    refine ⟨fun hc => ?_, fun hc => ?_⟩
    · replace h := h.1 hc
      refine N_X10_refuse h (fun r23_1 v23_1 h => ?_)
      exact hq _ _ h
    · replace h := h.2 hc
      refine ⟨fun hc => ?_, fun hc => ?_⟩
      · replace h := h.1 hc
        refine N_X3_keep h (fun v35 h => ?_)
        intro X40 hKX40
        refine n_cut (h X40) ?_ ?_
        · intro i2 v40 h
          refine hKX40 i2 v40 ?_
          refine ⟨fun hc => ?_, fun hc => ?_⟩
          · replace h := h.1 hc
            exact hq _ _ h
          · replace h := h.2 hc
            refine N_X10_actBySeed h (fun v46 h => ?_)
            obtain ⟨ho1, h⟩ := h
            refine ⟨ho1, ?_⟩
            exact h
        · intro h
          exact h
      · replace h := h.2 hc
        refine N_X10_refuse h (fun r23_2 v23_2 h => ?_)
        exact hq _ _ h
theorem F_X10_chance {x1 : Int} {v : VT} {q : Int → VT → Prop} (h : P_X10_chance x1 v q) : P_X10_chance x1 v (fun r w => q r w ∧ ∀ a, ¬ (a = 0 ∨ (10 ≤ a ∧ a ≤ 16) ∨ (18 ≤ a ∧ a ≤ 139) ∨ (141 ≤ a ∧ a ≤ 164) ∨ (191 ≤ a ∧ a ≤ 197) ∨ a = 217) → w a = v a) := by
  unfold P_X10_chance at h ⊢
  have hf : ∀ a, ¬ (a = 0 ∨ (10 ≤ a ∧ a ≤ 16) ∨ (18 ≤ a ∧ a ≤ 139) ∨ (141 ≤ a ∧ a ≤ 164) ∨ (191 ≤ a ∧ a ≤ 197) ∨ a = 217) → v a = v a := fun a _ => rfl
  refine ⟨fun hc => ?_, fun hc => ?_⟩
  · replace h := h.1 hc
    refine N_X10_refuse (F_X10_refuse h) (fun r23 v23 h => ?_)
    obtain ⟨h, hg⟩ := h
    replace hf : ∀ a, ¬ (a = 0 ∨ (10 ≤ a ∧ a ≤ 16) ∨ (18 ≤ a ∧ a ≤ 139) ∨ (141 ≤ a ∧ a ≤ 164) ∨ (191 ≤ a ∧ a ≤ 197) ∨ a = 217) → v23 a = v a := fun a ha => by rw [hg a (by omega), hf a ha]
    clear hg
    exact ⟨h, hf⟩
  · replace h := h.2 hc
    refine ⟨fun hc => ?_, fun hc => ?_⟩
    · replace h := h.1 hc
      refine N_X10_refuse (F_X10_refuse h) (fun r23_1 v23_1 h => ?_)
      obtain ⟨h, hg⟩ := h
      replace hf : ∀ a, ¬ (a = 0 ∨ (10 ≤ a ∧ a ≤ 16) ∨ (18 ≤ a ∧ a ≤ 139) ∨ (141 ≤ a ∧ a ≤ 164) ∨ (191 ≤ a ∧ a ≤ 197) ∨ a = 217) → v23_1 a = v a := fun a ha => by rw [hg a (by omega), hf a ha]
      clear hg
      exact ⟨h, hf⟩
    · replace h := h.2 hc
      refine ⟨fun hc => ?_, fun hc => ?_⟩
      · replace h := h.1 hc
        refine N_X3_keep (F_X3_keep h) (fun v35 h => ?_)
        obtain ⟨h, hg⟩ := h
        replace hf : ∀ a, ¬ (a = 0 ∨ (10 ≤ a ∧ a ≤ 16) ∨ (18 ≤ a ∧ a ≤ 139) ∨ (141 ≤ a ∧ a ≤ 164) ∨ (191 ≤ a ∧ a ≤ 197) ∨ a = 217) → v35 a = v a := fun a ha => by rw [hg a (by omega), hf a ha]
        clear hg
        intro X40 hKX40
        refine n_cut (h (fun (i2 : Int) (v40 : VT) => (∀ a, ¬ (a = 0 ∨ (10 ≤ a ∧ a ≤ 16) ∨ (18 ≤ a ∧ a ≤ 139) ∨ (141 ≤ a ∧ a ≤ 164) ∨ (191 ≤ a ∧ a ≤ 197) ∨ a = 217) → v40 a = v a) → X40 i2 v40)) ?_ ?_
        · intro i2 v40 h hf
          refine hKX40 i2 v40 ?_
          refine ⟨fun hc => ?_, fun hc => ?_⟩
          · replace h := h.1 hc
            exact ⟨h, hf⟩
          · replace h := h.2 hc
            refine N_X10_actBySeed (F_X10_actBySeed h) (fun v46 h => ?_)
            obtain ⟨h, hg⟩ := h
            replace hf : ∀ a, ¬ (a = 0 ∨ (10 ≤ a ∧ a ≤ 16) ∨ (18 ≤ a ∧ a ≤ 139) ∨ (141 ≤ a ∧ a ≤ 164) ∨ (191 ≤ a ∧ a ≤ 197) ∨ a = 217) → v46 a = v a := fun a ha => by rw [hg a (by omega), hf a ha]
            clear hg
            obtain ⟨ho1, h⟩ := h
            refine ⟨ho1, ?_⟩
            exact h hf
        · intro h
          exact h hf
      · replace h := h.2 hc
        refine N_X10_refuse (F_X10_refuse h) (fun r23_2 v23_2 h => ?_)
        obtain ⟨h, hg⟩ := h
        replace hf : ∀ a, ¬ (a = 0 ∨ (10 ≤ a ∧ a ≤ 16) ∨ (18 ≤ a ∧ a ≤ 139) ∨ (141 ≤ a ∧ a ≤ 164) ∨ (191 ≤ a ∧ a ≤ 197) ∨ a = 217) → v23_2 a = v a := fun a ha => by rw [hg a (by omega), hf a ha]
        clear hg
        exact ⟨h, hf⟩
theorem N_X10_undo  {v : VT} {q q' : Int → VT → Prop} (h : P_X10_undo  v q) (hq : ∀ r w, q r w → q' r w) : P_X10_undo  v q' := by
  unfold P_X10_undo at h ⊢
  refine ⟨fun hc => ?_, fun hc => ?_⟩
  · replace h := h.1 hc
    refine N_X3_bringBack h (fun v24 h => ?_)
    refine N_X10_changed h (fun v28 h => ?_)
    exact hq _ _ h
  · replace h := h.2 hc
    refine N_X10_deny h (fun r12 v12 h => ?_)
    obtain ⟨ho1, h⟩ := h
    refine ⟨ho1, ?_⟩
    exact hq _ _ h
theorem F_X10_undo  {v : VT} {q : Int → VT → Prop} (h : P_X10_undo  v q) : P_X10_undo  v (fun r w => q r w ∧ ∀ a, ¬ ((10 ≤ a ∧ a ≤ 14) ∨ a = 16 ∨ a = 138 ∨ a = 191 ∨ a = 197 ∨ a = 217) → w a = v a) := by
  unfold P_X10_undo at h ⊢
  have hf : ∀ a, ¬ ((10 ≤ a ∧ a ≤ 14) ∨ a = 16 ∨ a = 138 ∨ a = 191 ∨ a = 197 ∨ a = 217) → v a = v a := fun a _ => rfl
  refine ⟨fun hc => ?_, fun hc => ?_⟩
  · replace h := h.1 hc
    refine N_X3_bringBack (F_X3_bringBack h) (fun v24 h => ?_)
    obtain ⟨h, hg⟩ := h
    replace hf : ∀ a, ¬ ((10 ≤ a ∧ a ≤ 14) ∨ a = 16 ∨ a = 138 ∨ a = 191 ∨ a = 197 ∨ a = 217) → v24 a = v a := fun a ha => by rw [hg a (by omega), hf a ha]
    clear hg
    refine N_X10_changed (F_X10_changed h) (fun v28 h => ?_)
    obtain ⟨h, hg⟩ := h
    replace hf : ∀ a, ¬ ((10 ≤ a ∧ a ≤ 14) ∨ a = 16 ∨ a = 138 ∨ a = 191 ∨ a = 197 ∨ a = 217) → v28 a = v a := fun a ha => by rw [hg a (by omega), hf a ha]
    clear hg
    exact ⟨h, hf⟩
  · replace h := h.2 hc
    refine N_X10_deny (F_X10_deny h) (fun r12 v12 h => ?_)
    obtain ⟨h, hg⟩ := h
    replace hf : ∀ a, ¬ ((10 ≤ a ∧ a ≤ 14) ∨ a = 16 ∨ a = 138 ∨ a = 191 ∨ a = 197 ∨ a = 217) → v12 a = v a := fun a ha => by rw [hg a (by omega), hf a ha]
    clear hg
    obtain ⟨ho1, h⟩ := h
    refine ⟨ho1, ?_⟩
    exact ⟨h, hf⟩
theorem N_X10_seed {x1 : Int} {v : VT} {q q' : Int → VT → Prop} (h : P_X10_seed x1 v q) (hq : ∀ r w, q r w → q' r w) : P_X10_seed x1 v q' := by
  unfold P_X10_seed at h ⊢
  refine ⟨fun hc => ?_, fun hc => ?_⟩
  · replace h := h.1 hc
    intro v12 ev12
    replace h := h v12 ev12
    exact hq _ _ h
  · replace h := h.2 hc
    refine N_X10_deny h (fun r6 v6 h => ?_)
    obtain ⟨ho1, h⟩ := h
    refine ⟨ho1, ?_⟩
    exact hq _ _ h
theorem F_X10_seed {x1 : Int} {v : VT} {q : Int → VT → Prop} (h : P_X10_seed x1 v q) : P_X10_seed x1 v (fun r w => q r w ∧ ∀ a, ¬ (a = 0 ∨ a = 217) → w a = v a) := by
  unfold P_X10_seed at h ⊢
  have hf : ∀ a, ¬ (a = 0 ∨ a = 217) → v a = v a := fun a _ => rfl
  refine ⟨fun hc => ?_, fun hc => ?_⟩
  · replace h := h.1 hc
    intro v12 ev12
    replace h := h v12 ev12
    replace hf : ∀ a, ¬ (a = 0 ∨ a = 217) → v12 a = v a := fun a ha => by rw [ev12, upd2_off _ _ _ (by omega), hf a ha]
    exact ⟨h, hf⟩
  · replace h := h.2 hc
    refine N_X10_deny (F_X10_deny h) (fun r6 v6 h => ?_)
    obtain ⟨h, hg⟩ := h
    replace hf : ∀ a, ¬ (a = 0 ∨ a = 217) → v6 a = v a := fun a ha => by rw [hg a (by omega), hf a ha]
    clear hg
    obtain ⟨ho1, h⟩ := h
    refine ⟨ho1, ?_⟩
    exact ⟨h, hf⟩
theorem N_X10_image  {v : VT} {q q' : Int → VT → Prop} (h : P_X10_image  v q) (hq : ∀ r w, q r w → q' r w) : P_X10_image  v q' := by
  unfold P_X10_image at h ⊢
  refine N_X4_write h (fun v8 h => ?_)
  exact hq _ _ h
theorem F_X10_image  {v : VT} {q : Int → VT → Prop} (h : P_X10_image  v q) : P_X10_image  v (fun r w => q r w ∧ ∀ a, ¬ ((205 ≤ a ∧ a ≤ 206)) → w a = v a) := by
  unfold P_X10_image at h ⊢
  have hf : ∀ a, ¬ ((205 ≤ a ∧ a ≤ 206)) → v a = v a := fun a _ => rfl
  refine N_X4_write (F_X4_write h) (fun v8 h => ?_)
  obtain ⟨h, hg⟩ := h
  replace hf : ∀ a, ¬ ((205 ≤ a ∧ a ≤ 206)) → v8 a = v a := fun a ha => by rw [hg a (by omega), hf a ha]
  clear hg
  exact ⟨h, hf⟩
theorem N_X10_octet {x1 : Int} {v : VT} {q q' : Int → Prop} (h : P_X10_octet x1 v q) (hq : ∀ r, q r → q' r) : P_X10_octet x1 v q' := by
  unfold P_X10_octet at h ⊢
  refine ⟨fun hc => ?_, fun hc => ?_⟩
  · replace h := h.1 hc
    exact hq _ h
  · replace h := h.2 hc
    refine ⟨fun hc => ?_, fun hc => ?_⟩
    · replace h := h.1 hc
      exact hq _ h
    · replace h := h.2 hc
      obtain ⟨ho1, h⟩ := h
      refine ⟨ho1, ?_⟩
      exact hq _ h
theorem N_X10_on  {v : VT} {q q' : Int → VT → Prop} (h : P_X10_on  v q) (hq : ∀ r w, q r w → q' r w) : P_X10_on  v q' := by
  unfold P_X10_on at h ⊢
  refine N_X4_read h (fun r8 v8 h => ?_)
  intro v17 ev17
  replace h := h v17 ev17
  refine ⟨fun hc => ?_, fun hc => ?_⟩
  · replace h := h.1 hc
    refine N_X0_takeFrom h (fun v41 h => ?_)
    refine N_X3_forget h (fun v48 h => ?_)
    refine N_X10_changed h (fun v52 h => ?_)
    exact hq _ _ h
  · replace h := h.2 hc
    refine N_X10_deny h (fun r26 v26 h => ?_)
    obtain ⟨ho1, h⟩ := h
    refine ⟨ho1, ?_⟩
    exact hq _ _ h
theorem F_X10_on  {v : VT} {q : Int → VT → Prop} (h : P_X10_on  v q) : P_X10_on  v (fun r w => q r w ∧ ∀ a, ¬ (a = 1 ∨ (10 ≤ a ∧ a ≤ 14) ∨ a = 16 ∨ a = 138 ∨ a = 191 ∨ a = 197 ∨ (207 ≤ a ∧ a ≤ 211) ∨ a = 217) → w a = v a) := by
  unfold P_X10_on at h ⊢
  have hf : ∀ a, ¬ (a = 1 ∨ (10 ≤ a ∧ a ≤ 14) ∨ a = 16 ∨ a = 138 ∨ a = 191 ∨ a = 197 ∨ (207 ≤ a ∧ a ≤ 211) ∨ a = 217) → v a = v a := fun a _ => rfl
  refine N_X4_read (F_X4_read h) (fun r8 v8 h => ?_)
  obtain ⟨h, hg⟩ := h
  replace hf : ∀ a, ¬ (a = 1 ∨ (10 ≤ a ∧ a ≤ 14) ∨ a = 16 ∨ a = 138 ∨ a = 191 ∨ a = 197 ∨ (207 ≤ a ∧ a ≤ 211) ∨ a = 217) → v8 a = v a := fun a ha => by rw [hg a (by omega), hf a ha]
  clear hg
  intro v17 ev17
  replace h := h v17 ev17
  replace hf : ∀ a, ¬ (a = 1 ∨ (10 ≤ a ∧ a ≤ 14) ∨ a = 16 ∨ a = 138 ∨ a = 191 ∨ a = 197 ∨ (207 ≤ a ∧ a ≤ 211) ∨ a = 217) → v17 a = v a := fun a ha => by rw [ev17, upd2_off _ _ _ (by omega), hf a ha]
  refine ⟨fun hc => ?_, fun hc => ?_⟩
  · replace h := h.1 hc
    refine N_X0_takeFrom (F_X0_takeFrom h) (fun v41 h => ?_)
    obtain ⟨h, hg⟩ := h
    replace hf : ∀ a, ¬ (a = 1 ∨ (10 ≤ a ∧ a ≤ 14) ∨ a = 16 ∨ a = 138 ∨ a = 191 ∨ a = 197 ∨ (207 ≤ a ∧ a ≤ 211) ∨ a = 217) → v41 a = v a := fun a ha => by rw [hg a (by omega), hf a ha]
    clear hg
    refine N_X3_forget (F_X3_forget h) (fun v48 h => ?_)
    obtain ⟨h, hg⟩ := h
    replace hf : ∀ a, ¬ (a = 1 ∨ (10 ≤ a ∧ a ≤ 14) ∨ a = 16 ∨ a = 138 ∨ a = 191 ∨ a = 197 ∨ (207 ≤ a ∧ a ≤ 211) ∨ a = 217) → v48 a = v a := fun a ha => by rw [hg a (by omega), hf a ha]
    clear hg
    refine N_X10_changed (F_X10_changed h) (fun v52 h => ?_)
    obtain ⟨h, hg⟩ := h
    replace hf : ∀ a, ¬ (a = 1 ∨ (10 ≤ a ∧ a ≤ 14) ∨ a = 16 ∨ a = 138 ∨ a = 191 ∨ a = 197 ∨ (207 ≤ a ∧ a ≤ 211) ∨ a = 217) → v52 a = v a := fun a ha => by rw [hg a (by omega), hf a ha]
    clear hg
    exact ⟨h, hf⟩
  · replace h := h.2 hc
    refine N_X10_deny (F_X10_deny h) (fun r26 v26 h => ?_)
    obtain ⟨h, hg⟩ := h
    replace hf : ∀ a, ¬ (a = 1 ∨ (10 ≤ a ∧ a ≤ 14) ∨ a = 16 ∨ a = 138 ∨ a = 191 ∨ a = 197 ∨ (207 ≤ a ∧ a ≤ 211) ∨ a = 217) → v26 a = v a := fun a ha => by rw [hg a (by omega), hf a ha]
    clear hg
    obtain ⟨ho1, h⟩ := h
    refine ⟨ho1, ?_⟩
    exact ⟨h, hf⟩
theorem N_X10_status {x1 : Int} {v : VT} {q q' : Int → Prop} (h : P_X10_status x1 v q) (hq : ∀ r, q r → q' r) : P_X10_status x1 v q' := by
  unfold P_X10_status at h ⊢
  refine ⟨fun hc => ?_, fun hc => ?_⟩
  · replace h := h.1 hc
    exact hq _ h
  · replace h := h.2 hc
    refine ⟨fun hc => ?_, fun hc => ?_⟩
    · replace h := h.1 hc
      exact hq _ h
    · replace h := h.2 hc
      obtain ⟨ho1, h⟩ := h
      refine ⟨ho1, ?_⟩
      exact hq _ h
theorem N_X11_isIn {x0 : Int} {x2 : Int} {x4 : Int} {v : VT} {q q' : Int → Prop} (h : P_X11_isIn x0 x2 x4 v q) (hq : ∀ r, q r → q' r) : P_X11_isIn x0 x2 x4 v q' := by
  unfold P_X11_isIn at h ⊢
  refine ⟨fun hc => ?_, fun hc => ?_⟩
  · replace h := h.1 hc
    exact hq _ h
  · replace h := h.2 hc
    refine ⟨fun hc => ?_, fun hc => ?_⟩
    · replace h := h.1 hc
      exact hq _ h
    · replace h := h.2 hc
      exact hq _ h
theorem N_X11_flag {x0 : Int} {v : VT} {q q' : Int → Prop} (h : P_X11_flag x0 v q) (hq : ∀ r, q r → q' r) : P_X11_flag x0 v q' := by
  unfold P_X11_flag at h ⊢
  refine ⟨fun hc => ?_, fun hc => ?_⟩
  · replace h := h.1 hc
    exact hq _ h
  · replace h := h.2 hc
    exact hq _ h
theorem N_X11_isOf {x0 : Int} {x1 : Int} {v : VT} {q q' : Int → Prop} (h : P_X11_isOf x0 x1 v q) (hq : ∀ r, q r → q' r) : P_X11_isOf x0 x1 v q' := by
  unfold P_X11_isOf at h ⊢
  refine ⟨fun hc => ?_, fun hc => ?_⟩
  · replace h := h.1 hc
    exact hq _ h
  · replace h := h.2 hc
    exact hq _ h
theorem N_X11_count {x0 : Int} {v : VT} {q q' : Int → Prop} (h : P_X11_count x0 v q) (hq : ∀ r, q r → q' r) : P_X11_count x0 v q' := by
  unfold P_X11_count at h ⊢
  intro X4 hKX4
  refine n_cut (h X4) ?_ ?_
  · intro i1 i2 h
    refine hKX4 i1 i2 ?_
    refine ⟨fun hc => ?_, fun hc => ?_⟩
    · replace h := h.1 hc
      exact hq _ h
    · replace h := h.2 hc
      obtain ⟨ho1, h⟩ := h
      refine ⟨ho1, ?_⟩
      intro l1 el1
      replace h := h l1 el1
      obtain ⟨ho2, h⟩ := h
      refine ⟨ho2, ?_⟩
      exact h
  · intro h
    exact h
theorem N_X11_refuses {x1 : Int} {v : VT} {q q' : Int → VT → Prop} (h : P_X11_refuses x1 v q) (hq : ∀ r w, q r w → q' r w) : P_X11_refuses x1 v q' := by
  unfold P_X11_refuses at h ⊢
  obtain ⟨ho1, h⟩ := h
  refine ⟨ho1, ?_⟩
  obtain ⟨ho2, h⟩ := h
  refine ⟨ho2, ?_⟩
  obtain ⟨ho3, h⟩ := h
  refine ⟨ho3, ?_⟩
  intro v9 ev9
  replace h := h v9 ev9
  exact hq _ _ h
theorem F_X11_refuses {x1 : Int} {v : VT} {q : Int → VT → Prop} (h : P_X11_refuses x1 v q) : P_X11_refuses x1 v (fun r w => q r w ∧ ∀ a, ¬ (a = 220) → w a = v a) := by
  unfold P_X11_refuses at h ⊢
  have hf : ∀ a, ¬ (a = 220) → v a = v a := fun a _ => rfl
  obtain ⟨ho1, h⟩ := h
  refine ⟨ho1, ?_⟩
  obtain ⟨ho2, h⟩ := h
  refine ⟨ho2, ?_⟩
  obtain ⟨ho3, h⟩ := h
  refine ⟨ho3, ?_⟩
  intro v9 ev9
  replace h := h v9 ev9
  replace hf : ∀ a, ¬ (a = 220) → v9 a = v a := fun a ha => by rw [ev9, upd2_off _ _ _ (by omega), hf a ha]
  exact ⟨h, hf⟩
theorem N_X11_isRefused {x1 : Int} {v : VT} {q q' : Int → VT → Prop} (h : P_X11_isRefused x1 v q) (hq : ∀ r w, q r w → q' r w) : P_X11_isRefused x1 v q' := by
  unfold P_X11_isRefused at h ⊢
  obtain ⟨ho1, h⟩ := h
  refine ⟨ho1, ?_⟩
  obtain ⟨ho2, h⟩ := h
  refine ⟨ho2, ?_⟩
  obtain ⟨ho3, h⟩ := h
  refine ⟨ho3, ?_⟩
  intro v9 ev9
  replace h := h v9 ev9
  exact hq _ _ h
theorem F_X11_isRefused {x1 : Int} {v : VT} {q : Int → VT → Prop} (h : P_X11_isRefused x1 v q) : P_X11_isRefused x1 v (fun r w => q r w ∧ ∀ a, ¬ (a = 220) → w a = v a) := by
  unfold P_X11_isRefused at h ⊢
  have hf : ∀ a, ¬ (a = 220) → v a = v a := fun a _ => rfl
  obtain ⟨ho1, h⟩ := h
  refine ⟨ho1, ?_⟩
  obtain ⟨ho2, h⟩ := h
  refine ⟨ho2, ?_⟩
  obtain ⟨ho3, h⟩ := h
  refine ⟨ho3, ?_⟩
  intro v9 ev9
  replace h := h v9 ev9
  replace hf : ∀ a, ¬ (a = 220) → v9 a = v a := fun a ha => by rw [ev9, upd2_off _ _ _ (by omega), hf a ha]
  exact ⟨h, hf⟩
theorem N_X11_feed {x1 : Int} {x2 : Int} {x3 : Int} {x4 : Int} {x5 : Int} {v : VT} {q q' : Int → VT → Prop} (h : P_X11_feed x1 x2 x3 x4 x5 v q) (hq : ∀ r w, q r w → q' r w) : P_X11_feed x1 x2 x3 x4 x5 v q' := by
  unfold P_X11_feed at h ⊢
  obtain ⟨ho1, h⟩ := h
  refine ⟨ho1, ?_⟩
  refine ⟨fun hc => ?_, fun hc => ?_⟩
  · replace h := h.1 hc
    intro X22 hKX22
    refine n_cut (h X22) ?_ ?_
    · intro i6 v22 h
      refine hKX22 i6 v22 ?_
      refine ⟨fun hc => ?_, fun hc => ?_⟩
      · replace h := h.1 hc
        exact hq _ _ h
      · replace h := h.2 hc
        intro K75 hKK75
        refine n_cut (h K75) ?_ ?_
        · intro s0 h
          refine hKK75 s0 ?_
          obtain ⟨ho2, h⟩ := h
          refine ⟨ho2, ?_⟩
          obtain ⟨ho3, h⟩ := h
          refine ⟨ho3, ?_⟩
          obtain ⟨ho4, h⟩ := h
          refine ⟨ho4, ?_⟩
          intro v101 ev101
          replace h := h v101 ev101
          obtain ⟨ho5, h⟩ := h
          refine ⟨ho5, ?_⟩
          intro v109 ev109
          replace h := h v109 ev109
          obtain ⟨ho6, h⟩ := h
          refine ⟨ho6, ?_⟩
          exact h
        · intro h
          refine ⟨fun hc => ?_, fun hc => ?_⟩
          · replace h := h.1 hc
            refine ⟨fun hc => ?_, fun hc => ?_⟩
            · replace h := h.1 hc
              refine ⟨fun hc => ?_, fun hc => ?_⟩
              · replace h := h.1 hc
                refine ⟨fun hc => ?_, fun hc => ?_⟩
                · replace h := h.1 hc
                  exact h
                · replace h := h.2 hc
                  exact h
              · replace h := h.2 hc
                exact h
            · replace h := h.2 hc
              exact h
          · replace h := h.2 hc
            exact h
    · intro h
      exact h
  · replace h := h.2 hc
    refine N_X11_refuses h (fun r15 v15 h => ?_)
    exact hq _ _ h
theorem F_X11_feed {x1 : Int} {x2 : Int} {x3 : Int} {x4 : Int} {x5 : Int} {v : VT} {q : Int → VT → Prop} (h : P_X11_feed x1 x2 x3 x4 x5 v q) : P_X11_feed x1 x2 x3 x4 x5 v (fun r w => q r w ∧ ∀ a, ¬ ((218 ≤ a ∧ a ≤ 220)) → w a = v a) := by
  unfold P_X11_feed at h ⊢
  have hf : ∀ a, ¬ ((218 ≤ a ∧ a ≤ 220)) → v a = v a := fun a _ => rfl
  obtain ⟨ho1, h⟩ := h
  refine ⟨ho1, ?_⟩
  refine ⟨fun hc => ?_, fun hc => ?_⟩
  · replace h := h.1 hc
    intro X22 hKX22
    refine n_cut (h (fun (i6 : Int) (v22 : VT) => (∀ a, ¬ ((218 ≤ a ∧ a ≤ 220)) → v22 a = v a) → X22 i6 v22)) ?_ ?_
    · intro i6 v22 h hf
      refine hKX22 i6 v22 ?_
      refine ⟨fun hc => ?_, fun hc => ?_⟩
      · replace h := h.1 hc
        exact ⟨h, hf⟩
      · replace h := h.2 hc
        intro K75 hKK75
        refine n_cut (h K75) ?_ ?_
        · intro s0 h
          refine hKK75 s0 ?_
          obtain ⟨ho2, h⟩ := h
          refine ⟨ho2, ?_⟩
          obtain ⟨ho3, h⟩ := h
          refine ⟨ho3, ?_⟩
          obtain ⟨ho4, h⟩ := h
          refine ⟨ho4, ?_⟩
          intro v101 ev101
          replace h := h v101 ev101
          replace hf : ∀ a, ¬ ((218 ≤ a ∧ a ≤ 220)) → v101 a = v a := fun a ha => by rw [ev101, upd2_off _ _ _ (by omega), hf a ha]
          obtain ⟨ho5, h⟩ := h
          refine ⟨ho5, ?_⟩
          intro v109 ev109
          replace h := h v109 ev109
          replace hf : ∀ a, ¬ ((218 ≤ a ∧ a ≤ 220)) → v109 a = v a := fun a ha => by rw [ev109, upd2_off _ _ _ (by omega), hf a ha]
          obtain ⟨ho6, h⟩ := h
          refine ⟨ho6, ?_⟩
          exact h hf
        · intro h
          refine ⟨fun hc => ?_, fun hc => ?_⟩
          · replace h := h.1 hc
            refine ⟨fun hc => ?_, fun hc => ?_⟩
            · replace h := h.1 hc
              refine ⟨fun hc => ?_, fun hc => ?_⟩
              · replace h := h.1 hc
                refine ⟨fun hc => ?_, fun hc => ?_⟩
                · replace h := h.1 hc
                  exact h
                · replace h := h.2 hc
                  exact h
              · replace h := h.2 hc
                exact h
            · replace h := h.2 hc
              exact h
          · replace h := h.2 hc
            exact h
    · intro h
      exact h hf
  · replace h := h.2 hc
    refine N_X11_refuses (F_X11_refuses h) (fun r15 v15 h => ?_)
    obtain ⟨h, hg⟩ := h
    replace hf : ∀ a, ¬ ((218 ≤ a ∧ a ≤ 220)) → v15 a = v a := fun a ha => by rw [hg a (by omega), hf a ha]
    clear hg
    exact ⟨h, hf⟩
theorem N_X11_end {x1 : Int} {v : VT} {q q' : Int → VT → Prop} (h : P_X11_end x1 v q) (hq : ∀ r w, q r w → q' r w) : P_X11_end x1 v q' := by
  unfold P_X11_end at h ⊢
  refine ⟨fun hc => ?_, fun hc => ?_⟩
  · replace h := h.1 hc
    refine N_X11_isRefused h (fun r14 v14 h => ?_)
    obtain ⟨ho1, h⟩ := h
    refine ⟨ho1, ?_⟩
    exact hq _ _ h
  · replace h := h.2 hc
    refine ⟨fun hc => ?_, fun hc => ?_⟩
    · replace h := h.1 hc
      intro v20 ev20
      replace h := h v20 ev20
      exact hq _ _ h
    · replace h := h.2 hc
      refine N_X11_isRefused h (fun r14_1 v14_1 h => ?_)
      obtain ⟨ho2, h⟩ := h
      refine ⟨ho2, ?_⟩
      exact hq _ _ h
theorem F_X11_end {x1 : Int} {v : VT} {q : Int → VT → Prop} (h : P_X11_end x1 v q) : P_X11_end x1 v (fun r w => q r w ∧ ∀ a, ¬ (a = 218 ∨ a = 220) → w a = v a) := by
  unfold P_X11_end at h ⊢
  have hf : ∀ a, ¬ (a = 218 ∨ a = 220) → v a = v a := fun a _ => rfl
  refine ⟨fun hc => ?_, fun hc => ?_⟩
  · replace h := h.1 hc
    refine N_X11_isRefused (F_X11_isRefused h) (fun r14 v14 h => ?_)
    obtain ⟨h, hg⟩ := h
    replace hf : ∀ a, ¬ (a = 218 ∨ a = 220) → v14 a = v a := fun a ha => by rw [hg a (by omega), hf a ha]
    clear hg
    obtain ⟨ho1, h⟩ := h
    refine ⟨ho1, ?_⟩
    exact ⟨h, hf⟩
  · replace h := h.2 hc
    refine ⟨fun hc => ?_, fun hc => ?_⟩
    · replace h := h.1 hc
      intro v20 ev20
      replace h := h v20 ev20
      replace hf : ∀ a, ¬ (a = 218 ∨ a = 220) → v20 a = v a := fun a ha => by rw [ev20, upd2_off _ _ _ (by omega), hf a ha]
      exact ⟨h, hf⟩
    · replace h := h.2 hc
      refine N_X11_isRefused (F_X11_isRefused h) (fun r14_1 v14_1 h => ?_)
      obtain ⟨h, hg⟩ := h
      replace hf : ∀ a, ¬ (a = 218 ∨ a = 220) → v14_1 a = v a := fun a ha => by rw [hg a (by omega), hf a ha]
      clear hg
      obtain ⟨ho2, h⟩ := h
      refine ⟨ho2, ?_⟩
      exact ⟨h, hf⟩
theorem N_X11_status {x1 : Int} {v : VT} {q q' : Int → Prop} (h : P_X11_status x1 v q) (hq : ∀ r, q r → q' r) : P_X11_status x1 v q' := by
  unfold P_X11_status at h ⊢
  refine N_X11_isIn h (fun r6 h => ?_)
  refine ⟨fun hc => ?_, fun hc => ?_⟩
  · replace h := h.1 hc
    exact hq _ h
  · replace h := h.2 hc
    obtain ⟨ho1, h⟩ := h
    refine ⟨ho1, ?_⟩
    exact hq _ h
theorem N_X11_fault {x1 : Int} {v : VT} {q q' : Int → Prop} (h : P_X11_fault x1 v q) (hq : ∀ r, q r → q' r) : P_X11_fault x1 v q' := by
  unfold P_X11_fault at h ⊢
  refine ⟨fun hc => ?_, fun hc => ?_⟩
  · replace h := h.1 hc
    refine ⟨fun hc => ?_, fun hc => ?_⟩
    · replace h := h.1 hc
      exact hq _ h
    · replace h := h.2 hc
      exact hq _ h
  · replace h := h.2 hc
    exact hq _ h
theorem N_X11_fail {x1 : Int} {x2 : Int} {v : VT} {q q' : VT → Prop} (h : P_X11_fail x1 x2 v q) (hq : ∀ w, q w → q' w) : P_X11_fail x1 x2 v q' := by
  unfold P_X11_fail at h ⊢
  refine ⟨fun hc => ?_, fun hc => ?_⟩
  · replace h := h.1 hc
    intro v10 ev10
    replace h := h v10 ev10
    intro v15 ev15
    replace h := h v15 ev15
    exact hq _ h
  · replace h := h.2 hc
    exact hq _ h
theorem F_X11_fail {x1 : Int} {x2 : Int} {v : VT} {q : VT → Prop} (h : P_X11_fail x1 x2 v q) : P_X11_fail x1 x2 v (fun w => q w ∧ ∀ a, ¬ (a = 218) → w a = v a) := by
  unfold P_X11_fail at h ⊢
  have hf : ∀ a, ¬ (a = 218) → v a = v a := fun a _ => rfl
  refine ⟨fun hc => ?_, fun hc => ?_⟩
  · replace h := h.1 hc
    intro v10 ev10
    replace h := h v10 ev10
    replace hf : ∀ a, ¬ (a = 218) → v10 a = v a := fun a ha => by rw [ev10, upd2_off _ _ _ (by omega), hf a ha]
    intro v15 ev15
    replace h := h v15 ev15
    replace hf : ∀ a, ¬ (a = 218) → v15 a = v a := fun a ha => by rw [ev15, upd2_off _ _ _ (by omega), hf a ha]
    exact ⟨h, hf⟩
  · replace h := h.2 hc
    exact ⟨h, hf⟩
theorem N_X11_isLetter {x0 : Int} {v : VT} {q q' : Int → Prop} (h : P_X11_isLetter x0 v q) (hq : ∀ r, q r → q' r) : P_X11_isLetter x0 v q' := by
  unfold P_X11_isLetter at h ⊢
  refine ⟨fun hc => ?_, fun hc => ?_⟩
  · replace h := h.1 hc
    exact hq _ h
  · replace h := h.2 hc
    refine ⟨fun hc => ?_, fun hc => ?_⟩
    · replace h := h.1 hc
      exact hq _ h
    · replace h := h.2 hc
      exact hq _ h
theorem N_X11_look  {v : VT} {q q' : Int → VT → Prop} (h : P_X11_look  v q) (hq : ∀ r w, q r w → q' r w) : P_X11_look  v q' := by
  unfold P_X11_look at h ⊢
  intro K52 hKK52
  refine n_cut (h K52) ?_ ?_
  · intro v52 h
    refine hKK52 v52 ?_
    refine ⟨fun hc => ?_, fun hc => ?_⟩
    · replace h := h.1 hc
      exact hq _ _ h
    · replace h := h.2 hc
      obtain ⟨ho1, h⟩ := h
      refine ⟨ho1, ?_⟩
      exact hq _ _ h
  · intro h
    intro X0 hKX0
    refine n_cut (h X0) ?_ ?_
    · intro v0 h
      refine hKX0 v0 ?_
      refine ⟨fun hc => ?_, fun hc => ?_⟩
      · replace h := h.1 hc
        exact h
      · replace h := h.2 hc
        obtain ⟨ho2, h⟩ := h
        refine ⟨ho2, ?_⟩
        refine ⟨fun hc => ?_, fun hc => ?_⟩
        · replace h := h.1 hc
          obtain ⟨ho3, h⟩ := h
          refine ⟨ho3, ?_⟩
          intro v46 ev46
          replace h := h v46 ev46
          exact h
        · replace h := h.2 hc
          obtain ⟨ho4, h⟩ := h
          refine ⟨ho4, ?_⟩
          refine ⟨fun hc => ?_, fun hc => ?_⟩
          · replace h := h.1 hc
            exact h
          · replace h := h.2 hc
            obtain ⟨ho5, h⟩ := h
            refine ⟨ho5, ?_⟩
            intro v46_1 ev46_1
            replace h := h v46_1 ev46_1
            exact h
    · intro h
      exact h
theorem F_X11_look  {v : VT} {q : Int → VT → Prop} (h : P_X11_look  v q) : P_X11_look  v (fun r w => q r w ∧ ∀ a, ¬ (a = 218) → w a = v a) := by
  unfold P_X11_look at h ⊢
  have hf : ∀ a, ¬ (a = 218) → v a = v a := fun a _ => rfl
  intro K52 hKK52
  refine n_cut (h (fun (v52 : VT) => (∀ a, ¬ (a = 218) → v52 a = v a) → K52 v52)) ?_ ?_
  · intro v52 h hf
    refine hKK52 v52 ?_
    refine ⟨fun hc => ?_, fun hc => ?_⟩
    · replace h := h.1 hc
      exact ⟨h, hf⟩
    · replace h := h.2 hc
      obtain ⟨ho1, h⟩ := h
      refine ⟨ho1, ?_⟩
      exact ⟨h, hf⟩
  · intro h
    intro X0 hKX0
    refine n_cut (h (fun (v0 : VT) => (∀ a, ¬ (a = 218) → v0 a = v a) → X0 v0)) ?_ ?_
    · intro v0 h hf
      refine hKX0 v0 ?_
      refine ⟨fun hc => ?_, fun hc => ?_⟩
      · replace h := h.1 hc
        exact h hf
      · replace h := h.2 hc
        obtain ⟨ho2, h⟩ := h
        refine ⟨ho2, ?_⟩
        refine ⟨fun hc => ?_, fun hc => ?_⟩
        · replace h := h.1 hc
          obtain ⟨ho3, h⟩ := h
          refine ⟨ho3, ?_⟩
          intro v46 ev46
          replace h := h v46 ev46
          replace hf : ∀ a, ¬ (a = 218) → v46 a = v a := fun a ha => by rw [ev46, upd2_off _ _ _ (by omega), hf a ha]
          exact h hf
        · replace h := h.2 hc
          obtain ⟨ho4, h⟩ := h
          refine ⟨ho4, ?_⟩
          refine ⟨fun hc => ?_, fun hc => ?_⟩
          · replace h := h.1 hc
            exact h hf
          · replace h := h.2 hc
            obtain ⟨ho5, h⟩ := h
            refine ⟨ho5, ?_⟩
            intro v46_1 ev46_1
            replace h := h v46_1 ev46_1
            replace hf : ∀ a, ¬ (a = 218) → v46_1 a = v a := fun a ha => by rw [ev46_1, upd2_off _ _ _ (by omega), hf a ha]
            exact h hf
    · intro h
      exact h hf
theorem N_X11_takesSign {x1 : Int} {v : VT} {q q' : Int → VT → Prop} (h : P_X11_takesSign x1 v q) (hq : ∀ r w, q r w → q' r w) : P_X11_takesSign x1 v q' := by
  unfold P_X11_takesSign at h ⊢
  refine ⟨fun hc => ?_, fun hc => ?_⟩
  · replace h := h.1 hc
    exact hq _ _ h
  · replace h := h.2 hc
    refine N_X11_look h (fun r8 v8 h => ?_)
    refine ⟨fun hc => ?_, fun hc => ?_⟩
    · replace h := h.1 hc
      obtain ⟨ho1, h⟩ := h
      refine ⟨ho1, ?_⟩
      intro v24 ev24
      replace h := h v24 ev24
      exact hq _ _ h
    · replace h := h.2 hc
      exact hq _ _ h
theorem F_X11_takesSign {x1 : Int} {v : VT} {q : Int → VT → Prop} (h : P_X11_takesSign x1 v q) : P_X11_takesSign x1 v (fun r w => q r w ∧ ∀ a, ¬ (a = 218) → w a = v a) := by
  unfold P_X11_takesSign at h ⊢
  have hf : ∀ a, ¬ (a = 218) → v a = v a := fun a _ => rfl
  refine ⟨fun hc => ?_, fun hc => ?_⟩
  · replace h := h.1 hc
    exact ⟨h, hf⟩
  · replace h := h.2 hc
    refine N_X11_look (F_X11_look h) (fun r8 v8 h => ?_)
    obtain ⟨h, hg⟩ := h
    replace hf : ∀ a, ¬ (a = 218) → v8 a = v a := fun a ha => by rw [hg a (by omega), hf a ha]
    clear hg
    refine ⟨fun hc => ?_, fun hc => ?_⟩
    · replace h := h.1 hc
      obtain ⟨ho1, h⟩ := h
      refine ⟨ho1, ?_⟩
      intro v24 ev24
      replace h := h v24 ev24
      replace hf : ∀ a, ¬ (a = 218) → v24 a = v a := fun a ha => by rw [ev24, upd2_off _ _ _ (by omega), hf a ha]
      exact ⟨h, hf⟩
    · replace h := h.2 hc
      exact ⟨h, hf⟩
theorem N_X11_asksSign {x1 : Int} {v : VT} {q q' : VT → Prop} (h : P_X11_asksSign x1 v q) (hq : ∀ w, q w → q' w) : P_X11_asksSign x1 v q' := by
  unfold P_X11_asksSign at h ⊢
  refine ⟨fun hc => ?_, fun hc => ?_⟩
  · replace h := h.1 hc
    exact hq _ h
  · replace h := h.2 hc
    refine N_X11_takesSign h (fun r9 v9 h => ?_)
    refine ⟨fun hc => ?_, fun hc => ?_⟩
    · replace h := h.1 hc
      exact hq _ h
    · replace h := h.2 hc
      refine N_X11_fail h (fun v21 h => ?_)
      exact hq _ h
theorem F_X11_asksSign {x1 : Int} {v : VT} {q : VT → Prop} (h : P_X11_asksSign x1 v q) : P_X11_asksSign x1 v (fun w => q w ∧ ∀ a, ¬ (a = 218) → w a = v a) := by
  unfold P_X11_asksSign at h ⊢
  have hf : ∀ a, ¬ (a = 218) → v a = v a := fun a _ => rfl
  refine ⟨fun hc => ?_, fun hc => ?_⟩
  · replace h := h.1 hc
    exact ⟨h, hf⟩
  · replace h := h.2 hc
    refine N_X11_takesSign (F_X11_takesSign h) (fun r9 v9 h => ?_)
    obtain ⟨h, hg⟩ := h
    replace hf : ∀ a, ¬ (a = 218) → v9 a = v a := fun a ha => by rw [hg a (by omega), hf a ha]
    clear hg
    refine ⟨fun hc => ?_, fun hc => ?_⟩
    · replace h := h.1 hc
      exact ⟨h, hf⟩
    · replace h := h.2 hc
      refine N_X11_fail (F_X11_fail h) (fun v21 h => ?_)
      obtain ⟨h, hg⟩ := h
      replace hf : ∀ a, ¬ (a = 218) → v21 a = v a := fun a ha => by rw [hg a (by omega), hf a ha]
      clear hg
      exact ⟨h, hf⟩
theorem N_X11_isWordHere  {v : VT} {q q' : Int → VT → Prop} (h : P_X11_isWordHere  v q) (hq : ∀ r w, q r w → q' r w) : P_X11_isWordHere  v q' := by
  unfold P_X11_isWordHere at h ⊢
  refine ⟨fun hc => ?_, fun hc => ?_⟩
  · replace h := h.1 hc
    exact hq _ _ h
  · replace h := h.2 hc
    refine N_X11_look h (fun r8 v8 h => ?_)
    refine N_X11_isLetter h (fun r11 h => ?_)
    refine ⟨fun hc => ?_, fun hc => ?_⟩
    · replace h := h.1 hc
      exact hq _ _ h
    · replace h := h.2 hc
      refine ⟨fun hc => ?_, fun hc => ?_⟩
      · replace h := h.1 hc
        exact hq _ _ h
      · replace h := h.2 hc
        exact hq _ _ h
theorem F_X11_isWordHere  {v : VT} {q : Int → VT → Prop} (h : P_X11_isWordHere  v q) : P_X11_isWordHere  v (fun r w => q r w ∧ ∀ a, ¬ (a = 218) → w a = v a) := by
  unfold P_X11_isWordHere at h ⊢
  have hf : ∀ a, ¬ (a = 218) → v a = v a := fun a _ => rfl
  refine ⟨fun hc => ?_, fun hc => ?_⟩
  · replace h := h.1 hc
    exact ⟨h, hf⟩
  · replace h := h.2 hc
    refine N_X11_look (F_X11_look h) (fun r8 v8 h => ?_)
    obtain ⟨h, hg⟩ := h
    replace hf : ∀ a, ¬ (a = 218) → v8 a = v a := fun a ha => by rw [hg a (by omega), hf a ha]
    clear hg
    refine N_X11_isLetter h (fun r11 h => ?_)
    refine ⟨fun hc => ?_, fun hc => ?_⟩
    · replace h := h.1 hc
      exact ⟨h, hf⟩
    · replace h := h.2 hc
      refine ⟨fun hc => ?_, fun hc => ?_⟩
      · replace h := h.1 hc
        exact ⟨h, hf⟩
      · replace h := h.2 hc
        exact ⟨h, hf⟩
theorem N_X11_longHere  {v : VT} {q q' : Int → Prop} (h : P_X11_longHere  v q) (hq : ∀ r, q r → q' r) : P_X11_longHere  v q' := by
  unfold P_X11_longHere at h ⊢
  intro X2 hKX2
  refine n_cut (h X2) ?_ ?_
  · intro i1 h
    refine hKX2 i1 ?_
    obtain ⟨ho1, h⟩ := h
    refine ⟨ho1, ?_⟩
    refine ⟨fun hc => ?_, fun hc => ?_⟩
    · replace h := h.1 hc
      exact hq _ h
    · replace h := h.2 hc
      obtain ⟨ho2, h⟩ := h
      refine ⟨ho2, ?_⟩
      obtain ⟨ho3, h⟩ := h
      refine ⟨ho3, ?_⟩
      refine N_X11_isLetter h (fun r26 h => ?_)
      refine ⟨fun hc => ?_, fun hc => ?_⟩
      · replace h := h.1 hc
        exact hq _ h
      · replace h := h.2 hc
        obtain ⟨ho4, h⟩ := h
        refine ⟨ho4, ?_⟩
        exact h
  · intro h
    exact h
theorem N_X11_ownHere  {v : VT} {q q' : Int → VT → Prop} (h : P_X11_ownHere  v q) (hq : ∀ r w, q r w → q' r w) : P_X11_ownHere  v q' := by
  unfold P_X11_ownHere at h ⊢
  refine N_X11_isWordHere h (fun r1 v1 h => ?_)
  refine ⟨fun hc => ?_, fun hc => ?_⟩
  · replace h := h.1 hc
    refine N_X11_longHere h (fun r10 h => ?_)
    intro K99 hKK99
    refine n_cut (h K99) ?_ ?_
    · intro h
      refine hKK99  ?_
      refine ⟨fun hc => ?_, fun hc => ?_⟩
      · replace h := h.1 hc
        exact hq _ _ h
      · replace h := h.2 hc
        obtain ⟨ho1, h⟩ := h
        refine ⟨ho1, ?_⟩
        refine ⟨fun hc => ?_, fun hc => ?_⟩
        · replace h := h.1 hc
          exact hq _ _ h
        · replace h := h.2 hc
          obtain ⟨ho2, h⟩ := h
          refine ⟨ho2, ?_⟩
          obtain ⟨ho3, h⟩ := h
          refine ⟨ho3, ?_⟩
          refine ⟨fun hc => ?_, fun hc => ?_⟩
          · replace h := h.1 hc
            exact hq _ _ h
          · replace h := h.2 hc
            obtain ⟨ho4, h⟩ := h
            refine ⟨ho4, ?_⟩
            obtain ⟨ho5, h⟩ := h
            refine ⟨ho5, ?_⟩
            refine ⟨fun hc => ?_, fun hc => ?_⟩
            · replace h := h.1 hc
              exact hq _ _ h
            · replace h := h.2 hc
              exact hq _ _ h
    · intro h
      refine ⟨fun hc => ?_, fun hc => ?_⟩
      · replace h := h.1 hc
        exact h
      · replace h := h.2 hc
        obtain ⟨ho6, h⟩ := h
        refine ⟨ho6, ?_⟩
        refine ⟨fun hc => ?_, fun hc => ?_⟩
        · replace h := h.1 hc
          exact h
        · replace h := h.2 hc
          obtain ⟨ho7, h⟩ := h
          refine ⟨ho7, ?_⟩
          obtain ⟨ho8, h⟩ := h
          refine ⟨ho8, ?_⟩
          refine ⟨fun hc => ?_, fun hc => ?_⟩
          · replace h := h.1 hc
            exact h
          · replace h := h.2 hc
            obtain ⟨ho9, h⟩ := h
            refine ⟨ho9, ?_⟩
            obtain ⟨ho10, h⟩ := h
            refine ⟨ho10, ?_⟩
            refine ⟨fun hc => ?_, fun hc => ?_⟩
            · replace h := h.1 hc
              exact h
            · replace h := h.2 hc
              obtain ⟨ho11, h⟩ := h
              refine ⟨ho11, ?_⟩
              obtain ⟨ho12, h⟩ := h
              refine ⟨ho12, ?_⟩
              refine ⟨fun hc => ?_, fun hc => ?_⟩
              · replace h := h.1 hc
                exact h
              · replace h := h.2 hc
                obtain ⟨ho13, h⟩ := h
                refine ⟨ho13, ?_⟩
                obtain ⟨ho14, h⟩ := h
                refine ⟨ho14, ?_⟩
                refine ⟨fun hc => ?_, fun hc => ?_⟩
                · replace h := h.1 hc
                  exact h
                · replace h := h.2 hc
                  exact hq _ _ h
  · replace h := h.2 hc
    exact hq _ _ h
theorem F_X11_ownHere  {v : VT} {q : Int → VT → Prop} (h : P_X11_ownHere  v q) : P_X11_ownHere  v (fun r w => q r w ∧ ∀ a, ¬ (a = 218) → w a = v a) := by
  unfold P_X11_ownHere at h ⊢
  have hf : ∀ a, ¬ (a = 218) → v a = v a := fun a _ => rfl
  refine N_X11_isWordHere (F_X11_isWordHere h) (fun r1 v1 h => ?_)
  obtain ⟨h, hg⟩ := h
  replace hf : ∀ a, ¬ (a = 218) → v1 a = v a := fun a ha => by rw [hg a (by omega), hf a ha]
  clear hg
  refine ⟨fun hc => ?_, fun hc => ?_⟩
  · replace h := h.1 hc
    refine N_X11_longHere h (fun r10 h => ?_)
    intro K99 hKK99
    refine n_cut (h K99) ?_ ?_
    · intro h
      refine hKK99  ?_
      refine ⟨fun hc => ?_, fun hc => ?_⟩
      · replace h := h.1 hc
        exact ⟨h, hf⟩
      · replace h := h.2 hc
        obtain ⟨ho1, h⟩ := h
        refine ⟨ho1, ?_⟩
        refine ⟨fun hc => ?_, fun hc => ?_⟩
        · replace h := h.1 hc
          exact ⟨h, hf⟩
        · replace h := h.2 hc
          obtain ⟨ho2, h⟩ := h
          refine ⟨ho2, ?_⟩
          obtain ⟨ho3, h⟩ := h
          refine ⟨ho3, ?_⟩
          refine ⟨fun hc => ?_, fun hc => ?_⟩
          · replace h := h.1 hc
            exact ⟨h, hf⟩
          · replace h := h.2 hc
            obtain ⟨ho4, h⟩ := h
            refine ⟨ho4, ?_⟩
            obtain ⟨ho5, h⟩ := h
            refine ⟨ho5, ?_⟩
            refine ⟨fun hc => ?_, fun hc => ?_⟩
            · replace h := h.1 hc
              exact ⟨h, hf⟩
            · replace h := h.2 hc
              exact ⟨h, hf⟩
    · intro h
      refine ⟨fun hc => ?_, fun hc => ?_⟩
      · replace h := h.1 hc
        exact h
      · replace h := h.2 hc
        obtain ⟨ho6, h⟩ := h
        refine ⟨ho6, ?_⟩
        refine ⟨fun hc => ?_, fun hc => ?_⟩
        · replace h := h.1 hc
          exact h
        · replace h := h.2 hc
          obtain ⟨ho7, h⟩ := h
          refine ⟨ho7, ?_⟩
          obtain ⟨ho8, h⟩ := h
          refine ⟨ho8, ?_⟩
          refine ⟨fun hc => ?_, fun hc => ?_⟩
          · replace h := h.1 hc
            exact h
          · replace h := h.2 hc
            obtain ⟨ho9, h⟩ := h
            refine ⟨ho9, ?_⟩
            obtain ⟨ho10, h⟩ := h
            refine ⟨ho10, ?_⟩
            refine ⟨fun hc => ?_, fun hc => ?_⟩
            · replace h := h.1 hc
              exact h
            · replace h := h.2 hc
              obtain ⟨ho11, h⟩ := h
              refine ⟨ho11, ?_⟩
              obtain ⟨ho12, h⟩ := h
              refine ⟨ho12, ?_⟩
              refine ⟨fun hc => ?_, fun hc => ?_⟩
              · replace h := h.1 hc
                exact h
              · replace h := h.2 hc
                obtain ⟨ho13, h⟩ := h
                refine ⟨ho13, ?_⟩
                obtain ⟨ho14, h⟩ := h
                refine ⟨ho14, ?_⟩
                refine ⟨fun hc => ?_, fun hc => ?_⟩
                · replace h := h.1 hc
                  exact h
                · replace h := h.2 hc
                  exact ⟨h, hf⟩
  · replace h := h.2 hc
    exact ⟨h, hf⟩
theorem N_X11_takes {x1 : Int} {v : VT} {q q' : Int → VT → Prop} (h : P_X11_takes x1 v q) (hq : ∀ r w, q r w → q' r w) : P_X11_takes x1 v q' := by
  unfold P_X11_takes at h ⊢
  refine N_X11_ownHere h (fun r1 v1 h => ?_)
  refine ⟨fun hc => ?_, fun hc => ?_⟩
  · replace h := h.1 hc
    refine N_X11_longHere h (fun r16 h => ?_)
    obtain ⟨ho1, h⟩ := h
    refine ⟨ho1, ?_⟩
    intro v20 ev20
    replace h := h v20 ev20
    intro v28 ev28
    replace h := h v28 ev28
    exact hq _ _ h
  · replace h := h.2 hc
    exact hq _ _ h
theorem F_X11_takes {x1 : Int} {v : VT} {q : Int → VT → Prop} (h : P_X11_takes x1 v q) : P_X11_takes x1 v (fun r w => q r w ∧ ∀ a, ¬ (a = 218) → w a = v a) := by
  unfold P_X11_takes at h ⊢
  have hf : ∀ a, ¬ (a = 218) → v a = v a := fun a _ => rfl
  refine N_X11_ownHere (F_X11_ownHere h) (fun r1 v1 h => ?_)
  obtain ⟨h, hg⟩ := h
  replace hf : ∀ a, ¬ (a = 218) → v1 a = v a := fun a ha => by rw [hg a (by omega), hf a ha]
  clear hg
  refine ⟨fun hc => ?_, fun hc => ?_⟩
  · replace h := h.1 hc
    refine N_X11_longHere h (fun r16 h => ?_)
    obtain ⟨ho1, h⟩ := h
    refine ⟨ho1, ?_⟩
    intro v20 ev20
    replace h := h v20 ev20
    replace hf : ∀ a, ¬ (a = 218) → v20 a = v a := fun a ha => by rw [ev20, upd2_off _ _ _ (by omega), hf a ha]
    intro v28 ev28
    replace h := h v28 ev28
    replace hf : ∀ a, ¬ (a = 218) → v28 a = v a := fun a ha => by rw [ev28, upd2_off _ _ _ (by omega), hf a ha]
    exact ⟨h, hf⟩
  · replace h := h.2 hc
    exact ⟨h, hf⟩
theorem N_X11_name  {v : VT} {q q' : Int → VT → Prop} (h : P_X11_name  v q) (hq : ∀ r w, q r w → q' r w) : P_X11_name  v q' := by
  unfold P_X11_name at h ⊢
  refine ⟨fun hc => ?_, fun hc => ?_⟩
  · replace h := h.1 hc
    refine N_X11_isWordHere h (fun r10 v10 h => ?_)
    intro K24 hKK24
    refine n_cut (h K24) ?_ ?_
    · intro v24 h
      refine hKK24 v24 ?_
      refine N_X11_look h (fun r27 v27 h => ?_)
      refine ⟨fun hc => ?_, fun hc => ?_⟩
      · replace h := h.1 hc
        refine N_X11_fail h (fun v45 h => ?_)
        exact hq _ _ h
      · replace h := h.2 hc
        refine N_X11_fail h (fun v45_1 h => ?_)
        exact hq _ _ h
    · intro h
      refine ⟨fun hc => ?_, fun hc => ?_⟩
      · replace h := h.1 hc
        exact h
      · replace h := h.2 hc
        refine N_X11_ownHere h (fun r17 v17 h => ?_)
        refine ⟨fun hc => ?_, fun hc => ?_⟩
        · replace h := h.1 hc
          intro v55 ev55
          replace h := h v55 ev55
          intro X60 hKX60
          refine n_cut (h X60) ?_ ?_
          · intro i1 v60 h
            refine hKX60 i1 v60 ?_
            refine ⟨fun hc => ?_, fun hc => ?_⟩
            · replace h := h.1 hc
              intro v148 ev148
              replace h := h v148 ev148
              exact hq _ _ h
            · replace h := h.2 hc
              obtain ⟨ho1, h⟩ := h
              refine ⟨ho1, ?_⟩
              refine N_X11_isLetter h (fun r80 h => ?_)
              refine ⟨fun hc => ?_, fun hc => ?_⟩
              · replace h := h.1 hc
                intro v148_1 ev148_1
                replace h := h v148_1 ev148_1
                exact hq _ _ h
              · replace h := h.2 hc
                obtain ⟨ho2, h⟩ := h
                refine ⟨ho2, ?_⟩
                refine ⟨fun hc => ?_, fun hc => ?_⟩
                · replace h := h.1 hc
                  obtain ⟨ho3, h⟩ := h
                  refine ⟨ho3, ?_⟩
                  obtain ⟨ho4, h⟩ := h
                  refine ⟨ho4, ?_⟩
                  obtain ⟨ho5, h⟩ := h
                  refine ⟨ho5, ?_⟩
                  obtain ⟨ho6, h⟩ := h
                  refine ⟨ho6, ?_⟩
                  obtain ⟨ho7, h⟩ := h
                  refine ⟨ho7, ?_⟩
                  intro l1 el1
                  replace h := h l1 el1
                  obtain ⟨ho8, h⟩ := h
                  refine ⟨ho8, ?_⟩
                  intro v137 ev137
                  replace h := h v137 ev137
                  exact h
                · replace h := h.2 hc
                  refine N_X11_fail h (fun v105 h => ?_)
                  exact hq _ _ h
          · intro h
            exact h
        · replace h := h.2 hc
          exact h
  · replace h := h.2 hc
    exact hq _ _ h
theorem F_X11_name  {v : VT} {q : Int → VT → Prop} (h : P_X11_name  v q) : P_X11_name  v (fun r w => q r w ∧ ∀ a, ¬ (a = 218) → w a = v a) := by
  unfold P_X11_name at h ⊢
  have hf : ∀ a, ¬ (a = 218) → v a = v a := fun a _ => rfl
  refine ⟨fun hc => ?_, fun hc => ?_⟩
  · replace h := h.1 hc
    refine N_X11_isWordHere (F_X11_isWordHere h) (fun r10 v10 h => ?_)
    obtain ⟨h, hg⟩ := h
    replace hf : ∀ a, ¬ (a = 218) → v10 a = v a := fun a ha => by rw [hg a (by omega), hf a ha]
    clear hg
    intro K24 hKK24
    refine n_cut (h (fun (v24 : VT) => (∀ a, ¬ (a = 218) → v24 a = v a) → K24 v24)) ?_ ?_
    · intro v24 h hf
      refine hKK24 v24 ?_
      refine N_X11_look (F_X11_look h) (fun r27 v27 h => ?_)
      obtain ⟨h, hg⟩ := h
      replace hf : ∀ a, ¬ (a = 218) → v27 a = v a := fun a ha => by rw [hg a (by omega), hf a ha]
      clear hg
      refine ⟨fun hc => ?_, fun hc => ?_⟩
      · replace h := h.1 hc
        refine N_X11_fail (F_X11_fail h) (fun v45 h => ?_)
        obtain ⟨h, hg⟩ := h
        replace hf : ∀ a, ¬ (a = 218) → v45 a = v a := fun a ha => by rw [hg a (by omega), hf a ha]
        clear hg
        exact ⟨h, hf⟩
      · replace h := h.2 hc
        refine N_X11_fail (F_X11_fail h) (fun v45_1 h => ?_)
        obtain ⟨h, hg⟩ := h
        replace hf : ∀ a, ¬ (a = 218) → v45_1 a = v a := fun a ha => by rw [hg a (by omega), hf a ha]
        clear hg
        exact ⟨h, hf⟩
    · intro h
      refine ⟨fun hc => ?_, fun hc => ?_⟩
      · replace h := h.1 hc
        exact h hf
      · replace h := h.2 hc
        refine N_X11_ownHere (F_X11_ownHere h) (fun r17 v17 h => ?_)
        obtain ⟨h, hg⟩ := h
        replace hf : ∀ a, ¬ (a = 218) → v17 a = v a := fun a ha => by rw [hg a (by omega), hf a ha]
        clear hg
        refine ⟨fun hc => ?_, fun hc => ?_⟩
        · replace h := h.1 hc
          intro v55 ev55
          replace h := h v55 ev55
          replace hf : ∀ a, ¬ (a = 218) → v55 a = v a := fun a ha => by rw [ev55, upd2_off _ _ _ (by omega), hf a ha]
          intro X60 hKX60
          refine n_cut (h (fun (i1 : Int) (v60 : VT) => (∀ a, ¬ (a = 218) → v60 a = v a) → X60 i1 v60)) ?_ ?_
          · intro i1 v60 h hf
            refine hKX60 i1 v60 ?_
            refine ⟨fun hc => ?_, fun hc => ?_⟩
            · replace h := h.1 hc
              intro v148 ev148
              replace h := h v148 ev148
              replace hf : ∀ a, ¬ (a = 218) → v148 a = v a := fun a ha => by rw [ev148, upd2_off _ _ _ (by omega), hf a ha]
              exact ⟨h, hf⟩
            · replace h := h.2 hc
              obtain ⟨ho1, h⟩ := h
              refine ⟨ho1, ?_⟩
              refine N_X11_isLetter h (fun r80 h => ?_)
              refine ⟨fun hc => ?_, fun hc => ?_⟩
              · replace h := h.1 hc
                intro v148_1 ev148_1
                replace h := h v148_1 ev148_1
                replace hf : ∀ a, ¬ (a = 218) → v148_1 a = v a := fun a ha => by rw [ev148_1, upd2_off _ _ _ (by omega), hf a ha]
                exact ⟨h, hf⟩
              · replace h := h.2 hc
                obtain ⟨ho2, h⟩ := h
                refine ⟨ho2, ?_⟩
                refine ⟨fun hc => ?_, fun hc => ?_⟩
                · replace h := h.1 hc
                  obtain ⟨ho3, h⟩ := h
                  refine ⟨ho3, ?_⟩
                  obtain ⟨ho4, h⟩ := h
                  refine ⟨ho4, ?_⟩
                  obtain ⟨ho5, h⟩ := h
                  refine ⟨ho5, ?_⟩
                  obtain ⟨ho6, h⟩ := h
                  refine ⟨ho6, ?_⟩
                  obtain ⟨ho7, h⟩ := h
                  refine ⟨ho7, ?_⟩
                  intro l1 el1
                  replace h := h l1 el1
                  obtain ⟨ho8, h⟩ := h
                  refine ⟨ho8, ?_⟩
                  intro v137 ev137
                  replace h := h v137 ev137
                  replace hf : ∀ a, ¬ (a = 218) → v137 a = v a := fun a ha => by rw [ev137, upd2_off _ _ _ (by omega), hf a ha]
                  exact h hf
                · replace h := h.2 hc
                  refine N_X11_fail (F_X11_fail h) (fun v105 h => ?_)
                  obtain ⟨h, hg⟩ := h
                  replace hf : ∀ a, ¬ (a = 218) → v105 a = v a := fun a ha => by rw [hg a (by omega), hf a ha]
                  clear hg
                  exact ⟨h, hf⟩
          · intro h
            exact h hf
        · replace h := h.2 hc
          exact h hf
  · replace h := h.2 hc
    exact ⟨h, hf⟩
theorem N_X11_lineOf {a0 : Nat} {x1 : Int} {x2 : Int} {v : VT} {q q' : Int → Prop} (h : P_X11_lineOf a0 x1 x2 v q) (hq : ∀ r, q r → q' r) : P_X11_lineOf a0 x1 x2 v q' := by
  unfold P_X11_lineOf at h ⊢
  intro K10 hKK10
  refine n_cut (h K10) ?_ ?_
  · intro s0 h
    refine hKK10 s0 ?_
    intro K21 hKK21
    refine n_cut (h K21) ?_ ?_
    · intro s0_1 h
      refine hKK21 s0_1 ?_
      intro X26 hKX26
      refine n_cut (h X26) ?_ ?_
      · intro i5 h
        refine hKX26 i5 ?_
        refine ⟨fun hc => ?_, fun hc => ?_⟩
        · replace h := h.1 hc
          exact hq _ h
        · replace h := h.2 hc
          obtain ⟨ho1, h⟩ := h
          refine ⟨ho1, ?_⟩
          obtain ⟨ho2, h⟩ := h
          refine ⟨ho2, ?_⟩
          obtain ⟨ho3, h⟩ := h
          refine ⟨ho3, ?_⟩
          refine ⟨fun hc => ?_, fun hc => ?_⟩
          · replace h := h.1 hc
            obtain ⟨ho4, h⟩ := h
            refine ⟨ho4, ?_⟩
            exact h
          · replace h := h.2 hc
            obtain ⟨ho5, h⟩ := h
            refine ⟨ho5, ?_⟩
            obtain ⟨ho6, h⟩ := h
            refine ⟨ho6, ?_⟩
            obtain ⟨ho7, h⟩ := h
            refine ⟨ho7, ?_⟩
            obtain ⟨ho8, h⟩ := h
            refine ⟨ho8, ?_⟩
            refine ⟨fun hc => ?_, fun hc => ?_⟩
            · replace h := h.1 hc
              obtain ⟨ho9, h⟩ := h
              refine ⟨ho9, ?_⟩
              exact h
            · replace h := h.2 hc
              exact hq _ h
      · intro h
        exact h
    · intro h
      refine ⟨fun hc => ?_, fun hc => ?_⟩
      · replace h := h.1 hc
        exact h
      · replace h := h.2 hc
        exact h
  · intro h
    refine ⟨fun hc => ?_, fun hc => ?_⟩
    · replace h := h.1 hc
      exact h
    · replace h := h.2 hc
      exact h
theorem N_X11_adds {a0 : Nat} {x1 : Int} {x2 : Int} {x3 : Int} {v : VT} {q q' : VT → Prop} (h : P_X11_adds a0 x1 x2 x3 v q) (hq : ∀ w, q w → q' w) : P_X11_adds a0 x1 x2 x3 v q' := by
  unfold P_X11_adds at h ⊢
  obtain ⟨ho1, h⟩ := h
  refine ⟨ho1, ?_⟩
  obtain ⟨ho2, h⟩ := h
  refine ⟨ho2, ?_⟩
  intro l4 el4
  replace h := h l4 el4
  obtain ⟨ho3, h⟩ := h
  refine ⟨ho3, ?_⟩
  obtain ⟨ho4, h⟩ := h
  refine ⟨ho4, ?_⟩
  intro v19 ev19
  replace h := h v19 ev19
  intro K33 hKK33
  refine n_cut (h K33) ?_ ?_
  · intro s0 h
    refine hKK33 s0 ?_
    obtain ⟨ho5, h⟩ := h
    refine ⟨ho5, ?_⟩
    intro v33 ev33
    replace h := h v33 ev33
    obtain ⟨ho6, h⟩ := h
    refine ⟨ho6, ?_⟩
    refine ⟨fun hc => ?_, fun hc => ?_⟩
    · replace h := h.1 hc
      obtain ⟨ho7, h⟩ := h
      refine ⟨ho7, ?_⟩
      intro v49 ev49
      replace h := h v49 ev49
      obtain ⟨ho8, h⟩ := h
      refine ⟨ho8, ?_⟩
      intro v56 ev56
      replace h := h v56 ev56
      exact hq _ h
    · replace h := h.2 hc
      obtain ⟨ho9, h⟩ := h
      refine ⟨ho9, ?_⟩
      intro v49_1 ev49_1
      replace h := h v49_1 ev49_1
      obtain ⟨ho10, h⟩ := h
      refine ⟨ho10, ?_⟩
      intro v56_1 ev56_1
      replace h := h v56_1 ev56_1
      exact hq _ h
  · intro h
    refine ⟨fun hc => ?_, fun hc => ?_⟩
    · replace h := h.1 hc
      exact h
    · replace h := h.2 hc
      exact h
theorem F_X11_adds {a0 : Nat} {x1 : Int} {x2 : Int} {x3 : Int} {v : VT} {q : VT → Prop} (h : P_X11_adds a0 x1 x2 x3 v q) : P_X11_adds a0 x1 x2 x3 v (fun w => q w ∧ ∀ a, ¬ (a = a0) → w a = v a) := by
  unfold P_X11_adds at h ⊢
  have hf : ∀ a, ¬ (a = a0) → v a = v a := fun a _ => rfl
  obtain ⟨ho1, h⟩ := h
  refine ⟨ho1, ?_⟩
  obtain ⟨ho2, h⟩ := h
  refine ⟨ho2, ?_⟩
  intro l4 el4
  replace h := h l4 el4
  obtain ⟨ho3, h⟩ := h
  refine ⟨ho3, ?_⟩
  obtain ⟨ho4, h⟩ := h
  refine ⟨ho4, ?_⟩
  intro v19 ev19
  replace h := h v19 ev19
  replace hf : ∀ a, ¬ (a = a0) → v19 a = v a := fun a ha => by rw [ev19, upd2_off _ _ _ (by omega), hf a ha]
  intro K33 hKK33
  refine n_cut (h K33) ?_ ?_
  · intro s0 h
    refine hKK33 s0 ?_
    obtain ⟨ho5, h⟩ := h
    refine ⟨ho5, ?_⟩
    intro v33 ev33
    replace h := h v33 ev33
    replace hf : ∀ a, ¬ (a = a0) → v33 a = v a := fun a ha => by rw [ev33, upd2_off _ _ _ (by omega), hf a ha]
    obtain ⟨ho6, h⟩ := h
    refine ⟨ho6, ?_⟩
    refine ⟨fun hc => ?_, fun hc => ?_⟩
    · replace h := h.1 hc
      obtain ⟨ho7, h⟩ := h
      refine ⟨ho7, ?_⟩
      intro v49 ev49
      replace h := h v49 ev49
      replace hf : ∀ a, ¬ (a = a0) → v49 a = v a := fun a ha => by rw [ev49, upd2_off _ _ _ (by omega), hf a ha]
      obtain ⟨ho8, h⟩ := h
      refine ⟨ho8, ?_⟩
      intro v56 ev56
      replace h := h v56 ev56
      replace hf : ∀ a, ¬ (a = a0) → v56 a = v a := fun a ha => by rw [ev56, upd2_off _ _ _ (by omega), hf a ha]
      exact ⟨h, hf⟩
    · replace h := h.2 hc
      obtain ⟨ho9, h⟩ := h
      refine ⟨ho9, ?_⟩
      intro v49_1 ev49_1
      replace h := h v49_1 ev49_1
      replace hf : ∀ a, ¬ (a = a0) → v49_1 a = v a := fun a ha => by rw [ev49_1, upd2_off _ _ _ (by omega), hf a ha]
      obtain ⟨ho10, h⟩ := h
      refine ⟨ho10, ?_⟩
      intro v56_1 ev56_1
      replace h := h v56_1 ev56_1
      replace hf : ∀ a, ¬ (a = a0) → v56_1 a = v a := fun a ha => by rw [ev56_1, upd2_off _ _ _ (by omega), hf a ha]
      exact ⟨h, hf⟩
  · intro h
    refine ⟨fun hc => ?_, fun hc => ?_⟩
    · replace h := h.1 hc
      exact h
    · replace h := h.2 hc
      exact h
theorem N_X11_nodeNamed {a0 : Nat} {x1 : Int} {v : VT} {q q' : Int → Prop} (h : P_X11_nodeNamed a0 x1 v q) (hq : ∀ r, q r → q' r) : P_X11_nodeNamed a0 x1 v q' := by
  unfold P_X11_nodeNamed at h ⊢
  intro X2 hKX2
  refine n_cut (h X2) ?_ ?_
  · intro i2 h
    refine hKX2 i2 ?_
    refine ⟨fun hc => ?_, fun hc => ?_⟩
    · replace h := h.1 hc
      exact hq _ h
    · replace h := h.2 hc
      obtain ⟨ho1, h⟩ := h
      refine ⟨ho1, ?_⟩
      obtain ⟨ho2, h⟩ := h
      refine ⟨ho2, ?_⟩
      refine ⟨fun hc => ?_, fun hc => ?_⟩
      · replace h := h.1 hc
        obtain ⟨ho3, h⟩ := h
        refine ⟨ho3, ?_⟩
        exact h
      · replace h := h.2 hc
        exact hq _ h
  · intro h
    exact h
theorem N_X11_room {x1 : Int} {v : VT} {q q' : VT → Prop} (h : P_X11_room x1 v q) (hq : ∀ w, q w → q' w) : P_X11_room x1 v q' := by
  unfold P_X11_room at h ⊢
  refine N_X11_look h (fun r1 v1 h => ?_)
  refine ⟨fun hc => ?_, fun hc => ?_⟩
  · replace h := h.1 hc
    exact hq _ h
  · replace h := h.2 hc
    refine ⟨fun hc => ?_, fun hc => ?_⟩
    · replace h := h.1 hc
      refine N_X11_fail h (fun v32 h => ?_)
      exact hq _ h
    · replace h := h.2 hc
      refine N_X11_fail h (fun v32_1 h => ?_)
      exact hq _ h
theorem F_X11_room {x1 : Int} {v : VT} {q : VT → Prop} (h : P_X11_room x1 v q) : P_X11_room x1 v (fun w => q w ∧ ∀ a, ¬ (a = 218) → w a = v a) := by
  unfold P_X11_room at h ⊢
  have hf : ∀ a, ¬ (a = 218) → v a = v a := fun a _ => rfl
  refine N_X11_look (F_X11_look h) (fun r1 v1 h => ?_)
  obtain ⟨h, hg⟩ := h
  replace hf : ∀ a, ¬ (a = 218) → v1 a = v a := fun a ha => by rw [hg a (by omega), hf a ha]
  clear hg
  refine ⟨fun hc => ?_, fun hc => ?_⟩
  · replace h := h.1 hc
    exact ⟨h, hf⟩
  · replace h := h.2 hc
    refine ⟨fun hc => ?_, fun hc => ?_⟩
    · replace h := h.1 hc
      refine N_X11_fail (F_X11_fail h) (fun v32 h => ?_)
      obtain ⟨h, hg⟩ := h
      replace hf : ∀ a, ¬ (a = 218) → v32 a = v a := fun a ha => by rw [hg a (by omega), hf a ha]
      clear hg
      exact ⟨h, hf⟩
    · replace h := h.2 hc
      refine N_X11_fail (F_X11_fail h) (fun v32_1 h => ?_)
      obtain ⟨h, hg⟩ := h
      replace hf : ∀ a, ¬ (a = 218) → v32_1 a = v a := fun a ha => by rw [hg a (by omega), hf a ha]
      clear hg
      exact ⟨h, hf⟩
theorem N_X11_nodesTold  {v : VT} {q q' : VT → Prop} (h : P_X11_nodesTold  v q) (hq : ∀ w, q w → q' w) : P_X11_nodesTold  v q' := by
  unfold P_X11_nodesTold at h ⊢
  intro K12 hKK12
  refine n_cut (h K12) ?_ ?_
  · intro s0 h
    refine hKK12 s0 ?_
    intro X13 hKX13
    refine n_cut (h X13) ?_ ?_
    · intro i1 v13 h
      refine hKX13 i1 v13 ?_
      refine ⟨fun hc => ?_, fun hc => ?_⟩
      · replace h := h.1 hc
        exact hq _ h
      · replace h := h.2 hc
        refine N_X11_room h (fun v24 h => ?_)
        refine N_X11_name h (fun r28 v28 h => ?_)
        intro K60 hKK60
        refine n_cut (h K60) ?_ ?_
        · intro v60 h
          refine hKK60 v60 ?_
          refine ⟨fun hc => ?_, fun hc => ?_⟩
          · replace h := h.1 hc
            refine N_X11_takesSign h (fun r94 v94 h => ?_)
            exact h
          · replace h := h.2 hc
            obtain ⟨ho1, h⟩ := h
            refine ⟨ho1, ?_⟩
            obtain ⟨ho2, h⟩ := h
            refine ⟨ho2, ?_⟩
            intro v80 ev80
            replace h := h v80 ev80
            obtain ⟨ho3, h⟩ := h
            refine ⟨ho3, ?_⟩
            intro v90 ev90
            replace h := h v90 ev90
            refine N_X11_takesSign h (fun r94_1 v94_1 h => ?_)
            exact h
        · intro h
          refine ⟨fun hc => ?_, fun hc => ?_⟩
          · replace h := h.1 hc
            exact h
          · replace h := h.2 hc
            refine N_X11_nodeNamed h (fun r44 h => ?_)
            refine ⟨fun hc => ?_, fun hc => ?_⟩
            · replace h := h.1 hc
              exact h
            · replace h := h.2 hc
              refine N_X11_fail h (fun v57 h => ?_)
              exact h
    · intro h
      exact h
  · intro h
    refine ⟨fun hc => ?_, fun hc => ?_⟩
    · replace h := h.1 hc
      exact h
    · replace h := h.2 hc
      exact h
theorem F_X11_nodesTold  {v : VT} {q : VT → Prop} (h : P_X11_nodesTold  v q) : P_X11_nodesTold  v (fun w => q w ∧ ∀ a, ¬ (a = 218 ∨ a = 221) → w a = v a) := by
  unfold P_X11_nodesTold at h ⊢
  have hf : ∀ a, ¬ (a = 218 ∨ a = 221) → v a = v a := fun a _ => rfl
  intro K12 hKK12
  refine n_cut (h K12) ?_ ?_
  · intro s0 h
    refine hKK12 s0 ?_
    intro X13 hKX13
    refine n_cut (h (fun (i1 : Int) (v13 : VT) => (∀ a, ¬ (a = 218 ∨ a = 221) → v13 a = v a) → X13 i1 v13)) ?_ ?_
    · intro i1 v13 h hf
      refine hKX13 i1 v13 ?_
      refine ⟨fun hc => ?_, fun hc => ?_⟩
      · replace h := h.1 hc
        exact ⟨h, hf⟩
      · replace h := h.2 hc
        refine N_X11_room (F_X11_room h) (fun v24 h => ?_)
        obtain ⟨h, hg⟩ := h
        replace hf : ∀ a, ¬ (a = 218 ∨ a = 221) → v24 a = v a := fun a ha => by rw [hg a (by omega), hf a ha]
        clear hg
        refine N_X11_name (F_X11_name h) (fun r28 v28 h => ?_)
        obtain ⟨h, hg⟩ := h
        replace hf : ∀ a, ¬ (a = 218 ∨ a = 221) → v28 a = v a := fun a ha => by rw [hg a (by omega), hf a ha]
        clear hg
        intro K60 hKK60
        refine n_cut (h (fun (v60 : VT) => (∀ a, ¬ (a = 218 ∨ a = 221) → v60 a = v a) → K60 v60)) ?_ ?_
        · intro v60 h hf
          refine hKK60 v60 ?_
          refine ⟨fun hc => ?_, fun hc => ?_⟩
          · replace h := h.1 hc
            refine N_X11_takesSign (F_X11_takesSign h) (fun r94 v94 h => ?_)
            obtain ⟨h, hg⟩ := h
            replace hf : ∀ a, ¬ (a = 218 ∨ a = 221) → v94 a = v a := fun a ha => by rw [hg a (by omega), hf a ha]
            clear hg
            exact h hf
          · replace h := h.2 hc
            obtain ⟨ho1, h⟩ := h
            refine ⟨ho1, ?_⟩
            obtain ⟨ho2, h⟩ := h
            refine ⟨ho2, ?_⟩
            intro v80 ev80
            replace h := h v80 ev80
            replace hf : ∀ a, ¬ (a = 218 ∨ a = 221) → v80 a = v a := fun a ha => by rw [ev80, upd2_off _ _ _ (by omega), hf a ha]
            obtain ⟨ho3, h⟩ := h
            refine ⟨ho3, ?_⟩
            intro v90 ev90
            replace h := h v90 ev90
            replace hf : ∀ a, ¬ (a = 218 ∨ a = 221) → v90 a = v a := fun a ha => by rw [ev90, upd2_off _ _ _ (by omega), hf a ha]
            refine N_X11_takesSign (F_X11_takesSign h) (fun r94_1 v94_1 h => ?_)
            obtain ⟨h, hg⟩ := h
            replace hf : ∀ a, ¬ (a = 218 ∨ a = 221) → v94_1 a = v a := fun a ha => by rw [hg a (by omega), hf a ha]
            clear hg
            exact h hf
        · intro h
          refine ⟨fun hc => ?_, fun hc => ?_⟩
          · replace h := h.1 hc
            exact h hf
          · replace h := h.2 hc
            refine N_X11_nodeNamed h (fun r44 h => ?_)
            refine ⟨fun hc => ?_, fun hc => ?_⟩
            · replace h := h.1 hc
              exact h hf
            · replace h := h.2 hc
              refine N_X11_fail (F_X11_fail h) (fun v57 h => ?_)
              obtain ⟨h, hg⟩ := h
              replace hf : ∀ a, ¬ (a = 218 ∨ a = 221) → v57 a = v a := fun a ha => by rw [hg a (by omega), hf a ha]
              clear hg
              exact h hf
    · intro h
      exact h hf
  · intro h
    refine ⟨fun hc => ?_, fun hc => ?_⟩
    · replace h := h.1 hc
      exact h
    · replace h := h.2 hc
      exact h
theorem N_X11_wayTold  {v : VT} {q q' : VT → Prop} (h : P_X11_wayTold  v q) (hq : ∀ w, q w → q' w) : P_X11_wayTold  v q' := by
  unfold P_X11_wayTold at h ⊢
  intro K16 hKK16
  refine n_cut (h K16) ?_ ?_
  · intro s0 h
    refine hKK16 s0 ?_
    intro X17 hKX17
    refine n_cut (h X17) ?_ ?_
    · intro i1 i2 i3 v17 h
      refine hKX17 i1 i2 i3 v17 ?_
      refine ⟨fun hc => ?_, fun hc => ?_⟩
      · replace h := h.1 hc
        exact hq _ h
      · replace h := h.2 hc
        refine N_X11_room h (fun v23 h => ?_)
        refine N_X11_name h (fun r27 v27 h => ?_)
        intro K52 hKK52
        refine n_cut (h K52) ?_ ?_
        · intro s0_1 h
          refine hKK52 s0_1 ?_
          intro K76 hKK76
          refine n_cut (h K76) ?_ ?_
          · intro v76 h
            refine hKK76 v76 ?_
            intro K116 hKK116
            refine n_cut (h K116) ?_ ?_
            · intro v116 h
              refine hKK116 v116 ?_
              intro K147 hKK147
              refine n_cut (h K147) ?_ ?_
              · intro v147 h
                refine hKK147 v147 ?_
                intro K169 hKK169
                refine n_cut (h K169) ?_ ?_
                · intro v169 h
                  refine hKK169 v169 ?_
                  obtain ⟨ho1, h⟩ := h
                  refine ⟨ho1, ?_⟩
                  intro K186 hKK186
                  refine n_cut (h K186) ?_ ?_
                  · intro v186 h
                    refine hKK186 v186 ?_
                    refine ⟨fun hc => ?_, fun hc => ?_⟩
                    · replace h := h.1 hc
                      exact h
                    · replace h := h.2 hc
                      refine ⟨fun hc => ?_, fun hc => ?_⟩
                      · replace h := h.1 hc
                        exact h
                      · replace h := h.2 hc
                        refine N_X11_takesSign h (fun r201 v201 h => ?_)
                        refine ⟨fun hc => ?_, fun hc => ?_⟩
                        · replace h := h.1 hc
                          exact h
                        · replace h := h.2 hc
                          exact h
                  · intro h
                    refine ⟨fun hc => ?_, fun hc => ?_⟩
                    · replace h := h.1 hc
                      exact h
                    · replace h := h.2 hc
                      refine N_X11_asksSign h (fun v183 h => ?_)
                      exact h
                · intro h
                  refine ⟨fun hc => ?_, fun hc => ?_⟩
                  · replace h := h.1 hc
                    exact h
                  · replace h := h.2 hc
                    refine ⟨fun hc => ?_, fun hc => ?_⟩
                    · replace h := h.1 hc
                      exact h
                    · replace h := h.2 hc
                      refine N_X11_adds h (fun v166 h => ?_)
                      exact h
              · intro h
                refine ⟨fun hc => ?_, fun hc => ?_⟩
                · replace h := h.1 hc
                  exact h
                · replace h := h.2 hc
                  refine ⟨fun hc => ?_, fun hc => ?_⟩
                  · replace h := h.1 hc
                    exact h
                  · replace h := h.2 hc
                    refine ⟨fun hc => ?_, fun hc => ?_⟩
                    · replace h := h.1 hc
                      exact h
                    · replace h := h.2 hc
                      refine N_X11_fail h (fun v144 h => ?_)
                      exact h
            · intro h
              refine ⟨fun hc => ?_, fun hc => ?_⟩
              · replace h := h.1 hc
                exact h
              · replace h := h.2 hc
                refine ⟨fun hc => ?_, fun hc => ?_⟩
                · replace h := h.1 hc
                  exact h
                · replace h := h.2 hc
                  intro K107 hKK107
                  refine n_cut (h K107) ?_ ?_
                  · intro h
                    refine hKK107  ?_
                    refine N_X11_fail h (fun v113 h => ?_)
                    exact h
                  · intro h
                    refine ⟨fun hc => ?_, fun hc => ?_⟩
                    · replace h := h.1 hc
                      exact h
                    · replace h := h.2 hc
                      refine N_X11_lineOf h (fun r100 h => ?_)
                      refine ⟨fun hc => ?_, fun hc => ?_⟩
                      · replace h := h.1 hc
                        exact h
                      · replace h := h.2 hc
                        exact h
          · intro h
            refine ⟨fun hc => ?_, fun hc => ?_⟩
            · replace h := h.1 hc
              exact h
            · replace h := h.2 hc
              refine ⟨fun hc => ?_, fun hc => ?_⟩
              · replace h := h.1 hc
                exact h
              · replace h := h.2 hc
                refine N_X11_fail h (fun v73 h => ?_)
                exact h
        · intro h
          refine ⟨fun hc => ?_, fun hc => ?_⟩
          · replace h := h.1 hc
            exact h
          · replace h := h.2 hc
            refine N_X11_nodeNamed h (fun r45 h => ?_)
            exact h
    · intro h
      exact h
  · intro h
    refine ⟨fun hc => ?_, fun hc => ?_⟩
    · replace h := h.1 hc
      exact h
    · replace h := h.2 hc
      exact h
theorem F_X11_wayTold  {v : VT} {q : VT → Prop} (h : P_X11_wayTold  v q) : P_X11_wayTold  v (fun w => q w ∧ ∀ a, ¬ (a = 218 ∨ a = 221) → w a = v a) := by
  unfold P_X11_wayTold at h ⊢
  have hf : ∀ a, ¬ (a = 218 ∨ a = 221) → v a = v a := fun a _ => rfl
  intro K16 hKK16
  refine n_cut (h K16) ?_ ?_
  · intro s0 h
    refine hKK16 s0 ?_
    intro X17 hKX17
    refine n_cut (h (fun (i1 : Int) (i2 : Int) (i3 : Int) (v17 : VT) => (∀ a, ¬ (a = 218 ∨ a = 221) → v17 a = v a) → X17 i1 i2 i3 v17)) ?_ ?_
    · intro i1 i2 i3 v17 h hf
      refine hKX17 i1 i2 i3 v17 ?_
      refine ⟨fun hc => ?_, fun hc => ?_⟩
      · replace h := h.1 hc
        exact ⟨h, hf⟩
      · replace h := h.2 hc
        refine N_X11_room (F_X11_room h) (fun v23 h => ?_)
        obtain ⟨h, hg⟩ := h
        replace hf : ∀ a, ¬ (a = 218 ∨ a = 221) → v23 a = v a := fun a ha => by rw [hg a (by omega), hf a ha]
        clear hg
        refine N_X11_name (F_X11_name h) (fun r27 v27 h => ?_)
        obtain ⟨h, hg⟩ := h
        replace hf : ∀ a, ¬ (a = 218 ∨ a = 221) → v27 a = v a := fun a ha => by rw [hg a (by omega), hf a ha]
        clear hg
        intro K52 hKK52
        refine n_cut (h K52) ?_ ?_
        · intro s0_1 h
          refine hKK52 s0_1 ?_
          intro K76 hKK76
          refine n_cut (h (fun (v76 : VT) => (∀ a, ¬ (a = 218 ∨ a = 221) → v76 a = v a) → K76 v76)) ?_ ?_
          · intro v76 h hf
            refine hKK76 v76 ?_
            intro K116 hKK116
            refine n_cut (h (fun (v116 : VT) => (∀ a, ¬ (a = 218 ∨ a = 221) → v116 a = v a) → K116 v116)) ?_ ?_
            · intro v116 h hf
              refine hKK116 v116 ?_
              intro K147 hKK147
              refine n_cut (h (fun (v147 : VT) => (∀ a, ¬ (a = 218 ∨ a = 221) → v147 a = v a) → K147 v147)) ?_ ?_
              · intro v147 h hf
                refine hKK147 v147 ?_
                intro K169 hKK169
                refine n_cut (h (fun (v169 : VT) => (∀ a, ¬ (a = 218 ∨ a = 221) → v169 a = v a) → K169 v169)) ?_ ?_
                · intro v169 h hf
                  refine hKK169 v169 ?_
                  obtain ⟨ho1, h⟩ := h
                  refine ⟨ho1, ?_⟩
                  intro K186 hKK186
                  refine n_cut (h (fun (v186 : VT) => (∀ a, ¬ (a = 218 ∨ a = 221) → v186 a = v a) → K186 v186)) ?_ ?_
                  · intro v186 h hf
                    refine hKK186 v186 ?_
                    refine ⟨fun hc => ?_, fun hc => ?_⟩
                    · replace h := h.1 hc
                      exact h hf
                    · replace h := h.2 hc
                      refine ⟨fun hc => ?_, fun hc => ?_⟩
                      · replace h := h.1 hc
                        exact h hf
                      · replace h := h.2 hc
                        refine N_X11_takesSign (F_X11_takesSign h) (fun r201 v201 h => ?_)
                        obtain ⟨h, hg⟩ := h
                        replace hf : ∀ a, ¬ (a = 218 ∨ a = 221) → v201 a = v a := fun a ha => by rw [hg a (by omega), hf a ha]
                        clear hg
                        refine ⟨fun hc => ?_, fun hc => ?_⟩
                        · replace h := h.1 hc
                          exact h hf
                        · replace h := h.2 hc
                          exact h hf
                  · intro h
                    refine ⟨fun hc => ?_, fun hc => ?_⟩
                    · replace h := h.1 hc
                      exact h hf
                    · replace h := h.2 hc
                      refine N_X11_asksSign (F_X11_asksSign h) (fun v183 h => ?_)
                      obtain ⟨h, hg⟩ := h
                      replace hf : ∀ a, ¬ (a = 218 ∨ a = 221) → v183 a = v a := fun a ha => by rw [hg a (by omega), hf a ha]
                      clear hg
                      exact h hf
                · intro h
                  refine ⟨fun hc => ?_, fun hc => ?_⟩
                  · replace h := h.1 hc
                    exact h hf
                  · replace h := h.2 hc
                    refine ⟨fun hc => ?_, fun hc => ?_⟩
                    · replace h := h.1 hc
                      exact h hf
                    · replace h := h.2 hc
                      refine N_X11_adds (F_X11_adds h) (fun v166 h => ?_)
                      obtain ⟨h, hg⟩ := h
                      replace hf : ∀ a, ¬ (a = 218 ∨ a = 221) → v166 a = v a := fun a ha => by rw [hg a (by omega), hf a ha]
                      clear hg
                      exact h hf
              · intro h
                refine ⟨fun hc => ?_, fun hc => ?_⟩
                · replace h := h.1 hc
                  exact h hf
                · replace h := h.2 hc
                  refine ⟨fun hc => ?_, fun hc => ?_⟩
                  · replace h := h.1 hc
                    exact h hf
                  · replace h := h.2 hc
                    refine ⟨fun hc => ?_, fun hc => ?_⟩
                    · replace h := h.1 hc
                      exact h hf
                    · replace h := h.2 hc
                      refine N_X11_fail (F_X11_fail h) (fun v144 h => ?_)
                      obtain ⟨h, hg⟩ := h
                      replace hf : ∀ a, ¬ (a = 218 ∨ a = 221) → v144 a = v a := fun a ha => by rw [hg a (by omega), hf a ha]
                      clear hg
                      exact h hf
            · intro h
              refine ⟨fun hc => ?_, fun hc => ?_⟩
              · replace h := h.1 hc
                exact h hf
              · replace h := h.2 hc
                refine ⟨fun hc => ?_, fun hc => ?_⟩
                · replace h := h.1 hc
                  exact h hf
                · replace h := h.2 hc
                  intro K107 hKK107
                  refine n_cut (h K107) ?_ ?_
                  · intro h
                    refine hKK107  ?_
                    refine N_X11_fail (F_X11_fail h) (fun v113 h => ?_)
                    obtain ⟨h, hg⟩ := h
                    replace hf : ∀ a, ¬ (a = 218 ∨ a = 221) → v113 a = v a := fun a ha => by rw [hg a (by omega), hf a ha]
                    clear hg
                    exact h hf
                  · intro h
                    refine ⟨fun hc => ?_, fun hc => ?_⟩
                    · replace h := h.1 hc
                      exact h
                    · replace h := h.2 hc
                      refine N_X11_lineOf h (fun r100 h => ?_)
                      refine ⟨fun hc => ?_, fun hc => ?_⟩
                      · replace h := h.1 hc
                        exact h hf
                      · replace h := h.2 hc
                        exact h
          · intro h
            refine ⟨fun hc => ?_, fun hc => ?_⟩
            · replace h := h.1 hc
              exact h hf
            · replace h := h.2 hc
              refine ⟨fun hc => ?_, fun hc => ?_⟩
              · replace h := h.1 hc
                exact h hf
              · replace h := h.2 hc
                refine N_X11_fail (F_X11_fail h) (fun v73 h => ?_)
                obtain ⟨h, hg⟩ := h
                replace hf : ∀ a, ¬ (a = 218 ∨ a = 221) → v73 a = v a := fun a ha => by rw [hg a (by omega), hf a ha]
                clear hg
                exact h hf
        · intro h
          refine ⟨fun hc => ?_, fun hc => ?_⟩
          · replace h := h.1 hc
            exact h
          · replace h := h.2 hc
            refine N_X11_nodeNamed h (fun r45 h => ?_)
            exact h
    · intro h
      exact h hf
  · intro h
    refine ⟨fun hc => ?_, fun hc => ?_⟩
    · replace h := h.1 hc
      exact h
    · replace h := h.2 hc
      exact h
theorem N_X11_statementTold  {v : VT} {q q' : VT → Prop} (h : P_X11_statementTold  v q) (hq : ∀ w, q w → q' w) : P_X11_statementTold  v q' := by
  unfold P_X11_statementTold at h ⊢
  refine N_X11_look h (fun r1 v1 h => ?_)
  refine N_X11_ownHere h (fun r11 v11 h => ?_)
  intro K42 hKK42
  refine n_cut (h K42) ?_ ?_
  · intro v42 h
    refine hKK42 v42 ?_
    intro K72 hKK72
    refine n_cut (h K72) ?_ ?_
    · intro v72 h
      refine hKK72 v72 ?_
      refine N_X11_asksSign h (fun v75 h => ?_)
      obtain ⟨ho1, h⟩ := h
      refine ⟨ho1, ?_⟩
      intro v85 ev85
      replace h := h v85 ev85
      exact hq _ h
    · intro h
      refine ⟨fun hc => ?_, fun hc => ?_⟩
      · replace h := h.1 hc
        exact h
      · replace h := h.2 hc
        refine N_X11_takes h (fun r51 v51 h => ?_)
        refine ⟨fun hc => ?_, fun hc => ?_⟩
        · replace h := h.1 hc
          exact h
        · replace h := h.2 hc
          refine ⟨fun hc => ?_, fun hc => ?_⟩
          · replace h := h.1 hc
            refine N_X11_wayTold h (fun v69 h => ?_)
            exact h
          · replace h := h.2 hc
            refine N_X11_nodesTold h (fun v62 h => ?_)
            exact h
  · intro h
    intro K36 hKK36
    refine n_cut (h K36) ?_ ?_
    · intro h
      refine hKK36  ?_
      refine N_X11_fail h (fun v39 h => ?_)
      exact h
    · intro h
      refine ⟨fun hc => ?_, fun hc => ?_⟩
      · replace h := h.1 hc
        exact h
      · replace h := h.2 hc
        intro K33 hKK33
        refine n_cut (h K33) ?_ ?_
        · intro s0 h
          refine hKK33 s0 ?_
          refine ⟨fun hc => ?_, fun hc => ?_⟩
          · replace h := h.1 hc
            exact h
          · replace h := h.2 hc
            exact h
        · intro h
          refine ⟨fun hc => ?_, fun hc => ?_⟩
          · replace h := h.1 hc
            exact h
          · replace h := h.2 hc
            exact h
theorem F_X11_statementTold  {v : VT} {q : VT → Prop} (h : P_X11_statementTold  v q) : P_X11_statementTold  v (fun w => q w ∧ ∀ a, ¬ (a = 218 ∨ a = 221) → w a = v a) := by
  unfold P_X11_statementTold at h ⊢
  have hf : ∀ a, ¬ (a = 218 ∨ a = 221) → v a = v a := fun a _ => rfl
  refine N_X11_look (F_X11_look h) (fun r1 v1 h => ?_)
  obtain ⟨h, hg⟩ := h
  replace hf : ∀ a, ¬ (a = 218 ∨ a = 221) → v1 a = v a := fun a ha => by rw [hg a (by omega), hf a ha]
  clear hg
  refine N_X11_ownHere (F_X11_ownHere h) (fun r11 v11 h => ?_)
  obtain ⟨h, hg⟩ := h
  replace hf : ∀ a, ¬ (a = 218 ∨ a = 221) → v11 a = v a := fun a ha => by rw [hg a (by omega), hf a ha]
  clear hg
  intro K42 hKK42
  refine n_cut (h (fun (v42 : VT) => (∀ a, ¬ (a = 218 ∨ a = 221) → v42 a = v a) → K42 v42)) ?_ ?_
  · intro v42 h hf
    refine hKK42 v42 ?_
    intro K72 hKK72
    refine n_cut (h (fun (v72 : VT) => (∀ a, ¬ (a = 218 ∨ a = 221) → v72 a = v a) → K72 v72)) ?_ ?_
    · intro v72 h hf
      refine hKK72 v72 ?_
      refine N_X11_asksSign (F_X11_asksSign h) (fun v75 h => ?_)
      obtain ⟨h, hg⟩ := h
      replace hf : ∀ a, ¬ (a = 218 ∨ a = 221) → v75 a = v a := fun a ha => by rw [hg a (by omega), hf a ha]
      clear hg
      obtain ⟨ho1, h⟩ := h
      refine ⟨ho1, ?_⟩
      intro v85 ev85
      replace h := h v85 ev85
      replace hf : ∀ a, ¬ (a = 218 ∨ a = 221) → v85 a = v a := fun a ha => by rw [ev85, upd2_off _ _ _ (by omega), hf a ha]
      exact ⟨h, hf⟩
    · intro h
      refine ⟨fun hc => ?_, fun hc => ?_⟩
      · replace h := h.1 hc
        exact h hf
      · replace h := h.2 hc
        refine N_X11_takes (F_X11_takes h) (fun r51 v51 h => ?_)
        obtain ⟨h, hg⟩ := h
        replace hf : ∀ a, ¬ (a = 218 ∨ a = 221) → v51 a = v a := fun a ha => by rw [hg a (by omega), hf a ha]
        clear hg
        refine ⟨fun hc => ?_, fun hc => ?_⟩
        · replace h := h.1 hc
          exact h hf
        · replace h := h.2 hc
          refine ⟨fun hc => ?_, fun hc => ?_⟩
          · replace h := h.1 hc
            refine N_X11_wayTold (F_X11_wayTold h) (fun v69 h => ?_)
            obtain ⟨h, hg⟩ := h
            replace hf : ∀ a, ¬ (a = 218 ∨ a = 221) → v69 a = v a := fun a ha => by rw [hg a (by omega), hf a ha]
            clear hg
            exact h hf
          · replace h := h.2 hc
            refine N_X11_nodesTold (F_X11_nodesTold h) (fun v62 h => ?_)
            obtain ⟨h, hg⟩ := h
            replace hf : ∀ a, ¬ (a = 218 ∨ a = 221) → v62 a = v a := fun a ha => by rw [hg a (by omega), hf a ha]
            clear hg
            exact h hf
  · intro h
    intro K36 hKK36
    refine n_cut (h K36) ?_ ?_
    · intro h
      refine hKK36  ?_
      refine N_X11_fail (F_X11_fail h) (fun v39 h => ?_)
      obtain ⟨h, hg⟩ := h
      replace hf : ∀ a, ¬ (a = 218 ∨ a = 221) → v39 a = v a := fun a ha => by rw [hg a (by omega), hf a ha]
      clear hg
      exact h hf
    · intro h
      refine ⟨fun hc => ?_, fun hc => ?_⟩
      · replace h := h.1 hc
        exact h
      · replace h := h.2 hc
        intro K33 hKK33
        refine n_cut (h K33) ?_ ?_
        · intro s0 h
          refine hKK33 s0 ?_
          refine ⟨fun hc => ?_, fun hc => ?_⟩
          · replace h := h.1 hc
            exact h hf
          · replace h := h.2 hc
            exact h
        · intro h
          refine ⟨fun hc => ?_, fun hc => ?_⟩
          · replace h := h.1 hc
            exact h
          · replace h := h.2 hc
            exact h
theorem N_X11_net  {v : VT} {q q' : Int → VT → Prop} (h : P_X11_net  v q) (hq : ∀ r w, q r w → q' r w) : P_X11_net  v q' := by
  unfold P_X11_net at h ⊢
  intro v5 ev5
  replace h := h v5 ev5
  intro v10 ev10
  replace h := h v10 ev10
  intro v15 ev15
  replace h := h v15 ev15
  intro v20 ev20
  replace h := h v20 ev20
  intro v25 ev25
  replace h := h v25 ev25
  intro v30 ev30
  replace h := h v30 ev30
  intro v35 ev35
  replace h := h v35 ev35
  intro K60 hKK60
  refine n_cut (h K60) ?_ ?_
  · intro v60 h
    refine hKK60 v60 ?_
    refine N_X11_statementTold h (fun v61 h => ?_)
    intro K86 hKK86
    refine n_cut (h K86) ?_ ?_
    · intro v86 h
      refine hKK86 v86 ?_
      intro v91 ev91
      replace h := h v91 ev91
      intro v99 ev99
      replace h := h v99 ev99
      refine ⟨fun hc => ?_, fun hc => ?_⟩
      · replace h := h.1 hc
        intro K142 hKK142
        refine n_cut (h K142) ?_ ?_
        · intro v142 h
          refine hKK142 v142 ?_
          intro v144 ev144
          replace h := h v144 ev144
          intro v149 ev149
          replace h := h v149 ev149
          intro v154 ev154
          replace h := h v154 ev154
          intro v159 ev159
          replace h := h v159 ev159
          exact hq _ _ h
        · intro h
          intro X117 hKX117
          refine n_cut (h X117) ?_ ?_
          · intro i1 v117 h
            refine hKX117 i1 v117 ?_
            refine ⟨fun hc => ?_, fun hc => ?_⟩
            · replace h := h.1 hc
              exact h
            · replace h := h.2 hc
              obtain ⟨ho1, h⟩ := h
              refine ⟨ho1, ?_⟩
              obtain ⟨ho2, h⟩ := h
              refine ⟨ho2, ?_⟩
              intro v135 ev135
              replace h := h v135 ev135
              obtain ⟨ho3, h⟩ := h
              refine ⟨ho3, ?_⟩
              exact h
          · intro h
            exact h
      · replace h := h.2 hc
        refine N_X11_refuses h (fun r111 v111 h => ?_)
        exact hq _ _ h
    · intro h
      intro X64 hKX64
      refine n_cut (h X64) ?_ ?_
      · intro v64 h
        refine hKX64 v64 ?_
        refine ⟨fun hc => ?_, fun hc => ?_⟩
        · replace h := h.1 hc
          exact h
        · replace h := h.2 hc
          refine N_X11_look h (fun r72 v72 h => ?_)
          refine ⟨fun hc => ?_, fun hc => ?_⟩
          · replace h := h.1 hc
            exact h
          · replace h := h.2 hc
            refine N_X11_statementTold h (fun v80 h => ?_)
            exact h
      · intro h
        exact h
  · intro h
    intro X40 hKX40
    refine n_cut (h X40) ?_ ?_
    · intro i1_1 v40 h
      refine hKX40 i1_1 v40 ?_
      refine ⟨fun hc => ?_, fun hc => ?_⟩
      · replace h := h.1 hc
        exact h
      · replace h := h.2 hc
        obtain ⟨ho4, h⟩ := h
        refine ⟨ho4, ?_⟩
        intro v53 ev53
        replace h := h v53 ev53
        obtain ⟨ho5, h⟩ := h
        refine ⟨ho5, ?_⟩
        exact h
    · intro h
      exact h
theorem F_X11_net  {v : VT} {q : Int → VT → Prop} (h : P_X11_net  v q) : P_X11_net  v (fun r w => q r w ∧ ∀ a, ¬ (a = 218 ∨ (220 ≤ a ∧ a ≤ 222)) → w a = v a) := by
  unfold P_X11_net at h ⊢
  have hf : ∀ a, ¬ (a = 218 ∨ (220 ≤ a ∧ a ≤ 222)) → v a = v a := fun a _ => rfl
  intro v5 ev5
  replace h := h v5 ev5
  replace hf : ∀ a, ¬ (a = 218 ∨ (220 ≤ a ∧ a ≤ 222)) → v5 a = v a := fun a ha => by rw [ev5, upd2_off _ _ _ (by omega), hf a ha]
  intro v10 ev10
  replace h := h v10 ev10
  replace hf : ∀ a, ¬ (a = 218 ∨ (220 ≤ a ∧ a ≤ 222)) → v10 a = v a := fun a ha => by rw [ev10, upd2_off _ _ _ (by omega), hf a ha]
  intro v15 ev15
  replace h := h v15 ev15
  replace hf : ∀ a, ¬ (a = 218 ∨ (220 ≤ a ∧ a ≤ 222)) → v15 a = v a := fun a ha => by rw [ev15, upd2_off _ _ _ (by omega), hf a ha]
  intro v20 ev20
  replace h := h v20 ev20
  replace hf : ∀ a, ¬ (a = 218 ∨ (220 ≤ a ∧ a ≤ 222)) → v20 a = v a := fun a ha => by rw [ev20, upd2_off _ _ _ (by omega), hf a ha]
  intro v25 ev25
  replace h := h v25 ev25
  replace hf : ∀ a, ¬ (a = 218 ∨ (220 ≤ a ∧ a ≤ 222)) → v25 a = v a := fun a ha => by rw [ev25, upd2_off _ _ _ (by omega), hf a ha]
  intro v30 ev30
  replace h := h v30 ev30
  replace hf : ∀ a, ¬ (a = 218 ∨ (220 ≤ a ∧ a ≤ 222)) → v30 a = v a := fun a ha => by rw [ev30, upd2_off _ _ _ (by omega), hf a ha]
  intro v35 ev35
  replace h := h v35 ev35
  replace hf : ∀ a, ¬ (a = 218 ∨ (220 ≤ a ∧ a ≤ 222)) → v35 a = v a := fun a ha => by rw [ev35, upd2_off _ _ _ (by omega), hf a ha]
  intro K60 hKK60
  refine n_cut (h (fun (v60 : VT) => (∀ a, ¬ (a = 218 ∨ (220 ≤ a ∧ a ≤ 222)) → v60 a = v a) → K60 v60)) ?_ ?_
  · intro v60 h hf
    refine hKK60 v60 ?_
    refine N_X11_statementTold (F_X11_statementTold h) (fun v61 h => ?_)
    obtain ⟨h, hg⟩ := h
    replace hf : ∀ a, ¬ (a = 218 ∨ (220 ≤ a ∧ a ≤ 222)) → v61 a = v a := fun a ha => by rw [hg a (by omega), hf a ha]
    clear hg
    intro K86 hKK86
    refine n_cut (h (fun (v86 : VT) => (∀ a, ¬ (a = 218 ∨ (220 ≤ a ∧ a ≤ 222)) → v86 a = v a) → K86 v86)) ?_ ?_
    · intro v86 h hf
      refine hKK86 v86 ?_
      intro v91 ev91
      replace h := h v91 ev91
      replace hf : ∀ a, ¬ (a = 218 ∨ (220 ≤ a ∧ a ≤ 222)) → v91 a = v a := fun a ha => by rw [ev91, upd2_off _ _ _ (by omega), hf a ha]
      intro v99 ev99
      replace h := h v99 ev99
      replace hf : ∀ a, ¬ (a = 218 ∨ (220 ≤ a ∧ a ≤ 222)) → v99 a = v a := fun a ha => by rw [ev99, upd2_off _ _ _ (by omega), hf a ha]
      refine ⟨fun hc => ?_, fun hc => ?_⟩
      · replace h := h.1 hc
        intro K142 hKK142
        refine n_cut (h (fun (v142 : VT) => (∀ a, ¬ (a = 218 ∨ (220 ≤ a ∧ a ≤ 222)) → v142 a = v a) → K142 v142)) ?_ ?_
        · intro v142 h hf
          refine hKK142 v142 ?_
          intro v144 ev144
          replace h := h v144 ev144
          replace hf : ∀ a, ¬ (a = 218 ∨ (220 ≤ a ∧ a ≤ 222)) → v144 a = v a := fun a ha => by rw [ev144, upd2_off _ _ _ (by omega), hf a ha]
          intro v149 ev149
          replace h := h v149 ev149
          replace hf : ∀ a, ¬ (a = 218 ∨ (220 ≤ a ∧ a ≤ 222)) → v149 a = v a := fun a ha => by rw [ev149, upd2_off _ _ _ (by omega), hf a ha]
          intro v154 ev154
          replace h := h v154 ev154
          replace hf : ∀ a, ¬ (a = 218 ∨ (220 ≤ a ∧ a ≤ 222)) → v154 a = v a := fun a ha => by rw [ev154, upd2_off _ _ _ (by omega), hf a ha]
          intro v159 ev159
          replace h := h v159 ev159
          replace hf : ∀ a, ¬ (a = 218 ∨ (220 ≤ a ∧ a ≤ 222)) → v159 a = v a := fun a ha => by rw [ev159, upd2_off _ _ _ (by omega), hf a ha]
          exact ⟨h, hf⟩
        · intro h
          intro X117 hKX117
          refine n_cut (h (fun (i1 : Int) (v117 : VT) => (∀ a, ¬ (a = 218 ∨ (220 ≤ a ∧ a ≤ 222)) → v117 a = v a) → X117 i1 v117)) ?_ ?_
          · intro i1 v117 h hf
            refine hKX117 i1 v117 ?_
            refine ⟨fun hc => ?_, fun hc => ?_⟩
            · replace h := h.1 hc
              exact h hf
            · replace h := h.2 hc
              obtain ⟨ho1, h⟩ := h
              refine ⟨ho1, ?_⟩
              obtain ⟨ho2, h⟩ := h
              refine ⟨ho2, ?_⟩
              intro v135 ev135
              replace h := h v135 ev135
              replace hf : ∀ a, ¬ (a = 218 ∨ (220 ≤ a ∧ a ≤ 222)) → v135 a = v a := fun a ha => by rw [ev135, upd2_off _ _ _ (by omega), hf a ha]
              obtain ⟨ho3, h⟩ := h
              refine ⟨ho3, ?_⟩
              exact h hf
          · intro h
            exact h hf
      · replace h := h.2 hc
        refine N_X11_refuses (F_X11_refuses h) (fun r111 v111 h => ?_)
        obtain ⟨h, hg⟩ := h
        replace hf : ∀ a, ¬ (a = 218 ∨ (220 ≤ a ∧ a ≤ 222)) → v111 a = v a := fun a ha => by rw [hg a (by omega), hf a ha]
        clear hg
        exact ⟨h, hf⟩
    · intro h
      intro X64 hKX64
      refine n_cut (h (fun (v64 : VT) => (∀ a, ¬ (a = 218 ∨ (220 ≤ a ∧ a ≤ 222)) → v64 a = v a) → X64 v64)) ?_ ?_
      · intro v64 h hf
        refine hKX64 v64 ?_
        refine ⟨fun hc => ?_, fun hc => ?_⟩
        · replace h := h.1 hc
          exact h hf
        · replace h := h.2 hc
          refine N_X11_look (F_X11_look h) (fun r72 v72 h => ?_)
          obtain ⟨h, hg⟩ := h
          replace hf : ∀ a, ¬ (a = 218 ∨ (220 ≤ a ∧ a ≤ 222)) → v72 a = v a := fun a ha => by rw [hg a (by omega), hf a ha]
          clear hg
          refine ⟨fun hc => ?_, fun hc => ?_⟩
          · replace h := h.1 hc
            exact h hf
          · replace h := h.2 hc
            refine N_X11_statementTold (F_X11_statementTold h) (fun v80 h => ?_)
            obtain ⟨h, hg⟩ := h
            replace hf : ∀ a, ¬ (a = 218 ∨ (220 ≤ a ∧ a ≤ 222)) → v80 a = v a := fun a ha => by rw [hg a (by omega), hf a ha]
            clear hg
            exact h hf
      · intro h
        exact h hf
  · intro h
    intro X40 hKX40
    refine n_cut (h (fun (i1_1 : Int) (v40 : VT) => (∀ a, ¬ (a = 218 ∨ (220 ≤ a ∧ a ≤ 222)) → v40 a = v a) → X40 i1_1 v40)) ?_ ?_
    · intro i1_1 v40 h hf
      refine hKX40 i1_1 v40 ?_
      refine ⟨fun hc => ?_, fun hc => ?_⟩
      · replace h := h.1 hc
        exact h hf
      · replace h := h.2 hc
        obtain ⟨ho4, h⟩ := h
        refine ⟨ho4, ?_⟩
        intro v53 ev53
        replace h := h v53 ev53
        replace hf : ∀ a, ¬ (a = 218 ∨ (220 ≤ a ∧ a ≤ 222)) → v53 a = v a := fun a ha => by rw [ev53, upd2_off _ _ _ (by omega), hf a ha]
        obtain ⟨ho5, h⟩ := h
        refine ⟨ho5, ?_⟩
        exact h hf
    · intro h
      exact h hf
theorem N_X11_isNode {x1 : Int} {v : VT} {q q' : Int → Prop} (h : P_X11_isNode x1 v q) (hq : ∀ r, q r → q' r) : P_X11_isNode x1 v q' := by
  unfold P_X11_isNode at h ⊢
  obtain ⟨ho1, h⟩ := h
  refine ⟨ho1, ?_⟩
  refine N_X11_isIn h (fun r12 h => ?_)
  obtain ⟨ho2, h⟩ := h
  refine ⟨ho2, ?_⟩
  exact hq _ h
theorem N_X11_isLine {x1 : Int} {v : VT} {q q' : Int → Prop} (h : P_X11_isLine x1 v q) (hq : ∀ r, q r → q' r) : P_X11_isLine x1 v q' := by
  unfold P_X11_isLine at h ⊢
  obtain ⟨ho1, h⟩ := h
  refine ⟨ho1, ?_⟩
  refine N_X11_isIn h (fun r12 h => ?_)
  obtain ⟨ho2, h⟩ := h
  refine ⟨ho2, ?_⟩
  exact hq _ h
theorem N_X11_low {x1 : Int} {v : VT} {q q' : Int → Prop} (h : P_X11_low x1 v q) (hq : ∀ r, q r → q' r) : P_X11_low x1 v q' := by
  unfold P_X11_low at h ⊢
  obtain ⟨ho1, h⟩ := h
  refine ⟨ho1, ?_⟩
  obtain ⟨ho2, h⟩ := h
  refine ⟨ho2, ?_⟩
  obtain ⟨ho3, h⟩ := h
  refine ⟨ho3, ?_⟩
  exact hq _ h
theorem N_X11_high {x1 : Int} {v : VT} {q q' : Int → Prop} (h : P_X11_high x1 v q) (hq : ∀ r, q r → q' r) : P_X11_high x1 v q' := by
  unfold P_X11_high at h ⊢
  obtain ⟨ho1, h⟩ := h
  refine ⟨ho1, ?_⟩
  obtain ⟨ho2, h⟩ := h
  refine ⟨ho2, ?_⟩
  obtain ⟨ho3, h⟩ := h
  refine ⟨ho3, ?_⟩
  obtain ⟨ho4, h⟩ := h
  refine ⟨ho4, ?_⟩
  exact hq _ h
theorem N_X11_priceOf {x1 : Int} {v : VT} {q q' : Int → Prop} (h : P_X11_priceOf x1 v q) (hq : ∀ r, q r → q' r) : P_X11_priceOf x1 v q' := by
  unfold P_X11_priceOf at h ⊢
  obtain ⟨ho1, h⟩ := h
  refine ⟨ho1, ?_⟩
  obtain ⟨ho2, h⟩ := h
  refine ⟨ho2, ?_⟩
  exact hq _ h
theorem N_X11_all  {v : VT} {q q' : Int → Prop} (h : P_X11_all  v q) (hq : ∀ r, q r → q' r) : P_X11_all  v q' := by
  unfold P_X11_all at h ⊢
  obtain ⟨ho1, h⟩ := h
  refine ⟨ho1, ?_⟩
  exact hq _ h
theorem N_X11_farOf {x1 : Int} {x2 : Int} {v : VT} {q q' : Int → Prop} (h : P_X11_farOf x1 x2 v q) (hq : ∀ r, q r → q' r) : P_X11_farOf x1 x2 v q' := by
  unfold P_X11_farOf at h ⊢
  obtain ⟨ho1, h⟩ := h
  refine ⟨ho1, ?_⟩
  obtain ⟨ho2, h⟩ := h
  refine ⟨ho2, ?_⟩
  obtain ⟨ho3, h⟩ := h
  refine ⟨ho3, ?_⟩
  exact hq _ h
theorem N_X11_laysFar  {v : VT} {q q' : VT → Prop} (h : P_X11_laysFar  v q) (hq : ∀ w, q w → q' w) : P_X11_laysFar  v q' := by
  unfold P_X11_laysFar at h ⊢
  intro K55 hKK55
  refine n_cut (h K55) ?_ ?_
  · intro v55 h
    refine hKK55 v55 ?_
    intro K113 hKK113
    refine n_cut (h K113) ?_ ?_
    · intro v113 h
      refine hKK113 v113 ?_
      intro X115 hKX115
      refine n_cut (h X115) ?_ ?_
      · intro i2 v115 h
        refine hKX115 i2 v115 ?_
        refine ⟨fun hc => ?_, fun hc => ?_⟩
        · replace h := h.1 hc
          exact hq _ h
        · replace h := h.2 hc
          intro X122 hKX122
          refine n_cut (h X122) ?_ ?_
          · intro i3 v122 h
            refine hKX122 i3 v122 ?_
            refine ⟨fun hc => ?_, fun hc => ?_⟩
            · replace h := h.1 hc
              obtain ⟨ho1, h⟩ := h
              refine ⟨ho1, ?_⟩
              exact h
            · replace h := h.2 hc
              intro X130 hKX130
              refine n_cut (h X130) ?_ ?_
              · intro i4 v130 h
                refine hKX130 i4 v130 ?_
                refine ⟨fun hc => ?_, fun hc => ?_⟩
                · replace h := h.1 hc
                  obtain ⟨ho2, h⟩ := h
                  refine ⟨ho2, ?_⟩
                  exact h
                · replace h := h.2 hc
                  refine N_X11_farOf h (fun r139 h => ?_)
                  refine N_X11_farOf h (fun r146 h => ?_)
                  obtain ⟨ho3, h⟩ := h
                  refine ⟨ho3, ?_⟩
                  refine N_X11_farOf h (fun r158 h => ?_)
                  refine ⟨fun hc => ?_, fun hc => ?_⟩
                  · replace h := h.1 hc
                    obtain ⟨ho4, h⟩ := h
                    refine ⟨ho4, ?_⟩
                    exact h
                  · replace h := h.2 hc
                    obtain ⟨ho5, h⟩ := h
                    refine ⟨ho5, ?_⟩
                    obtain ⟨ho6, h⟩ := h
                    refine ⟨ho6, ?_⟩
                    obtain ⟨ho7, h⟩ := h
                    refine ⟨ho7, ?_⟩
                    intro v177 ev177
                    replace h := h v177 ev177
                    obtain ⟨ho8, h⟩ := h
                    refine ⟨ho8, ?_⟩
                    exact h
              · intro h
                exact h
          · intro h
            exact h
      · intro h
        exact h
    · intro h
      intro X57 hKX57
      refine n_cut (h X57) ?_ ?_
      · intro i2_1 v57 h
        refine hKX57 i2_1 v57 ?_
        refine ⟨fun hc => ?_, fun hc => ?_⟩
        · replace h := h.1 hc
          exact h
        · replace h := h.2 hc
          refine N_X11_low h (fun r75 h => ?_)
          obtain ⟨ho9, h⟩ := h
          refine ⟨ho9, ?_⟩
          refine N_X11_high h (fun r81 h => ?_)
          obtain ⟨ho10, h⟩ := h
          refine ⟨ho10, ?_⟩
          obtain ⟨ho11, h⟩ := h
          refine ⟨ho11, ?_⟩
          intro v86 ev86
          replace h := h v86 ev86
          refine N_X11_high h (fun r95 h => ?_)
          obtain ⟨ho12, h⟩ := h
          refine ⟨ho12, ?_⟩
          refine N_X11_low h (fun r101 h => ?_)
          obtain ⟨ho13, h⟩ := h
          refine ⟨ho13, ?_⟩
          obtain ⟨ho14, h⟩ := h
          refine ⟨ho14, ?_⟩
          intro v106 ev106
          replace h := h v106 ev106
          obtain ⟨ho15, h⟩ := h
          refine ⟨ho15, ?_⟩
          exact h
      · intro h
        exact h
  · intro h
    intro X9 hKX9
    refine n_cut (h X9) ?_ ?_
    · intro i2_2 v9 h
      refine hKX9 i2_2 v9 ?_
      refine ⟨fun hc => ?_, fun hc => ?_⟩
      · replace h := h.1 hc
        exact h
      · replace h := h.2 hc
        intro X16 hKX16
        refine n_cut (h X16) ?_ ?_
        · intro i3_1 v16 h
          refine hKX16 i3_1 v16 ?_
          refine ⟨fun hc => ?_, fun hc => ?_⟩
          · replace h := h.1 hc
            obtain ⟨ho16, h⟩ := h
            refine ⟨ho16, ?_⟩
            exact h
          · replace h := h.2 hc
            obtain ⟨ho17, h⟩ := h
            refine ⟨ho17, ?_⟩
            obtain ⟨ho18, h⟩ := h
            refine ⟨ho18, ?_⟩
            refine ⟨fun hc => ?_, fun hc => ?_⟩
            · replace h := h.1 hc
              obtain ⟨ho19, h⟩ := h
              refine ⟨ho19, ?_⟩
              intro v42 ev42
              replace h := h v42 ev42
              obtain ⟨ho20, h⟩ := h
              refine ⟨ho20, ?_⟩
              exact h
            · replace h := h.2 hc
              obtain ⟨ho21, h⟩ := h
              refine ⟨ho21, ?_⟩
              intro v42_1 ev42_1
              replace h := h v42_1 ev42_1
              obtain ⟨ho22, h⟩ := h
              refine ⟨ho22, ?_⟩
              exact h
        · intro h
          exact h
    · intro h
      exact h
theorem F_X11_laysFar  {v : VT} {q : VT → Prop} (h : P_X11_laysFar  v q) : P_X11_laysFar  v (fun w => q w ∧ ∀ a, ¬ (a = 224) → w a = v a) := by
  unfold P_X11_laysFar at h ⊢
  have hf : ∀ a, ¬ (a = 224) → v a = v a := fun a _ => rfl
  intro K55 hKK55
  refine n_cut (h (fun (v55 : VT) => (∀ a, ¬ (a = 224) → v55 a = v a) → K55 v55)) ?_ ?_
  · intro v55 h hf
    refine hKK55 v55 ?_
    intro K113 hKK113
    refine n_cut (h (fun (v113 : VT) => (∀ a, ¬ (a = 224) → v113 a = v a) → K113 v113)) ?_ ?_
    · intro v113 h hf
      refine hKK113 v113 ?_
      intro X115 hKX115
      refine n_cut (h (fun (i2 : Int) (v115 : VT) => (∀ a, ¬ (a = 224) → v115 a = v a) → X115 i2 v115)) ?_ ?_
      · intro i2 v115 h hf
        refine hKX115 i2 v115 ?_
        refine ⟨fun hc => ?_, fun hc => ?_⟩
        · replace h := h.1 hc
          exact ⟨h, hf⟩
        · replace h := h.2 hc
          intro X122 hKX122
          refine n_cut (h (fun (i3 : Int) (v122 : VT) => (∀ a, ¬ (a = 224) → v122 a = v a) → X122 i3 v122)) ?_ ?_
          · intro i3 v122 h hf
            refine hKX122 i3 v122 ?_
            refine ⟨fun hc => ?_, fun hc => ?_⟩
            · replace h := h.1 hc
              obtain ⟨ho1, h⟩ := h
              refine ⟨ho1, ?_⟩
              exact h hf
            · replace h := h.2 hc
              intro X130 hKX130
              refine n_cut (h (fun (i4 : Int) (v130 : VT) => (∀ a, ¬ (a = 224) → v130 a = v a) → X130 i4 v130)) ?_ ?_
              · intro i4 v130 h hf
                refine hKX130 i4 v130 ?_
                refine ⟨fun hc => ?_, fun hc => ?_⟩
                · replace h := h.1 hc
                  obtain ⟨ho2, h⟩ := h
                  refine ⟨ho2, ?_⟩
                  exact h hf
                · replace h := h.2 hc
                  refine N_X11_farOf h (fun r139 h => ?_)
                  refine N_X11_farOf h (fun r146 h => ?_)
                  obtain ⟨ho3, h⟩ := h
                  refine ⟨ho3, ?_⟩
                  refine N_X11_farOf h (fun r158 h => ?_)
                  refine ⟨fun hc => ?_, fun hc => ?_⟩
                  · replace h := h.1 hc
                    obtain ⟨ho4, h⟩ := h
                    refine ⟨ho4, ?_⟩
                    exact h hf
                  · replace h := h.2 hc
                    obtain ⟨ho5, h⟩ := h
                    refine ⟨ho5, ?_⟩
                    obtain ⟨ho6, h⟩ := h
                    refine ⟨ho6, ?_⟩
                    obtain ⟨ho7, h⟩ := h
                    refine ⟨ho7, ?_⟩
                    intro v177 ev177
                    replace h := h v177 ev177
                    replace hf : ∀ a, ¬ (a = 224) → v177 a = v a := fun a ha => by rw [ev177, upd2_off _ _ _ (by omega), hf a ha]
                    obtain ⟨ho8, h⟩ := h
                    refine ⟨ho8, ?_⟩
                    exact h hf
              · intro h
                exact h hf
          · intro h
            exact h hf
      · intro h
        exact h hf
    · intro h
      intro X57 hKX57
      refine n_cut (h (fun (i2_1 : Int) (v57 : VT) => (∀ a, ¬ (a = 224) → v57 a = v a) → X57 i2_1 v57)) ?_ ?_
      · intro i2_1 v57 h hf
        refine hKX57 i2_1 v57 ?_
        refine ⟨fun hc => ?_, fun hc => ?_⟩
        · replace h := h.1 hc
          exact h hf
        · replace h := h.2 hc
          refine N_X11_low h (fun r75 h => ?_)
          obtain ⟨ho9, h⟩ := h
          refine ⟨ho9, ?_⟩
          refine N_X11_high h (fun r81 h => ?_)
          obtain ⟨ho10, h⟩ := h
          refine ⟨ho10, ?_⟩
          obtain ⟨ho11, h⟩ := h
          refine ⟨ho11, ?_⟩
          intro v86 ev86
          replace h := h v86 ev86
          replace hf : ∀ a, ¬ (a = 224) → v86 a = v a := fun a ha => by rw [ev86, upd2_off _ _ _ (by omega), hf a ha]
          refine N_X11_high h (fun r95 h => ?_)
          obtain ⟨ho12, h⟩ := h
          refine ⟨ho12, ?_⟩
          refine N_X11_low h (fun r101 h => ?_)
          obtain ⟨ho13, h⟩ := h
          refine ⟨ho13, ?_⟩
          obtain ⟨ho14, h⟩ := h
          refine ⟨ho14, ?_⟩
          intro v106 ev106
          replace h := h v106 ev106
          replace hf : ∀ a, ¬ (a = 224) → v106 a = v a := fun a ha => by rw [ev106, upd2_off _ _ _ (by omega), hf a ha]
          obtain ⟨ho15, h⟩ := h
          refine ⟨ho15, ?_⟩
          exact h hf
      · intro h
        exact h hf
  · intro h
    intro X9 hKX9
    refine n_cut (h (fun (i2_2 : Int) (v9 : VT) => (∀ a, ¬ (a = 224) → v9 a = v a) → X9 i2_2 v9)) ?_ ?_
    · intro i2_2 v9 h hf
      refine hKX9 i2_2 v9 ?_
      refine ⟨fun hc => ?_, fun hc => ?_⟩
      · replace h := h.1 hc
        exact h hf
      · replace h := h.2 hc
        intro X16 hKX16
        refine n_cut (h (fun (i3_1 : Int) (v16 : VT) => (∀ a, ¬ (a = 224) → v16 a = v a) → X16 i3_1 v16)) ?_ ?_
        · intro i3_1 v16 h hf
          refine hKX16 i3_1 v16 ?_
          refine ⟨fun hc => ?_, fun hc => ?_⟩
          · replace h := h.1 hc
            obtain ⟨ho16, h⟩ := h
            refine ⟨ho16, ?_⟩
            exact h hf
          · replace h := h.2 hc
            obtain ⟨ho17, h⟩ := h
            refine ⟨ho17, ?_⟩
            obtain ⟨ho18, h⟩ := h
            refine ⟨ho18, ?_⟩
            refine ⟨fun hc => ?_, fun hc => ?_⟩
            · replace h := h.1 hc
              obtain ⟨ho19, h⟩ := h
              refine ⟨ho19, ?_⟩
              intro v42 ev42
              replace h := h v42 ev42
              replace hf : ∀ a, ¬ (a = 224) → v42 a = v a := fun a ha => by rw [ev42, upd2_off _ _ _ (by omega), hf a ha]
              obtain ⟨ho20, h⟩ := h
              refine ⟨ho20, ?_⟩
              exact h hf
            · replace h := h.2 hc
              obtain ⟨ho21, h⟩ := h
              refine ⟨ho21, ?_⟩
              intro v42_1 ev42_1
              replace h := h v42_1 ev42_1
              replace hf : ∀ a, ¬ (a = 224) → v42_1 a = v a := fun a ha => by rw [ev42_1, upd2_off _ _ _ (by omega), hf a ha]
              obtain ⟨ho22, h⟩ := h
              refine ⟨ho22, ?_⟩
              exact h hf
        · intro h
          exact h hf
    · intro h
      exact h hf
theorem N_X11_areAlike {x1 : Int} {x2 : Int} {v : VT} {q q' : Int → Prop} (h : P_X11_areAlike x1 x2 v q) (hq : ∀ r, q r → q' r) : P_X11_areAlike x1 x2 v q' := by
  unfold P_X11_areAlike at h ⊢
  refine N_X11_low h (fun r3 h => ?_)
  refine N_X11_low h (fun r8 h => ?_)
  refine N_X11_farOf h (fun r11 h => ?_)
  refine N_X11_high h (fun r18 h => ?_)
  refine N_X11_high h (fun r23 h => ?_)
  refine N_X11_farOf h (fun r26 h => ?_)
  refine ⟨fun hc => ?_, fun hc => ?_⟩
  · replace h := h.1 hc
    exact hq _ h
  · replace h := h.2 hc
    refine ⟨fun hc => ?_, fun hc => ?_⟩
    · replace h := h.1 hc
      obtain ⟨ho1, h⟩ := h
      refine ⟨ho1, ?_⟩
      refine N_X11_low h (fun r53 h => ?_)
      refine N_X11_high h (fun r58 h => ?_)
      refine N_X11_farOf h (fun r61 h => ?_)
      refine N_X11_high h (fun r67 h => ?_)
      refine N_X11_low h (fun r72 h => ?_)
      refine N_X11_farOf h (fun r75 h => ?_)
      obtain ⟨ho2, h⟩ := h
      refine ⟨ho2, ?_⟩
      refine ⟨fun hc => ?_, fun hc => ?_⟩
      · replace h := h.1 hc
        exact hq _ h
      · replace h := h.2 hc
        exact hq _ h
    · replace h := h.2 hc
      exact hq _ h
theorem N_X11_laysKinds  {v : VT} {q q' : VT → Prop} (h : P_X11_laysKinds  v q) (hq : ∀ w, q w → q' w) : P_X11_laysKinds  v q' := by
  unfold P_X11_laysKinds at h ⊢
  intro K27 hKK27
  refine n_cut (h K27) ?_ ?_
  · intro v27 h
    refine hKK27 v27 ?_
    intro K107 hKK107
    refine n_cut (h K107) ?_ ?_
    · intro v107 h
      refine hKK107 v107 ?_
      intro v109 ev109
      replace h := h v109 ev109
      intro K155 hKK155
      refine n_cut (h K155) ?_ ?_
      · intro v155 h
        refine hKK155 v155 ?_
        intro K210 hKK210
        refine n_cut (h K210) ?_ ?_
        · intro v210 h
          refine hKK210 v210 ?_
          intro X212 hKX212
          refine n_cut (h X212) ?_ ?_
          · intro i3 v212 h
            refine hKX212 i3 v212 ?_
            refine ⟨fun hc => ?_, fun hc => ?_⟩
            · replace h := h.1 hc
              exact hq _ h
            · replace h := h.2 hc
              obtain ⟨ho1, h⟩ := h
              refine ⟨ho1, ?_⟩
              obtain ⟨ho2, h⟩ := h
              refine ⟨ho2, ?_⟩
              intro v228 ev228
              replace h := h v228 ev228
              obtain ⟨ho3, h⟩ := h
              refine ⟨ho3, ?_⟩
              exact h
          · intro h
            exact h
        · intro h
          intro X157 hKX157
          refine n_cut (h X157) ?_ ?_
          · intro i3_1 v157 h
            refine hKX157 i3_1 v157 ?_
            refine ⟨fun hc => ?_, fun hc => ?_⟩
            · replace h := h.1 hc
              exact h
            · replace h := h.2 hc
              intro X165 hKX165
              refine n_cut (h X165) ?_ ?_
              · intro i4 v165 h
                refine hKX165 i4 v165 ?_
                refine ⟨fun hc => ?_, fun hc => ?_⟩
                · replace h := h.1 hc
                  obtain ⟨ho4, h⟩ := h
                  refine ⟨ho4, ?_⟩
                  exact h
                · replace h := h.2 hc
                  obtain ⟨ho5, h⟩ := h
                  refine ⟨ho5, ?_⟩
                  obtain ⟨ho6, h⟩ := h
                  refine ⟨ho6, ?_⟩
                  refine ⟨fun hc => ?_, fun hc => ?_⟩
                  · replace h := h.1 hc
                    obtain ⟨ho7, h⟩ := h
                    refine ⟨ho7, ?_⟩
                    exact h
                  · replace h := h.2 hc
                    obtain ⟨ho8, h⟩ := h
                    refine ⟨ho8, ?_⟩
                    intro v197 ev197
                    replace h := h v197 ev197
                    obtain ⟨ho9, h⟩ := h
                    refine ⟨ho9, ?_⟩
                    exact h
              · intro h
                exact h
          · intro h
            exact h
      · intro h
        intro X114 hKX114
        refine n_cut (h X114) ?_ ?_
        · intro i3_2 v114 h
          refine hKX114 i3_2 v114 ?_
          refine ⟨fun hc => ?_, fun hc => ?_⟩
          · replace h := h.1 hc
            exact h
          · replace h := h.2 hc
            obtain ⟨ho10, h⟩ := h
            refine ⟨ho10, ?_⟩
            refine ⟨fun hc => ?_, fun hc => ?_⟩
            · replace h := h.1 hc
              obtain ⟨ho11, h⟩ := h
              refine ⟨ho11, ?_⟩
              exact h
            · replace h := h.2 hc
              obtain ⟨ho12, h⟩ := h
              refine ⟨ho12, ?_⟩
              intro v138 ev138
              replace h := h v138 ev138
              obtain ⟨ho13, h⟩ := h
              refine ⟨ho13, ?_⟩
              intro v146 ev146
              replace h := h v146 ev146
              obtain ⟨ho14, h⟩ := h
              refine ⟨ho14, ?_⟩
              exact h
        · intro h
          exact h
    · intro h
      intro X29 hKX29
      refine n_cut (h X29) ?_ ?_
      · intro i2 v29 h
        refine hKX29 i2 v29 ?_
        refine ⟨fun hc => ?_, fun hc => ?_⟩
        · replace h := h.1 hc
          exact h
        · replace h := h.2 hc
          intro X37 hKX37
          refine n_cut (h X37) ?_ ?_
          · intro i2_1 i3_3 v37 h
            refine hKX37 i2_1 i3_3 v37 ?_
            refine ⟨fun hc => ?_, fun hc => ?_⟩
            · replace h := h.1 hc
              exact h
            · replace h := h.2 hc
              intro X45 hKX45
              refine n_cut (h X45) ?_ ?_
              · intro i2_2 i4_1 v45 h
                refine hKX45 i2_2 i4_1 v45 ?_
                refine ⟨fun hc => ?_, fun hc => ?_⟩
                · replace h := h.1 hc
                  obtain ⟨ho15, h⟩ := h
                  refine ⟨ho15, ?_⟩
                  exact h
                · replace h := h.2 hc
                  obtain ⟨ho16, h⟩ := h
                  refine ⟨ho16, ?_⟩
                  obtain ⟨ho17, h⟩ := h
                  refine ⟨ho17, ?_⟩
                  refine ⟨fun hc => ?_, fun hc => ?_⟩
                  · replace h := h.1 hc
                    obtain ⟨ho18, h⟩ := h
                    refine ⟨ho18, ?_⟩
                    exact h
                  · replace h := h.2 hc
                    refine N_X11_areAlike h (fun r71 h => ?_)
                    refine ⟨fun hc => ?_, fun hc => ?_⟩
                    · replace h := h.1 hc
                      obtain ⟨ho19, h⟩ := h
                      refine ⟨ho19, ?_⟩
                      exact h
                    · replace h := h.2 hc
                      obtain ⟨ho20, h⟩ := h
                      refine ⟨ho20, ?_⟩
                      obtain ⟨ho21, h⟩ := h
                      refine ⟨ho21, ?_⟩
                      intro v89 ev89
                      replace h := h v89 ev89
                      obtain ⟨ho22, h⟩ := h
                      refine ⟨ho22, ?_⟩
                      exact h
              · intro h
                exact h
          · intro h
            exact h
      · intro h
        exact h
  · intro h
    intro X9 hKX9
    refine n_cut (h X9) ?_ ?_
    · intro i2_3 v9 h
      refine hKX9 i2_3 v9 ?_
      refine ⟨fun hc => ?_, fun hc => ?_⟩
      · replace h := h.1 hc
        exact h
      · replace h := h.2 hc
        obtain ⟨ho23, h⟩ := h
        refine ⟨ho23, ?_⟩
        intro v20 ev20
        replace h := h v20 ev20
        obtain ⟨ho24, h⟩ := h
        refine ⟨ho24, ?_⟩
        exact h
    · intro h
      exact h
theorem F_X11_laysKinds  {v : VT} {q : VT → Prop} (h : P_X11_laysKinds  v q) : P_X11_laysKinds  v (fun w => q w ∧ ∀ a, ¬ (a = 218 ∨ a = 225 ∨ a = 227 ∨ a = 229) → w a = v a) := by
  unfold P_X11_laysKinds at h ⊢
  have hf : ∀ a, ¬ (a = 218 ∨ a = 225 ∨ a = 227 ∨ a = 229) → v a = v a := fun a _ => rfl
  intro K27 hKK27
  refine n_cut (h (fun (v27 : VT) => (∀ a, ¬ (a = 218 ∨ a = 225 ∨ a = 227 ∨ a = 229) → v27 a = v a) → K27 v27)) ?_ ?_
  · intro v27 h hf
    refine hKK27 v27 ?_
    intro K107 hKK107
    refine n_cut (h (fun (v107 : VT) => (∀ a, ¬ (a = 218 ∨ a = 225 ∨ a = 227 ∨ a = 229) → v107 a = v a) → K107 v107)) ?_ ?_
    · intro v107 h hf
      refine hKK107 v107 ?_
      intro v109 ev109
      replace h := h v109 ev109
      replace hf : ∀ a, ¬ (a = 218 ∨ a = 225 ∨ a = 227 ∨ a = 229) → v109 a = v a := fun a ha => by rw [ev109, upd2_off _ _ _ (by omega), hf a ha]
      intro K155 hKK155
      refine n_cut (h (fun (v155 : VT) => (∀ a, ¬ (a = 218 ∨ a = 225 ∨ a = 227 ∨ a = 229) → v155 a = v a) → K155 v155)) ?_ ?_
      · intro v155 h hf
        refine hKK155 v155 ?_
        intro K210 hKK210
        refine n_cut (h (fun (v210 : VT) => (∀ a, ¬ (a = 218 ∨ a = 225 ∨ a = 227 ∨ a = 229) → v210 a = v a) → K210 v210)) ?_ ?_
        · intro v210 h hf
          refine hKK210 v210 ?_
          intro X212 hKX212
          refine n_cut (h (fun (i3 : Int) (v212 : VT) => (∀ a, ¬ (a = 218 ∨ a = 225 ∨ a = 227 ∨ a = 229) → v212 a = v a) → X212 i3 v212)) ?_ ?_
          · intro i3 v212 h hf
            refine hKX212 i3 v212 ?_
            refine ⟨fun hc => ?_, fun hc => ?_⟩
            · replace h := h.1 hc
              exact ⟨h, hf⟩
            · replace h := h.2 hc
              obtain ⟨ho1, h⟩ := h
              refine ⟨ho1, ?_⟩
              obtain ⟨ho2, h⟩ := h
              refine ⟨ho2, ?_⟩
              intro v228 ev228
              replace h := h v228 ev228
              replace hf : ∀ a, ¬ (a = 218 ∨ a = 225 ∨ a = 227 ∨ a = 229) → v228 a = v a := fun a ha => by rw [ev228, upd2_off _ _ _ (by omega), hf a ha]
              obtain ⟨ho3, h⟩ := h
              refine ⟨ho3, ?_⟩
              exact h hf
          · intro h
            exact h hf
        · intro h
          intro X157 hKX157
          refine n_cut (h (fun (i3_1 : Int) (v157 : VT) => (∀ a, ¬ (a = 218 ∨ a = 225 ∨ a = 227 ∨ a = 229) → v157 a = v a) → X157 i3_1 v157)) ?_ ?_
          · intro i3_1 v157 h hf
            refine hKX157 i3_1 v157 ?_
            refine ⟨fun hc => ?_, fun hc => ?_⟩
            · replace h := h.1 hc
              exact h hf
            · replace h := h.2 hc
              intro X165 hKX165
              refine n_cut (h (fun (i4 : Int) (v165 : VT) => (∀ a, ¬ (a = 218 ∨ a = 225 ∨ a = 227 ∨ a = 229) → v165 a = v a) → X165 i4 v165)) ?_ ?_
              · intro i4 v165 h hf
                refine hKX165 i4 v165 ?_
                refine ⟨fun hc => ?_, fun hc => ?_⟩
                · replace h := h.1 hc
                  obtain ⟨ho4, h⟩ := h
                  refine ⟨ho4, ?_⟩
                  exact h hf
                · replace h := h.2 hc
                  obtain ⟨ho5, h⟩ := h
                  refine ⟨ho5, ?_⟩
                  obtain ⟨ho6, h⟩ := h
                  refine ⟨ho6, ?_⟩
                  refine ⟨fun hc => ?_, fun hc => ?_⟩
                  · replace h := h.1 hc
                    obtain ⟨ho7, h⟩ := h
                    refine ⟨ho7, ?_⟩
                    exact h hf
                  · replace h := h.2 hc
                    obtain ⟨ho8, h⟩ := h
                    refine ⟨ho8, ?_⟩
                    intro v197 ev197
                    replace h := h v197 ev197
                    replace hf : ∀ a, ¬ (a = 218 ∨ a = 225 ∨ a = 227 ∨ a = 229) → v197 a = v a := fun a ha => by rw [ev197, upd2_off _ _ _ (by omega), hf a ha]
                    obtain ⟨ho9, h⟩ := h
                    refine ⟨ho9, ?_⟩
                    exact h hf
              · intro h
                exact h hf
          · intro h
            exact h hf
      · intro h
        intro X114 hKX114
        refine n_cut (h (fun (i3_2 : Int) (v114 : VT) => (∀ a, ¬ (a = 218 ∨ a = 225 ∨ a = 227 ∨ a = 229) → v114 a = v a) → X114 i3_2 v114)) ?_ ?_
        · intro i3_2 v114 h hf
          refine hKX114 i3_2 v114 ?_
          refine ⟨fun hc => ?_, fun hc => ?_⟩
          · replace h := h.1 hc
            exact h hf
          · replace h := h.2 hc
            obtain ⟨ho10, h⟩ := h
            refine ⟨ho10, ?_⟩
            refine ⟨fun hc => ?_, fun hc => ?_⟩
            · replace h := h.1 hc
              obtain ⟨ho11, h⟩ := h
              refine ⟨ho11, ?_⟩
              exact h hf
            · replace h := h.2 hc
              obtain ⟨ho12, h⟩ := h
              refine ⟨ho12, ?_⟩
              intro v138 ev138
              replace h := h v138 ev138
              replace hf : ∀ a, ¬ (a = 218 ∨ a = 225 ∨ a = 227 ∨ a = 229) → v138 a = v a := fun a ha => by rw [ev138, upd2_off _ _ _ (by omega), hf a ha]
              obtain ⟨ho13, h⟩ := h
              refine ⟨ho13, ?_⟩
              intro v146 ev146
              replace h := h v146 ev146
              replace hf : ∀ a, ¬ (a = 218 ∨ a = 225 ∨ a = 227 ∨ a = 229) → v146 a = v a := fun a ha => by rw [ev146, upd2_off _ _ _ (by omega), hf a ha]
              obtain ⟨ho14, h⟩ := h
              refine ⟨ho14, ?_⟩
              exact h hf
        · intro h
          exact h hf
    · intro h
      intro X29 hKX29
      refine n_cut (h (fun (i2 : Int) (v29 : VT) => (∀ a, ¬ (a = 218 ∨ a = 225 ∨ a = 227 ∨ a = 229) → v29 a = v a) → X29 i2 v29)) ?_ ?_
      · intro i2 v29 h hf
        refine hKX29 i2 v29 ?_
        refine ⟨fun hc => ?_, fun hc => ?_⟩
        · replace h := h.1 hc
          exact h hf
        · replace h := h.2 hc
          intro X37 hKX37
          refine n_cut (h (fun (i2_1 : Int) (i3_3 : Int) (v37 : VT) => (∀ a, ¬ (a = 218 ∨ a = 225 ∨ a = 227 ∨ a = 229) → v37 a = v a) → X37 i2_1 i3_3 v37)) ?_ ?_
          · intro i2_1 i3_3 v37 h hf
            refine hKX37 i2_1 i3_3 v37 ?_
            refine ⟨fun hc => ?_, fun hc => ?_⟩
            · replace h := h.1 hc
              exact h hf
            · replace h := h.2 hc
              intro X45 hKX45
              refine n_cut (h (fun (i2_2 : Int) (i4_1 : Int) (v45 : VT) => (∀ a, ¬ (a = 218 ∨ a = 225 ∨ a = 227 ∨ a = 229) → v45 a = v a) → X45 i2_2 i4_1 v45)) ?_ ?_
              · intro i2_2 i4_1 v45 h hf
                refine hKX45 i2_2 i4_1 v45 ?_
                refine ⟨fun hc => ?_, fun hc => ?_⟩
                · replace h := h.1 hc
                  obtain ⟨ho15, h⟩ := h
                  refine ⟨ho15, ?_⟩
                  exact h hf
                · replace h := h.2 hc
                  obtain ⟨ho16, h⟩ := h
                  refine ⟨ho16, ?_⟩
                  obtain ⟨ho17, h⟩ := h
                  refine ⟨ho17, ?_⟩
                  refine ⟨fun hc => ?_, fun hc => ?_⟩
                  · replace h := h.1 hc
                    obtain ⟨ho18, h⟩ := h
                    refine ⟨ho18, ?_⟩
                    exact h hf
                  · replace h := h.2 hc
                    refine N_X11_areAlike h (fun r71 h => ?_)
                    refine ⟨fun hc => ?_, fun hc => ?_⟩
                    · replace h := h.1 hc
                      obtain ⟨ho19, h⟩ := h
                      refine ⟨ho19, ?_⟩
                      exact h hf
                    · replace h := h.2 hc
                      obtain ⟨ho20, h⟩ := h
                      refine ⟨ho20, ?_⟩
                      obtain ⟨ho21, h⟩ := h
                      refine ⟨ho21, ?_⟩
                      intro v89 ev89
                      replace h := h v89 ev89
                      replace hf : ∀ a, ¬ (a = 218 ∨ a = 225 ∨ a = 227 ∨ a = 229) → v89 a = v a := fun a ha => by rw [ev89, upd2_off _ _ _ (by omega), hf a ha]
                      obtain ⟨ho22, h⟩ := h
                      refine ⟨ho22, ?_⟩
                      exact h hf
              · intro h
                exact h hf
          · intro h
            exact h hf
      · intro h
        exact h hf
  · intro h
    intro X9 hKX9
    refine n_cut (h (fun (i2_3 : Int) (v9 : VT) => (∀ a, ¬ (a = 218 ∨ a = 225 ∨ a = 227 ∨ a = 229) → v9 a = v a) → X9 i2_3 v9)) ?_ ?_
    · intro i2_3 v9 h hf
      refine hKX9 i2_3 v9 ?_
      refine ⟨fun hc => ?_, fun hc => ?_⟩
      · replace h := h.1 hc
        exact h hf
      · replace h := h.2 hc
        obtain ⟨ho23, h⟩ := h
        refine ⟨ho23, ?_⟩
        intro v20 ev20
        replace h := h v20 ev20
        replace hf : ∀ a, ¬ (a = 218 ∨ a = 225 ∨ a = 227 ∨ a = 229) → v20 a = v a := fun a ha => by rw [ev20, upd2_off _ _ _ (by omega), hf a ha]
        obtain ⟨ho24, h⟩ := h
        refine ⟨ho24, ?_⟩
        exact h hf
    · intro h
      exact h hf
theorem N_X11_isWhy {x1 : Int} {x2 : Int} {x3 : Int} {v : VT} {q q' : VT → Prop} (h : P_X11_isWhy x1 x2 x3 v q) (hq : ∀ w, q w → q' w) : P_X11_isWhy x1 x2 x3 v q' := by
  unfold P_X11_isWhy at h ⊢
  refine ⟨fun hc => ?_, fun hc => ?_⟩
  · replace h := h.1 hc
    intro v10 ev10
    replace h := h v10 ev10
    intro v19 ev19
    replace h := h v19 ev19
    intro v26 ev26
    replace h := h v26 ev26
    exact hq _ h
  · replace h := h.2 hc
    exact hq _ h
theorem F_X11_isWhy {x1 : Int} {x2 : Int} {x3 : Int} {v : VT} {q : VT → Prop} (h : P_X11_isWhy x1 x2 x3 v q) : P_X11_isWhy x1 x2 x3 v (fun w => q w ∧ ∀ a, ¬ (a = 218 ∨ a = 226) → w a = v a) := by
  unfold P_X11_isWhy at h ⊢
  have hf : ∀ a, ¬ (a = 218 ∨ a = 226) → v a = v a := fun a _ => rfl
  refine ⟨fun hc => ?_, fun hc => ?_⟩
  · replace h := h.1 hc
    intro v10 ev10
    replace h := h v10 ev10
    replace hf : ∀ a, ¬ (a = 218 ∨ a = 226) → v10 a = v a := fun a ha => by rw [ev10, upd2_off _ _ _ (by omega), hf a ha]
    intro v19 ev19
    replace h := h v19 ev19
    replace hf : ∀ a, ¬ (a = 218 ∨ a = 226) → v19 a = v a := fun a ha => by rw [ev19, upd2_off _ _ _ (by omega), hf a ha]
    intro v26 ev26
    replace h := h v26 ev26
    replace hf : ∀ a, ¬ (a = 218 ∨ a = 226) → v26 a = v a := fun a ha => by rw [ev26, upd2_off _ _ _ (by omega), hf a ha]
    exact ⟨h, hf⟩
  · replace h := h.2 hc
    exact ⟨h, hf⟩
theorem N_X11_laysReason  {v : VT} {q q' : VT → Prop} (h : P_X11_laysReason  v q) (hq : ∀ w, q w → q' w) : P_X11_laysReason  v q' := by
  unfold P_X11_laysReason at h ⊢
  intro v16 ev16
  replace h := h v16 ev16
  intro K69 hKK69
  refine n_cut (h K69) ?_ ?_
  · intro v69 h
    refine hKK69 v69 ?_
    intro K137 hKK137
    refine n_cut (h K137) ?_ ?_
    · intro v137 h
      refine hKK137 v137 ?_
      intro X139 hKX139
      refine n_cut (h X139) ?_ ?_
      · intro i3 v139 h
        refine hKX139 i3 v139 ?_
        refine ⟨fun hc => ?_, fun hc => ?_⟩
        · replace h := h.1 hc
          exact hq _ h
        · replace h := h.2 hc
          refine ⟨fun hc => ?_, fun hc => ?_⟩
          · replace h := h.1 hc
            exact hq _ h
          · replace h := h.2 hc
            obtain ⟨ho1, h⟩ := h
            refine ⟨ho1, ?_⟩
            intro X156 hKX156
            refine n_cut (h X156) ?_ ?_
            · intro i4 v156 h
              refine hKX156 i4 v156 ?_
              refine ⟨fun hc => ?_, fun hc => ?_⟩
              · replace h := h.1 hc
                obtain ⟨ho2, h⟩ := h
                refine ⟨ho2, ?_⟩
                exact h
              · replace h := h.2 hc
                obtain ⟨ho3, h⟩ := h
                refine ⟨ho3, ?_⟩
                obtain ⟨ho4, h⟩ := h
                refine ⟨ho4, ?_⟩
                refine ⟨fun hc => ?_, fun hc => ?_⟩
                · replace h := h.1 hc
                  obtain ⟨ho5, h⟩ := h
                  refine ⟨ho5, ?_⟩
                  exact h
                · replace h := h.2 hc
                  refine N_X11_areAlike h (fun r182 h => ?_)
                  refine ⟨fun hc => ?_, fun hc => ?_⟩
                  · replace h := h.1 hc
                    obtain ⟨ho6, h⟩ := h
                    refine ⟨ho6, ?_⟩
                    exact h
                  · replace h := h.2 hc
                    refine N_X11_isWhy h (fun v193 h => ?_)
                    obtain ⟨ho7, h⟩ := h
                    refine ⟨ho7, ?_⟩
                    exact h
            · intro h
              exact h
      · intro h
        exact h
    · intro h
      intro X71 hKX71
      refine n_cut (h X71) ?_ ?_
      · intro i3_1 v71 h
        refine hKX71 i3_1 v71 ?_
        refine ⟨fun hc => ?_, fun hc => ?_⟩
        · replace h := h.1 hc
          exact h
        · replace h := h.2 hc
          refine ⟨fun hc => ?_, fun hc => ?_⟩
          · replace h := h.1 hc
            exact h
          · replace h := h.2 hc
            intro X86 hKX86
            refine n_cut (h X86) ?_ ?_
            · intro i4_1 v86 h
              refine hKX86 i4_1 v86 ?_
              refine ⟨fun hc => ?_, fun hc => ?_⟩
              · replace h := h.1 hc
                obtain ⟨ho8, h⟩ := h
                refine ⟨ho8, ?_⟩
                exact h
              · replace h := h.2 hc
                refine N_X11_low h (fun r97 h => ?_)
                refine N_X11_farOf h (fun r100 h => ?_)
                refine N_X11_high h (fun r108 h => ?_)
                refine N_X11_farOf h (fun r111 h => ?_)
                refine ⟨fun hc => ?_, fun hc => ?_⟩
                · replace h := h.1 hc
                  obtain ⟨ho9, h⟩ := h
                  refine ⟨ho9, ?_⟩
                  exact h
                · replace h := h.2 hc
                  refine N_X11_isWhy h (fun v122 h => ?_)
                  obtain ⟨ho10, h⟩ := h
                  refine ⟨ho10, ?_⟩
                  exact h
            · intro h
              exact h
      · intro h
        exact h
  · intro h
    intro X21 hKX21
    refine n_cut (h X21) ?_ ?_
    · intro i3_2 v21 h
      refine hKX21 i3_2 v21 ?_
      refine ⟨fun hc => ?_, fun hc => ?_⟩
      · replace h := h.1 hc
        exact h
      · replace h := h.2 hc
        obtain ⟨ho11, h⟩ := h
        refine ⟨ho11, ?_⟩
        intro X31 hKX31
        refine n_cut (h X31) ?_ ?_
        · intro i4_2 v31 h
          refine hKX31 i4_2 v31 ?_
          refine ⟨fun hc => ?_, fun hc => ?_⟩
          · replace h := h.1 hc
            obtain ⟨ho12, h⟩ := h
            refine ⟨ho12, ?_⟩
            exact h
          · replace h := h.2 hc
            refine N_X11_farOf h (fun r41 h => ?_)
            refine ⟨fun hc => ?_, fun hc => ?_⟩
            · replace h := h.1 hc
              obtain ⟨ho13, h⟩ := h
              refine ⟨ho13, ?_⟩
              exact h
            · replace h := h.2 hc
              refine N_X11_isWhy h (fun v54 h => ?_)
              obtain ⟨ho14, h⟩ := h
              refine ⟨ho14, ?_⟩
              exact h
        · intro h
          exact h
    · intro h
      exact h
theorem F_X11_laysReason  {v : VT} {q : VT → Prop} (h : P_X11_laysReason  v q) : P_X11_laysReason  v (fun w => q w ∧ ∀ a, ¬ (a = 218 ∨ a = 226) → w a = v a) := by
  unfold P_X11_laysReason at h ⊢
  have hf : ∀ a, ¬ (a = 218 ∨ a = 226) → v a = v a := fun a _ => rfl
  intro v16 ev16
  replace h := h v16 ev16
  replace hf : ∀ a, ¬ (a = 218 ∨ a = 226) → v16 a = v a := fun a ha => by rw [ev16, upd2_off _ _ _ (by omega), hf a ha]
  intro K69 hKK69
  refine n_cut (h (fun (v69 : VT) => (∀ a, ¬ (a = 218 ∨ a = 226) → v69 a = v a) → K69 v69)) ?_ ?_
  · intro v69 h hf
    refine hKK69 v69 ?_
    intro K137 hKK137
    refine n_cut (h (fun (v137 : VT) => (∀ a, ¬ (a = 218 ∨ a = 226) → v137 a = v a) → K137 v137)) ?_ ?_
    · intro v137 h hf
      refine hKK137 v137 ?_
      intro X139 hKX139
      refine n_cut (h (fun (i3 : Int) (v139 : VT) => (∀ a, ¬ (a = 218 ∨ a = 226) → v139 a = v a) → X139 i3 v139)) ?_ ?_
      · intro i3 v139 h hf
        refine hKX139 i3 v139 ?_
        refine ⟨fun hc => ?_, fun hc => ?_⟩
        · replace h := h.1 hc
          exact ⟨h, hf⟩
        · replace h := h.2 hc
          refine ⟨fun hc => ?_, fun hc => ?_⟩
          · replace h := h.1 hc
            exact ⟨h, hf⟩
          · replace h := h.2 hc
            obtain ⟨ho1, h⟩ := h
            refine ⟨ho1, ?_⟩
            intro X156 hKX156
            refine n_cut (h (fun (i4 : Int) (v156 : VT) => (∀ a, ¬ (a = 218 ∨ a = 226) → v156 a = v a) → X156 i4 v156)) ?_ ?_
            · intro i4 v156 h hf
              refine hKX156 i4 v156 ?_
              refine ⟨fun hc => ?_, fun hc => ?_⟩
              · replace h := h.1 hc
                obtain ⟨ho2, h⟩ := h
                refine ⟨ho2, ?_⟩
                exact h hf
              · replace h := h.2 hc
                obtain ⟨ho3, h⟩ := h
                refine ⟨ho3, ?_⟩
                obtain ⟨ho4, h⟩ := h
                refine ⟨ho4, ?_⟩
                refine ⟨fun hc => ?_, fun hc => ?_⟩
                · replace h := h.1 hc
                  obtain ⟨ho5, h⟩ := h
                  refine ⟨ho5, ?_⟩
                  exact h hf
                · replace h := h.2 hc
                  refine N_X11_areAlike h (fun r182 h => ?_)
                  refine ⟨fun hc => ?_, fun hc => ?_⟩
                  · replace h := h.1 hc
                    obtain ⟨ho6, h⟩ := h
                    refine ⟨ho6, ?_⟩
                    exact h hf
                  · replace h := h.2 hc
                    refine N_X11_isWhy (F_X11_isWhy h) (fun v193 h => ?_)
                    obtain ⟨h, hg⟩ := h
                    replace hf : ∀ a, ¬ (a = 218 ∨ a = 226) → v193 a = v a := fun a ha => by rw [hg a (by omega), hf a ha]
                    clear hg
                    obtain ⟨ho7, h⟩ := h
                    refine ⟨ho7, ?_⟩
                    exact h hf
            · intro h
              exact h hf
      · intro h
        exact h hf
    · intro h
      intro X71 hKX71
      refine n_cut (h (fun (i3_1 : Int) (v71 : VT) => (∀ a, ¬ (a = 218 ∨ a = 226) → v71 a = v a) → X71 i3_1 v71)) ?_ ?_
      · intro i3_1 v71 h hf
        refine hKX71 i3_1 v71 ?_
        refine ⟨fun hc => ?_, fun hc => ?_⟩
        · replace h := h.1 hc
          exact h hf
        · replace h := h.2 hc
          refine ⟨fun hc => ?_, fun hc => ?_⟩
          · replace h := h.1 hc
            exact h hf
          · replace h := h.2 hc
            intro X86 hKX86
            refine n_cut (h (fun (i4_1 : Int) (v86 : VT) => (∀ a, ¬ (a = 218 ∨ a = 226) → v86 a = v a) → X86 i4_1 v86)) ?_ ?_
            · intro i4_1 v86 h hf
              refine hKX86 i4_1 v86 ?_
              refine ⟨fun hc => ?_, fun hc => ?_⟩
              · replace h := h.1 hc
                obtain ⟨ho8, h⟩ := h
                refine ⟨ho8, ?_⟩
                exact h hf
              · replace h := h.2 hc
                refine N_X11_low h (fun r97 h => ?_)
                refine N_X11_farOf h (fun r100 h => ?_)
                refine N_X11_high h (fun r108 h => ?_)
                refine N_X11_farOf h (fun r111 h => ?_)
                refine ⟨fun hc => ?_, fun hc => ?_⟩
                · replace h := h.1 hc
                  obtain ⟨ho9, h⟩ := h
                  refine ⟨ho9, ?_⟩
                  exact h hf
                · replace h := h.2 hc
                  refine N_X11_isWhy (F_X11_isWhy h) (fun v122 h => ?_)
                  obtain ⟨h, hg⟩ := h
                  replace hf : ∀ a, ¬ (a = 218 ∨ a = 226) → v122 a = v a := fun a ha => by rw [hg a (by omega), hf a ha]
                  clear hg
                  obtain ⟨ho10, h⟩ := h
                  refine ⟨ho10, ?_⟩
                  exact h hf
            · intro h
              exact h hf
      · intro h
        exact h hf
  · intro h
    intro X21 hKX21
    refine n_cut (h (fun (i3_2 : Int) (v21 : VT) => (∀ a, ¬ (a = 218 ∨ a = 226) → v21 a = v a) → X21 i3_2 v21)) ?_ ?_
    · intro i3_2 v21 h hf
      refine hKX21 i3_2 v21 ?_
      refine ⟨fun hc => ?_, fun hc => ?_⟩
      · replace h := h.1 hc
        exact h hf
      · replace h := h.2 hc
        obtain ⟨ho11, h⟩ := h
        refine ⟨ho11, ?_⟩
        intro X31 hKX31
        refine n_cut (h (fun (i4_2 : Int) (v31 : VT) => (∀ a, ¬ (a = 218 ∨ a = 226) → v31 a = v a) → X31 i4_2 v31)) ?_ ?_
        · intro i4_2 v31 h hf
          refine hKX31 i4_2 v31 ?_
          refine ⟨fun hc => ?_, fun hc => ?_⟩
          · replace h := h.1 hc
            obtain ⟨ho12, h⟩ := h
            refine ⟨ho12, ?_⟩
            exact h hf
          · replace h := h.2 hc
            refine N_X11_farOf h (fun r41 h => ?_)
            refine ⟨fun hc => ?_, fun hc => ?_⟩
            · replace h := h.1 hc
              obtain ⟨ho13, h⟩ := h
              refine ⟨ho13, ?_⟩
              exact h hf
            · replace h := h.2 hc
              refine N_X11_isWhy (F_X11_isWhy h) (fun v54 h => ?_)
              obtain ⟨h, hg⟩ := h
              replace hf : ∀ a, ¬ (a = 218 ∨ a = 226) → v54 a = v a := fun a ha => by rw [hg a (by omega), hf a ha]
              clear hg
              obtain ⟨ho14, h⟩ := h
              refine ⟨ho14, ?_⟩
              exact h hf
        · intro h
          exact h hf
    · intro h
      exact h hf
theorem N_X11_laysSides  {v : VT} {q q' : VT → Prop} (h : P_X11_laysSides  v q) (hq : ∀ w, q w → q' w) : P_X11_laysSides  v q' := by
  unfold P_X11_laysSides at h ⊢
  intro X2 hKX2
  refine n_cut (h X2) ?_ ?_
  · intro i1 v2 h
    refine hKX2 i1 v2 ?_
    refine ⟨fun hc => ?_, fun hc => ?_⟩
    · replace h := h.1 hc
      exact hq _ h
    · replace h := h.2 hc
      obtain ⟨ho1, h⟩ := h
      refine ⟨ho1, ?_⟩
      intro v18 ev18
      replace h := h v18 ev18
      intro X21 hKX21
      refine n_cut (h X21) ?_ ?_
      · intro i2 v21 h
        refine hKX21 i2 v21 ?_
        refine ⟨fun hc => ?_, fun hc => ?_⟩
        · replace h := h.1 hc
          obtain ⟨ho2, h⟩ := h
          refine ⟨ho2, ?_⟩
          exact h
        · replace h := h.2 hc
          refine ⟨fun hc => ?_, fun hc => ?_⟩
          · replace h := h.1 hc
            obtain ⟨ho3, h⟩ := h
            refine ⟨ho3, ?_⟩
            exact h
          · replace h := h.2 hc
            obtain ⟨ho4, h⟩ := h
            refine ⟨ho4, ?_⟩
            refine N_X11_low h (fun r45 h => ?_)
            refine N_X11_farOf h (fun r48 h => ?_)
            obtain ⟨ho5, h⟩ := h
            refine ⟨ho5, ?_⟩
            refine N_X11_high h (fun r60 h => ?_)
            refine N_X11_farOf h (fun r63 h => ?_)
            refine ⟨fun hc => ?_, fun hc => ?_⟩
            · replace h := h.1 hc
              obtain ⟨ho6, h⟩ := h
              refine ⟨ho6, ?_⟩
              exact h
            · replace h := h.2 hc
              obtain ⟨ho7, h⟩ := h
              refine ⟨ho7, ?_⟩
              obtain ⟨ho8, h⟩ := h
              refine ⟨ho8, ?_⟩
              intro v80 ev80
              replace h := h v80 ev80
              obtain ⟨ho9, h⟩ := h
              refine ⟨ho9, ?_⟩
              exact h
      · intro h
        exact h
  · intro h
    exact h
theorem F_X11_laysSides  {v : VT} {q : VT → Prop} (h : P_X11_laysSides  v q) : P_X11_laysSides  v (fun w => q w ∧ ∀ a, ¬ (a = 228) → w a = v a) := by
  unfold P_X11_laysSides at h ⊢
  have hf : ∀ a, ¬ (a = 228) → v a = v a := fun a _ => rfl
  intro X2 hKX2
  refine n_cut (h (fun (i1 : Int) (v2 : VT) => (∀ a, ¬ (a = 228) → v2 a = v a) → X2 i1 v2)) ?_ ?_
  · intro i1 v2 h hf
    refine hKX2 i1 v2 ?_
    refine ⟨fun hc => ?_, fun hc => ?_⟩
    · replace h := h.1 hc
      exact ⟨h, hf⟩
    · replace h := h.2 hc
      obtain ⟨ho1, h⟩ := h
      refine ⟨ho1, ?_⟩
      intro v18 ev18
      replace h := h v18 ev18
      replace hf : ∀ a, ¬ (a = 228) → v18 a = v a := fun a ha => by rw [ev18, upd2_off _ _ _ (by omega), hf a ha]
      intro X21 hKX21
      refine n_cut (h (fun (i2 : Int) (v21 : VT) => (∀ a, ¬ (a = 228) → v21 a = v a) → X21 i2 v21)) ?_ ?_
      · intro i2 v21 h hf
        refine hKX21 i2 v21 ?_
        refine ⟨fun hc => ?_, fun hc => ?_⟩
        · replace h := h.1 hc
          obtain ⟨ho2, h⟩ := h
          refine ⟨ho2, ?_⟩
          exact h hf
        · replace h := h.2 hc
          refine ⟨fun hc => ?_, fun hc => ?_⟩
          · replace h := h.1 hc
            obtain ⟨ho3, h⟩ := h
            refine ⟨ho3, ?_⟩
            exact h hf
          · replace h := h.2 hc
            obtain ⟨ho4, h⟩ := h
            refine ⟨ho4, ?_⟩
            refine N_X11_low h (fun r45 h => ?_)
            refine N_X11_farOf h (fun r48 h => ?_)
            obtain ⟨ho5, h⟩ := h
            refine ⟨ho5, ?_⟩
            refine N_X11_high h (fun r60 h => ?_)
            refine N_X11_farOf h (fun r63 h => ?_)
            refine ⟨fun hc => ?_, fun hc => ?_⟩
            · replace h := h.1 hc
              obtain ⟨ho6, h⟩ := h
              refine ⟨ho6, ?_⟩
              exact h hf
            · replace h := h.2 hc
              obtain ⟨ho7, h⟩ := h
              refine ⟨ho7, ?_⟩
              obtain ⟨ho8, h⟩ := h
              refine ⟨ho8, ?_⟩
              intro v80 ev80
              replace h := h v80 ev80
              replace hf : ∀ a, ¬ (a = 228) → v80 a = v a := fun a ha => by rw [ev80, upd2_off _ _ _ (by omega), hf a ha]
              obtain ⟨ho9, h⟩ := h
              refine ⟨ho9, ?_⟩
              exact h hf
      · intro h
        exact h hf
  · intro h
    exact h hf
theorem N_X11_lays  {v : VT} {q q' : VT → Prop} (h : P_X11_lays  v q) (hq : ∀ w, q w → q' w) : P_X11_lays  v q' := by
  unfold P_X11_lays at h ⊢
  refine ⟨fun hc => ?_, fun hc => ?_⟩
  · replace h := h.1 hc
    intro v10 ev10
    replace h := h v10 ev10
    refine N_X11_laysFar h (fun v14 h => ?_)
    refine N_X11_laysKinds h (fun v18 h => ?_)
    refine N_X11_laysReason h (fun v22 h => ?_)
    refine N_X11_laysSides h (fun v26 h => ?_)
    exact hq _ h
  · replace h := h.2 hc
    exact hq _ h
theorem F_X11_lays  {v : VT} {q : VT → Prop} (h : P_X11_lays  v q) : P_X11_lays  v (fun w => q w ∧ ∀ a, ¬ (a = 218 ∨ (224 ≤ a ∧ a ≤ 229)) → w a = v a) := by
  unfold P_X11_lays at h ⊢
  have hf : ∀ a, ¬ (a = 218 ∨ (224 ≤ a ∧ a ≤ 229)) → v a = v a := fun a _ => rfl
  refine ⟨fun hc => ?_, fun hc => ?_⟩
  · replace h := h.1 hc
    intro v10 ev10
    replace h := h v10 ev10
    replace hf : ∀ a, ¬ (a = 218 ∨ (224 ≤ a ∧ a ≤ 229)) → v10 a = v a := fun a ha => by rw [ev10, upd2_off _ _ _ (by omega), hf a ha]
    refine N_X11_laysFar (F_X11_laysFar h) (fun v14 h => ?_)
    obtain ⟨h, hg⟩ := h
    replace hf : ∀ a, ¬ (a = 218 ∨ (224 ≤ a ∧ a ≤ 229)) → v14 a = v a := fun a ha => by rw [hg a (by omega), hf a ha]
    clear hg
    refine N_X11_laysKinds (F_X11_laysKinds h) (fun v18 h => ?_)
    obtain ⟨h, hg⟩ := h
    replace hf : ∀ a, ¬ (a = 218 ∨ (224 ≤ a ∧ a ≤ 229)) → v18 a = v a := fun a ha => by rw [hg a (by omega), hf a ha]
    clear hg
    refine N_X11_laysReason (F_X11_laysReason h) (fun v22 h => ?_)
    obtain ⟨h, hg⟩ := h
    replace hf : ∀ a, ¬ (a = 218 ∨ (224 ≤ a ∧ a ≤ 229)) → v22 a = v a := fun a ha => by rw [hg a (by omega), hf a ha]
    clear hg
    refine N_X11_laysSides (F_X11_laysSides h) (fun v26 h => ?_)
    obtain ⟨h, hg⟩ := h
    replace hf : ∀ a, ¬ (a = 218 ∨ (224 ≤ a ∧ a ≤ 229)) → v26 a = v a := fun a ha => by rw [hg a (by omega), hf a ha]
    clear hg
    exact ⟨h, hf⟩
  · replace h := h.2 hc
    exact ⟨h, hf⟩
theorem N_X11_sits  {v : VT} {q q' : Int → VT → Prop} (h : P_X11_sits  v q) (hq : ∀ r w, q r w → q' r w) : P_X11_sits  v q' := by
  unfold P_X11_sits at h ⊢
  refine N_X11_lays h (fun v1 h => ?_)
  refine ⟨fun hc => ?_, fun hc => ?_⟩
  · replace h := h.1 hc
    exact hq _ _ h
  · replace h := h.2 hc
    refine ⟨fun hc => ?_, fun hc => ?_⟩
    · replace h := h.1 hc
      exact hq _ _ h
    · replace h := h.2 hc
      exact hq _ _ h
theorem F_X11_sits  {v : VT} {q : Int → VT → Prop} (h : P_X11_sits  v q) : P_X11_sits  v (fun r w => q r w ∧ ∀ a, ¬ (a = 218 ∨ (224 ≤ a ∧ a ≤ 229)) → w a = v a) := by
  unfold P_X11_sits at h ⊢
  have hf : ∀ a, ¬ (a = 218 ∨ (224 ≤ a ∧ a ≤ 229)) → v a = v a := fun a _ => rfl
  refine N_X11_lays (F_X11_lays h) (fun v1 h => ?_)
  obtain ⟨h, hg⟩ := h
  replace hf : ∀ a, ¬ (a = 218 ∨ (224 ≤ a ∧ a ≤ 229)) → v1 a = v a := fun a ha => by rw [hg a (by omega), hf a ha]
  clear hg
  refine ⟨fun hc => ?_, fun hc => ?_⟩
  · replace h := h.1 hc
    exact ⟨h, hf⟩
  · replace h := h.2 hc
    refine ⟨fun hc => ?_, fun hc => ?_⟩
    · replace h := h.1 hc
      exact ⟨h, hf⟩
    · replace h := h.2 hc
      exact ⟨h, hf⟩
theorem N_X11_isWhole  {v : VT} {q q' : Int → VT → Prop} (h : P_X11_isWhole  v q) (hq : ∀ r w, q r w → q' r w) : P_X11_isWhole  v q' := by
  unfold P_X11_isWhole at h ⊢
  refine N_X11_lays h (fun v1 h => ?_)
  refine ⟨fun hc => ?_, fun hc => ?_⟩
  · replace h := h.1 hc
    exact hq _ _ h
  · replace h := h.2 hc
    refine ⟨fun hc => ?_, fun hc => ?_⟩
    · replace h := h.1 hc
      exact hq _ _ h
    · replace h := h.2 hc
      exact hq _ _ h
theorem F_X11_isWhole  {v : VT} {q : Int → VT → Prop} (h : P_X11_isWhole  v q) : P_X11_isWhole  v (fun r w => q r w ∧ ∀ a, ¬ (a = 218 ∨ (224 ≤ a ∧ a ≤ 229)) → w a = v a) := by
  unfold P_X11_isWhole at h ⊢
  have hf : ∀ a, ¬ (a = 218 ∨ (224 ≤ a ∧ a ≤ 229)) → v a = v a := fun a _ => rfl
  refine N_X11_lays (F_X11_lays h) (fun v1 h => ?_)
  obtain ⟨h, hg⟩ := h
  replace hf : ∀ a, ¬ (a = 218 ∨ (224 ≤ a ∧ a ≤ 229)) → v1 a = v a := fun a ha => by rw [hg a (by omega), hf a ha]
  clear hg
  refine ⟨fun hc => ?_, fun hc => ?_⟩
  · replace h := h.1 hc
    exact ⟨h, hf⟩
  · replace h := h.2 hc
    refine ⟨fun hc => ?_, fun hc => ?_⟩
    · replace h := h.1 hc
      exact ⟨h, hf⟩
    · replace h := h.2 hc
      exact ⟨h, hf⟩
theorem N_X11_isFair  {v : VT} {q q' : Int → Prop} (h : P_X11_isFair  v q) (hq : ∀ r, q r → q' r) : P_X11_isFair  v q' := by
  unfold P_X11_isFair at h ⊢
  intro X2 hKX2
  refine n_cut (h X2) ?_ ?_
  · intro i1 h
    refine hKX2 i1 ?_
    refine ⟨fun hc => ?_, fun hc => ?_⟩
    · replace h := h.1 hc
      exact hq _ h
    · replace h := h.2 hc
      refine N_X11_priceOf h (fun r14 h => ?_)
      obtain ⟨ho1, h⟩ := h
      refine ⟨ho1, ?_⟩
      obtain ⟨ho2, h⟩ := h
      refine ⟨ho2, ?_⟩
      refine N_X11_priceOf h (fun r29 h => ?_)
      refine ⟨fun hc => ?_, fun hc => ?_⟩
      · replace h := h.1 hc
        obtain ⟨ho3, h⟩ := h
        refine ⟨ho3, ?_⟩
        exact h
      · replace h := h.2 hc
        exact hq _ h
  · intro h
    exact h
theorem N_X11_has {x1 : Int} {v : VT} {q q' : Int → VT → Prop} (h : P_X11_has x1 v q) (hq : ∀ r w, q r w → q' r w) : P_X11_has x1 v q' := by
  unfold P_X11_has at h ⊢
  refine N_X11_lays h (fun v1 h => ?_)
  refine ⟨fun hc => ?_, fun hc => ?_, fun hc => ?_, fun hc => ?_, fun hc => ?_, fun hc => ?_, fun hc => ?_, fun hc => ?_, fun hc => ?_⟩
  · replace h := h.1 hc
    exact hq _ _ h
  · replace h := h.2.1 hc
    exact hq _ _ h
  · replace h := h.2.2.1 hc
    exact hq _ _ h
  · replace h := h.2.2.2.1 hc
    exact hq _ _ h
  · replace h := h.2.2.2.2.1 hc
    exact hq _ _ h
  · replace h := h.2.2.2.2.2.1 hc
    exact hq _ _ h
  · replace h := h.2.2.2.2.2.2.1 hc
    exact hq _ _ h
  · replace h := h.2.2.2.2.2.2.2.1 hc
    refine N_X11_isFair h (fun r92 h => ?_)
    refine N_X11_flag h (fun r95 h => ?_)
    exact hq _ _ h
  · replace h := h.2.2.2.2.2.2.2.2 hc
    exact hq _ _ h
theorem F_X11_has {x1 : Int} {v : VT} {q : Int → VT → Prop} (h : P_X11_has x1 v q) : P_X11_has x1 v (fun r w => q r w ∧ ∀ a, ¬ (a = 218 ∨ (224 ≤ a ∧ a ≤ 229)) → w a = v a) := by
  unfold P_X11_has at h ⊢
  have hf : ∀ a, ¬ (a = 218 ∨ (224 ≤ a ∧ a ≤ 229)) → v a = v a := fun a _ => rfl
  refine N_X11_lays (F_X11_lays h) (fun v1 h => ?_)
  obtain ⟨h, hg⟩ := h
  replace hf : ∀ a, ¬ (a = 218 ∨ (224 ≤ a ∧ a ≤ 229)) → v1 a = v a := fun a ha => by rw [hg a (by omega), hf a ha]
  clear hg
  refine ⟨fun hc => ?_, fun hc => ?_, fun hc => ?_, fun hc => ?_, fun hc => ?_, fun hc => ?_, fun hc => ?_, fun hc => ?_, fun hc => ?_⟩
  · replace h := h.1 hc
    exact ⟨h, hf⟩
  · replace h := h.2.1 hc
    exact ⟨h, hf⟩
  · replace h := h.2.2.1 hc
    exact ⟨h, hf⟩
  · replace h := h.2.2.2.1 hc
    exact ⟨h, hf⟩
  · replace h := h.2.2.2.2.1 hc
    exact ⟨h, hf⟩
  · replace h := h.2.2.2.2.2.1 hc
    exact ⟨h, hf⟩
  · replace h := h.2.2.2.2.2.2.1 hc
    exact ⟨h, hf⟩
  · replace h := h.2.2.2.2.2.2.2.1 hc
    refine N_X11_isFair h (fun r92 h => ?_)
    refine N_X11_flag h (fun r95 h => ?_)
    exact ⟨h, hf⟩
  · replace h := h.2.2.2.2.2.2.2.2 hc
    exact ⟨h, hf⟩
theorem N_X11_letter {x1 : Int} {x2 : Int} {v : VT} {q q' : Int → Prop} (h : P_X11_letter x1 x2 v q) (hq : ∀ r, q r → q' r) : P_X11_letter x1 x2 v q' := by
  unfold P_X11_letter at h ⊢
  refine N_X11_isNode h (fun r2 h => ?_)
  refine ⟨fun hc => ?_, fun hc => ?_⟩
  · replace h := h.1 hc
    exact hq _ h
  · replace h := h.2 hc
    refine N_X11_isIn h (fun r14 h => ?_)
    refine ⟨fun hc => ?_, fun hc => ?_⟩
    · replace h := h.1 hc
      obtain ⟨ho1, h⟩ := h
      refine ⟨ho1, ?_⟩
      obtain ⟨ho2, h⟩ := h
      refine ⟨ho2, ?_⟩
      intro l3 el3
      replace h := h l3 el3
      intro K55 hKK55
      refine n_cut (h K55) ?_ ?_
      · intro i4 h
        refine hKK55 i4 ?_
        obtain ⟨ho3, h⟩ := h
        refine ⟨ho3, ?_⟩
        intro X61 hKX61
        refine n_cut (h X61) ?_ ?_
        · intro i3 i5 h
          refine hKX61 i3 i5 ?_
          refine ⟨fun hc => ?_, fun hc => ?_⟩
          · replace h := h.1 hc
            refine ⟨fun hc => ?_, fun hc => ?_⟩
            · replace h := h.1 hc
              exact hq _ h
            · replace h := h.2 hc
              exact hq _ h
          · replace h := h.2 hc
            obtain ⟨ho4, h⟩ := h
            refine ⟨ho4, ?_⟩
            exact h
        · intro h
          exact h
      · intro h
        intro X37 hKX37
        refine n_cut (h X37) ?_ ?_
        · intro i4_1 i5_1 h
          refine hKX37 i4_1 i5_1 ?_
          refine ⟨fun hc => ?_, fun hc => ?_⟩
          · replace h := h.1 hc
            exact h
          · replace h := h.2 hc
            obtain ⟨ho5, h⟩ := h
            refine ⟨ho5, ?_⟩
            intro l5 el5
            replace h := h l5 el5
            exact h
        · intro h
          exact h
    · replace h := h.2 hc
      exact hq _ h
theorem N_X11_named  {v : VT} {q q' : Int → VT → Prop} (h : P_X11_named  v q) (hq : ∀ r w, q r w → q' r w) : P_X11_named  v q' := by
  unfold P_X11_named at h ⊢
  intro v7 ev7
  replace h := h v7 ev7
  intro X14 hKX14
  refine n_cut (h X14) ?_ ?_
  · intro i2 i3 h
    refine hKX14 i2 i3 ?_
    refine ⟨fun hc => ?_, fun hc => ?_⟩
    · replace h := h.1 hc
      refine ⟨fun hc => ?_, fun hc => ?_⟩
      · replace h := h.1 hc
        refine N_X11_nodeNamed h (fun r74 h => ?_)
        exact hq _ _ h
      · replace h := h.2 hc
        exact hq _ _ h
    · replace h := h.2 hc
      refine ⟨fun hc => ?_, fun hc => ?_⟩
      · replace h := h.1 hc
        exact hq _ _ h
      · replace h := h.2 hc
        obtain ⟨ho1, h⟩ := h
        refine ⟨ho1, ?_⟩
        refine N_X11_isLetter h (fun r30 h => ?_)
        refine ⟨fun hc => ?_, fun hc => ?_⟩
        · replace h := h.1 hc
          obtain ⟨ho2, h⟩ := h
          refine ⟨ho2, ?_⟩
          obtain ⟨ho3, h⟩ := h
          refine ⟨ho3, ?_⟩
          obtain ⟨ho4, h⟩ := h
          refine ⟨ho4, ?_⟩
          obtain ⟨ho5, h⟩ := h
          refine ⟨ho5, ?_⟩
          obtain ⟨ho6, h⟩ := h
          refine ⟨ho6, ?_⟩
          intro l2 el2
          replace h := h l2 el2
          obtain ⟨ho7, h⟩ := h
          refine ⟨ho7, ?_⟩
          exact h
        · replace h := h.2 hc
          exact hq _ _ h
  · intro h
    exact h
theorem F_X11_named  {v : VT} {q : Int → VT → Prop} (h : P_X11_named  v q) : P_X11_named  v (fun r w => q r w ∧ ∀ a, ¬ (a = 218) → w a = v a) := by
  unfold P_X11_named at h ⊢
  have hf : ∀ a, ¬ (a = 218) → v a = v a := fun a _ => rfl
  intro v7 ev7
  replace h := h v7 ev7
  replace hf : ∀ a, ¬ (a = 218) → v7 a = v a := fun a ha => by rw [ev7, upd2_off _ _ _ (by omega), hf a ha]
  intro X14 hKX14
  refine n_cut (h X14) ?_ ?_
  · intro i2 i3 h
    refine hKX14 i2 i3 ?_
    refine ⟨fun hc => ?_, fun hc => ?_⟩
    · replace h := h.1 hc
      refine ⟨fun hc => ?_, fun hc => ?_⟩
      · replace h := h.1 hc
        refine N_X11_nodeNamed h (fun r74 h => ?_)
        exact ⟨h, hf⟩
      · replace h := h.2 hc
        exact ⟨h, hf⟩
    · replace h := h.2 hc
      refine ⟨fun hc => ?_, fun hc => ?_⟩
      · replace h := h.1 hc
        exact ⟨h, hf⟩
      · replace h := h.2 hc
        obtain ⟨ho1, h⟩ := h
        refine ⟨ho1, ?_⟩
        refine N_X11_isLetter h (fun r30 h => ?_)
        refine ⟨fun hc => ?_, fun hc => ?_⟩
        · replace h := h.1 hc
          obtain ⟨ho2, h⟩ := h
          refine ⟨ho2, ?_⟩
          obtain ⟨ho3, h⟩ := h
          refine ⟨ho3, ?_⟩
          obtain ⟨ho4, h⟩ := h
          refine ⟨ho4, ?_⟩
          obtain ⟨ho5, h⟩ := h
          refine ⟨ho5, ?_⟩
          obtain ⟨ho6, h⟩ := h
          refine ⟨ho6, ?_⟩
          intro l2 el2
          replace h := h l2 el2
          obtain ⟨ho7, h⟩ := h
          refine ⟨ho7, ?_⟩
          exact h
        · replace h := h.2 hc
          exact ⟨h, hf⟩
  · intro h
    exact h
theorem N_X11_line {x1 : Int} {x2 : Int} {v : VT} {q q' : Int → VT → Prop} (h : P_X11_line x1 x2 v q) (hq : ∀ r w, q r w → q' r w) : P_X11_line x1 x2 v q' := by
  unfold P_X11_line at h ⊢
  refine N_X11_isLine h (fun r2 h => ?_)
  refine ⟨fun hc => ?_, fun hc => ?_⟩
  · replace h := h.1 hc
    refine N_X11_lays h (fun v11 h => ?_)
    refine ⟨fun hc => ?_, fun hc => ?_⟩
    · replace h := h.1 hc
      refine ⟨fun hc => ?_, fun hc => ?_⟩
      · replace h := h.1 hc
        refine ⟨fun hc => ?_, fun hc => ?_⟩
        · replace h := h.1 hc
          refine ⟨fun hc => ?_, fun hc => ?_⟩
          · replace h := h.1 hc
            exact hq _ _ h
          · replace h := h.2 hc
            refine N_X11_priceOf h (fun r60 h => ?_)
            exact hq _ _ h
        · replace h := h.2 hc
          obtain ⟨ho1, h⟩ := h
          refine ⟨ho1, ?_⟩
          exact hq _ _ h
      · replace h := h.2 hc
        refine N_X11_high h (fun r33 h => ?_)
        exact hq _ _ h
    · replace h := h.2 hc
      refine N_X11_low h (fun r20 h => ?_)
      exact hq _ _ h
  · replace h := h.2 hc
    exact hq _ _ h
theorem F_X11_line {x1 : Int} {x2 : Int} {v : VT} {q : Int → VT → Prop} (h : P_X11_line x1 x2 v q) : P_X11_line x1 x2 v (fun r w => q r w ∧ ∀ a, ¬ (a = 218 ∨ (224 ≤ a ∧ a ≤ 229)) → w a = v a) := by
  unfold P_X11_line at h ⊢
  have hf : ∀ a, ¬ (a = 218 ∨ (224 ≤ a ∧ a ≤ 229)) → v a = v a := fun a _ => rfl
  refine N_X11_isLine h (fun r2 h => ?_)
  refine ⟨fun hc => ?_, fun hc => ?_⟩
  · replace h := h.1 hc
    refine N_X11_lays (F_X11_lays h) (fun v11 h => ?_)
    obtain ⟨h, hg⟩ := h
    replace hf : ∀ a, ¬ (a = 218 ∨ (224 ≤ a ∧ a ≤ 229)) → v11 a = v a := fun a ha => by rw [hg a (by omega), hf a ha]
    clear hg
    refine ⟨fun hc => ?_, fun hc => ?_⟩
    · replace h := h.1 hc
      refine ⟨fun hc => ?_, fun hc => ?_⟩
      · replace h := h.1 hc
        refine ⟨fun hc => ?_, fun hc => ?_⟩
        · replace h := h.1 hc
          refine ⟨fun hc => ?_, fun hc => ?_⟩
          · replace h := h.1 hc
            exact ⟨h, hf⟩
          · replace h := h.2 hc
            refine N_X11_priceOf h (fun r60 h => ?_)
            exact ⟨h, hf⟩
        · replace h := h.2 hc
          obtain ⟨ho1, h⟩ := h
          refine ⟨ho1, ?_⟩
          exact ⟨h, hf⟩
      · replace h := h.2 hc
        refine N_X11_high h (fun r33 h => ?_)
        exact ⟨h, hf⟩
    · replace h := h.2 hc
      refine N_X11_low h (fun r20 h => ?_)
      exact ⟨h, hf⟩
  · replace h := h.2 hc
    exact ⟨h, hf⟩
theorem N_X11_degreeOf {x1 : Int} {v : VT} {q q' : Int → Prop} (h : P_X11_degreeOf x1 v q) (hq : ∀ r, q r → q' r) : P_X11_degreeOf x1 v q' := by
  unfold P_X11_degreeOf at h ⊢
  intro X4 hKX4
  refine n_cut (h X4) ?_ ?_
  · intro i2 i3 h
    refine hKX4 i2 i3 ?_
    refine ⟨fun hc => ?_, fun hc => ?_⟩
    · replace h := h.1 hc
      exact hq _ h
    · replace h := h.2 hc
      refine N_X11_low h (fun r17 h => ?_)
      refine ⟨fun hc => ?_, fun hc => ?_⟩
      · replace h := h.1 hc
        refine N_X11_flag h (fun r38 h => ?_)
        obtain ⟨ho1, h⟩ := h
        refine ⟨ho1, ?_⟩
        obtain ⟨ho2, h⟩ := h
        refine ⟨ho2, ?_⟩
        exact h
      · replace h := h.2 hc
        refine N_X11_high h (fun r26 h => ?_)
        refine ⟨fun hc => ?_, fun hc => ?_⟩
        · replace h := h.1 hc
          refine N_X11_flag h (fun r38_1 h => ?_)
          obtain ⟨ho3, h⟩ := h
          refine ⟨ho3, ?_⟩
          obtain ⟨ho4, h⟩ := h
          refine ⟨ho4, ?_⟩
          exact h
        · replace h := h.2 hc
          refine N_X11_flag h (fun r38_2 h => ?_)
          obtain ⟨ho5, h⟩ := h
          refine ⟨ho5, ?_⟩
          obtain ⟨ho6, h⟩ := h
          refine ⟨ho6, ?_⟩
          exact h
  · intro h
    exact h
theorem N_X11_degree {x1 : Int} {v : VT} {q q' : Int → Prop} (h : P_X11_degree x1 v q) (hq : ∀ r, q r → q' r) : P_X11_degree x1 v q' := by
  unfold P_X11_degree at h ⊢
  refine N_X11_isNode h (fun r2 h => ?_)
  refine ⟨fun hc => ?_, fun hc => ?_⟩
  · replace h := h.1 hc
    exact hq _ h
  · replace h := h.2 hc
    refine N_X11_degreeOf h (fun r10 h => ?_)
    exact hq _ h
theorem N_X11_areNodes {x1 : Int} {x2 : Int} {v : VT} {q q' : Int → VT → Prop} (h : P_X11_areNodes x1 x2 v q) (hq : ∀ r w, q r w → q' r w) : P_X11_areNodes x1 x2 v q' := by
  unfold P_X11_areNodes at h ⊢
  refine N_X11_lays h (fun v1 h => ?_)
  refine N_X11_isNode h (fun r6 h => ?_)
  refine ⟨fun hc => ?_, fun hc => ?_⟩
  · replace h := h.1 hc
    exact hq _ _ h
  · replace h := h.2 hc
    refine N_X11_isNode h (fun r14 h => ?_)
    refine ⟨fun hc => ?_, fun hc => ?_⟩
    · replace h := h.1 hc
      exact hq _ _ h
    · replace h := h.2 hc
      exact hq _ _ h
theorem F_X11_areNodes {x1 : Int} {x2 : Int} {v : VT} {q : Int → VT → Prop} (h : P_X11_areNodes x1 x2 v q) : P_X11_areNodes x1 x2 v (fun r w => q r w ∧ ∀ a, ¬ (a = 218 ∨ (224 ≤ a ∧ a ≤ 229)) → w a = v a) := by
  unfold P_X11_areNodes at h ⊢
  have hf : ∀ a, ¬ (a = 218 ∨ (224 ≤ a ∧ a ≤ 229)) → v a = v a := fun a _ => rfl
  refine N_X11_lays (F_X11_lays h) (fun v1 h => ?_)
  obtain ⟨h, hg⟩ := h
  replace hf : ∀ a, ¬ (a = 218 ∨ (224 ≤ a ∧ a ≤ 229)) → v1 a = v a := fun a ha => by rw [hg a (by omega), hf a ha]
  clear hg
  refine N_X11_isNode h (fun r6 h => ?_)
  refine ⟨fun hc => ?_, fun hc => ?_⟩
  · replace h := h.1 hc
    exact ⟨h, hf⟩
  · replace h := h.2 hc
    refine N_X11_isNode h (fun r14 h => ?_)
    refine ⟨fun hc => ?_, fun hc => ?_⟩
    · replace h := h.1 hc
      exact ⟨h, hf⟩
    · replace h := h.2 hc
      exact ⟨h, hf⟩
theorem N_X11_far {x1 : Int} {x2 : Int} {v : VT} {q q' : Int → VT → Prop} (h : P_X11_far x1 x2 v q) (hq : ∀ r w, q r w → q' r w) : P_X11_far x1 x2 v q' := by
  unfold P_X11_far at h ⊢
  refine N_X11_areNodes h (fun r3 v3 h => ?_)
  refine ⟨fun hc => ?_, fun hc => ?_⟩
  · replace h := h.1 hc
    exact hq _ _ h
  · replace h := h.2 hc
    refine N_X11_farOf h (fun r12 h => ?_)
    refine ⟨fun hc => ?_, fun hc => ?_⟩
    · replace h := h.1 hc
      exact hq _ _ h
    · replace h := h.2 hc
      refine N_X11_farOf h (fun r23 h => ?_)
      exact hq _ _ h
theorem F_X11_far {x1 : Int} {x2 : Int} {v : VT} {q : Int → VT → Prop} (h : P_X11_far x1 x2 v q) : P_X11_far x1 x2 v (fun r w => q r w ∧ ∀ a, ¬ (a = 218 ∨ (224 ≤ a ∧ a ≤ 229)) → w a = v a) := by
  unfold P_X11_far at h ⊢
  have hf : ∀ a, ¬ (a = 218 ∨ (224 ≤ a ∧ a ≤ 229)) → v a = v a := fun a _ => rfl
  refine N_X11_areNodes (F_X11_areNodes h) (fun r3 v3 h => ?_)
  obtain ⟨h, hg⟩ := h
  replace hf : ∀ a, ¬ (a = 218 ∨ (224 ≤ a ∧ a ≤ 229)) → v3 a = v a := fun a ha => by rw [hg a (by omega), hf a ha]
  clear hg
  refine ⟨fun hc => ?_, fun hc => ?_⟩
  · replace h := h.1 hc
    exact ⟨h, hf⟩
  · replace h := h.2 hc
    refine N_X11_farOf h (fun r12 h => ?_)
    refine ⟨fun hc => ?_, fun hc => ?_⟩
    · replace h := h.1 hc
      exact ⟨h, hf⟩
    · replace h := h.2 hc
      refine N_X11_farOf h (fun r23 h => ?_)
      exact ⟨h, hf⟩
theorem N_X11_ways {x1 : Int} {x2 : Int} {v : VT} {q q' : Int → VT → Prop} (h : P_X11_ways x1 x2 v q) (hq : ∀ r w, q r w → q' r w) : P_X11_ways x1 x2 v q' := by
  unfold P_X11_ways at h ⊢
  refine N_X11_areNodes h (fun r3 v3 h => ?_)
  refine ⟨fun hc => ?_, fun hc => ?_⟩
  · replace h := h.1 hc
    intro K49 hKK49
    refine n_cut (h K49) ?_ ?_
    · intro v49 h
      refine hKK49 v49 ?_
      intro X51 hKX51
      refine n_cut (h X51) ?_ ?_
      · intro i3 v51 h
        refine hKX51 i3 v51 ?_
        refine ⟨fun hc => ?_, fun hc => ?_⟩
        · replace h := h.1 hc
          obtain ⟨ho1, h⟩ := h
          refine ⟨ho1, ?_⟩
          obtain ⟨ho2, h⟩ := h
          refine ⟨ho2, ?_⟩
          exact hq _ _ h
        · replace h := h.2 hc
          intro X60 hKX60
          refine n_cut (h X60) ?_ ?_
          · intro i4 v60 h
            refine hKX60 i4 v60 ?_
            refine ⟨fun hc => ?_, fun hc => ?_⟩
            · replace h := h.1 hc
              obtain ⟨ho3, h⟩ := h
              refine ⟨ho3, ?_⟩
              exact h
            · replace h := h.2 hc
              refine N_X11_farOf h (fun r75 h => ?_)
              refine ⟨fun hc => ?_, fun hc => ?_⟩
              · replace h := h.1 hc
                intro X88 hKX88
                refine n_cut (h X88) ?_ ?_
                · intro i5 v88 h
                  refine hKX88 i5 v88 ?_
                  refine ⟨fun hc => ?_, fun hc => ?_⟩
                  · replace h := h.1 hc
                    obtain ⟨ho4, h⟩ := h
                    refine ⟨ho4, ?_⟩
                    exact h
                  · replace h := h.2 hc
                    refine N_X11_farOf h (fun r104 h => ?_)
                    refine ⟨fun hc => ?_, fun hc => ?_⟩
                    · replace h := h.1 hc
                      obtain ⟨ho5, h⟩ := h
                      refine ⟨ho5, ?_⟩
                      exact h
                    · replace h := h.2 hc
                      refine N_X11_farOf h (fun r115 h => ?_)
                      obtain ⟨ho6, h⟩ := h
                      refine ⟨ho6, ?_⟩
                      refine ⟨fun hc => ?_, fun hc => ?_⟩
                      · replace h := h.1 hc
                        obtain ⟨ho7, h⟩ := h
                        refine ⟨ho7, ?_⟩
                        exact h
                      · replace h := h.2 hc
                        obtain ⟨ho8, h⟩ := h
                        refine ⟨ho8, ?_⟩
                        obtain ⟨ho9, h⟩ := h
                        refine ⟨ho9, ?_⟩
                        obtain ⟨ho10, h⟩ := h
                        refine ⟨ho10, ?_⟩
                        refine ⟨fun hc => ?_, fun hc => ?_⟩
                        · replace h := h.1 hc
                          obtain ⟨ho11, h⟩ := h
                          refine ⟨ho11, ?_⟩
                          obtain ⟨ho12, h⟩ := h
                          refine ⟨ho12, ?_⟩
                          obtain ⟨ho13, h⟩ := h
                          refine ⟨ho13, ?_⟩
                          obtain ⟨ho14, h⟩ := h
                          refine ⟨ho14, ?_⟩
                          intro v173 ev173
                          replace h := h v173 ev173
                          obtain ⟨ho15, h⟩ := h
                          refine ⟨ho15, ?_⟩
                          exact h
                        · replace h := h.2 hc
                          obtain ⟨ho16, h⟩ := h
                          refine ⟨ho16, ?_⟩
                          intro v173_1 ev173_1
                          replace h := h v173_1 ev173_1
                          obtain ⟨ho17, h⟩ := h
                          refine ⟨ho17, ?_⟩
                          exact h
                · intro h
                  exact h
              · replace h := h.2 hc
                obtain ⟨ho18, h⟩ := h
                refine ⟨ho18, ?_⟩
                exact h
          · intro h
            exact h
      · intro h
        exact h
    · intro h
      intro X13 hKX13
      refine n_cut (h X13) ?_ ?_
      · intro i3_1 v13 h
        refine hKX13 i3_1 v13 ?_
        refine ⟨fun hc => ?_, fun hc => ?_⟩
        · replace h := h.1 hc
          exact h
        · replace h := h.2 hc
          refine ⟨fun hc => ?_, fun hc => ?_⟩
          · replace h := h.1 hc
            refine N_X11_flag h (fun r38 h => ?_)
            obtain ⟨ho19, h⟩ := h
            refine ⟨ho19, ?_⟩
            intro v42 ev42
            replace h := h v42 ev42
            obtain ⟨ho20, h⟩ := h
            refine ⟨ho20, ?_⟩
            exact h
          · replace h := h.2 hc
            refine N_X11_flag h (fun r38_1 h => ?_)
            obtain ⟨ho21, h⟩ := h
            refine ⟨ho21, ?_⟩
            intro v42_1 ev42_1
            replace h := h v42_1 ev42_1
            obtain ⟨ho22, h⟩ := h
            refine ⟨ho22, ?_⟩
            exact h
      · intro h
        exact h
  · replace h := h.2 hc
    exact hq _ _ h
theorem F_X11_ways {x1 : Int} {x2 : Int} {v : VT} {q : Int → VT → Prop} (h : P_X11_ways x1 x2 v q) : P_X11_ways x1 x2 v (fun r w => q r w ∧ ∀ a, ¬ (a = 218 ∨ (224 ≤ a ∧ a ≤ 230)) → w a = v a) := by
  unfold P_X11_ways at h ⊢
  have hf : ∀ a, ¬ (a = 218 ∨ (224 ≤ a ∧ a ≤ 230)) → v a = v a := fun a _ => rfl
  refine N_X11_areNodes (F_X11_areNodes h) (fun r3 v3 h => ?_)
  obtain ⟨h, hg⟩ := h
  replace hf : ∀ a, ¬ (a = 218 ∨ (224 ≤ a ∧ a ≤ 230)) → v3 a = v a := fun a ha => by rw [hg a (by omega), hf a ha]
  clear hg
  refine ⟨fun hc => ?_, fun hc => ?_⟩
  · replace h := h.1 hc
    intro K49 hKK49
    refine n_cut (h (fun (v49 : VT) => (∀ a, ¬ (a = 218 ∨ (224 ≤ a ∧ a ≤ 230)) → v49 a = v a) → K49 v49)) ?_ ?_
    · intro v49 h hf
      refine hKK49 v49 ?_
      intro X51 hKX51
      refine n_cut (h (fun (i3 : Int) (v51 : VT) => (∀ a, ¬ (a = 218 ∨ (224 ≤ a ∧ a ≤ 230)) → v51 a = v a) → X51 i3 v51)) ?_ ?_
      · intro i3 v51 h hf
        refine hKX51 i3 v51 ?_
        refine ⟨fun hc => ?_, fun hc => ?_⟩
        · replace h := h.1 hc
          obtain ⟨ho1, h⟩ := h
          refine ⟨ho1, ?_⟩
          obtain ⟨ho2, h⟩ := h
          refine ⟨ho2, ?_⟩
          exact ⟨h, hf⟩
        · replace h := h.2 hc
          intro X60 hKX60
          refine n_cut (h (fun (i4 : Int) (v60 : VT) => (∀ a, ¬ (a = 218 ∨ (224 ≤ a ∧ a ≤ 230)) → v60 a = v a) → X60 i4 v60)) ?_ ?_
          · intro i4 v60 h hf
            refine hKX60 i4 v60 ?_
            refine ⟨fun hc => ?_, fun hc => ?_⟩
            · replace h := h.1 hc
              obtain ⟨ho3, h⟩ := h
              refine ⟨ho3, ?_⟩
              exact h hf
            · replace h := h.2 hc
              refine N_X11_farOf h (fun r75 h => ?_)
              refine ⟨fun hc => ?_, fun hc => ?_⟩
              · replace h := h.1 hc
                intro X88 hKX88
                refine n_cut (h (fun (i5 : Int) (v88 : VT) => (∀ a, ¬ (a = 218 ∨ (224 ≤ a ∧ a ≤ 230)) → v88 a = v a) → X88 i5 v88)) ?_ ?_
                · intro i5 v88 h hf
                  refine hKX88 i5 v88 ?_
                  refine ⟨fun hc => ?_, fun hc => ?_⟩
                  · replace h := h.1 hc
                    obtain ⟨ho4, h⟩ := h
                    refine ⟨ho4, ?_⟩
                    exact h hf
                  · replace h := h.2 hc
                    refine N_X11_farOf h (fun r104 h => ?_)
                    refine ⟨fun hc => ?_, fun hc => ?_⟩
                    · replace h := h.1 hc
                      obtain ⟨ho5, h⟩ := h
                      refine ⟨ho5, ?_⟩
                      exact h hf
                    · replace h := h.2 hc
                      refine N_X11_farOf h (fun r115 h => ?_)
                      obtain ⟨ho6, h⟩ := h
                      refine ⟨ho6, ?_⟩
                      refine ⟨fun hc => ?_, fun hc => ?_⟩
                      · replace h := h.1 hc
                        obtain ⟨ho7, h⟩ := h
                        refine ⟨ho7, ?_⟩
                        exact h hf
                      · replace h := h.2 hc
                        obtain ⟨ho8, h⟩ := h
                        refine ⟨ho8, ?_⟩
                        obtain ⟨ho9, h⟩ := h
                        refine ⟨ho9, ?_⟩
                        obtain ⟨ho10, h⟩ := h
                        refine ⟨ho10, ?_⟩
                        refine ⟨fun hc => ?_, fun hc => ?_⟩
                        · replace h := h.1 hc
                          obtain ⟨ho11, h⟩ := h
                          refine ⟨ho11, ?_⟩
                          obtain ⟨ho12, h⟩ := h
                          refine ⟨ho12, ?_⟩
                          obtain ⟨ho13, h⟩ := h
                          refine ⟨ho13, ?_⟩
                          obtain ⟨ho14, h⟩ := h
                          refine ⟨ho14, ?_⟩
                          intro v173 ev173
                          replace h := h v173 ev173
                          replace hf : ∀ a, ¬ (a = 218 ∨ (224 ≤ a ∧ a ≤ 230)) → v173 a = v a := fun a ha => by rw [ev173, upd2_off _ _ _ (by omega), hf a ha]
                          obtain ⟨ho15, h⟩ := h
                          refine ⟨ho15, ?_⟩
                          exact h hf
                        · replace h := h.2 hc
                          obtain ⟨ho16, h⟩ := h
                          refine ⟨ho16, ?_⟩
                          intro v173_1 ev173_1
                          replace h := h v173_1 ev173_1
                          replace hf : ∀ a, ¬ (a = 218 ∨ (224 ≤ a ∧ a ≤ 230)) → v173_1 a = v a := fun a ha => by rw [ev173_1, upd2_off _ _ _ (by omega), hf a ha]
                          obtain ⟨ho17, h⟩ := h
                          refine ⟨ho17, ?_⟩
                          exact h hf
                · intro h
                  exact h hf
              · replace h := h.2 hc
                obtain ⟨ho18, h⟩ := h
                refine ⟨ho18, ?_⟩
                exact h hf
          · intro h
            exact h hf
      · intro h
        exact h hf
    · intro h
      intro X13 hKX13
      refine n_cut (h (fun (i3_1 : Int) (v13 : VT) => (∀ a, ¬ (a = 218 ∨ (224 ≤ a ∧ a ≤ 230)) → v13 a = v a) → X13 i3_1 v13)) ?_ ?_
      · intro i3_1 v13 h hf
        refine hKX13 i3_1 v13 ?_
        refine ⟨fun hc => ?_, fun hc => ?_⟩
        · replace h := h.1 hc
          exact h hf
        · replace h := h.2 hc
          refine ⟨fun hc => ?_, fun hc => ?_⟩
          · replace h := h.1 hc
            refine N_X11_flag h (fun r38 h => ?_)
            obtain ⟨ho19, h⟩ := h
            refine ⟨ho19, ?_⟩
            intro v42 ev42
            replace h := h v42 ev42
            replace hf : ∀ a, ¬ (a = 218 ∨ (224 ≤ a ∧ a ≤ 230)) → v42 a = v a := fun a ha => by rw [ev42, upd2_off _ _ _ (by omega), hf a ha]
            obtain ⟨ho20, h⟩ := h
            refine ⟨ho20, ?_⟩
            exact h hf
          · replace h := h.2 hc
            refine N_X11_flag h (fun r38_1 h => ?_)
            obtain ⟨ho21, h⟩ := h
            refine ⟨ho21, ?_⟩
            intro v42_1 ev42_1
            replace h := h v42_1 ev42_1
            replace hf : ∀ a, ¬ (a = 218 ∨ (224 ≤ a ∧ a ≤ 230)) → v42_1 a = v a := fun a ha => by rw [ev42_1, upd2_off _ _ _ (by omega), hf a ha]
            obtain ⟨ho22, h⟩ := h
            refine ⟨ho22, ?_⟩
            exact h hf
      · intro h
        exact h hf
  · replace h := h.2 hc
    exact ⟨h, hf⟩
theorem N_X11_betweenOf {x1 : Int} {x2 : Int} {v : VT} {q q' : Int → Prop} (h : P_X11_betweenOf x1 x2 v q) (hq : ∀ r, q r → q' r) : P_X11_betweenOf x1 x2 v q' := by
  unfold P_X11_betweenOf at h ⊢
  intro X5 hKX5
  refine n_cut (h X5) ?_ ?_
  · intro i3 i4 h
    refine hKX5 i3 i4 ?_
    refine ⟨fun hc => ?_, fun hc => ?_⟩
    · replace h := h.1 hc
      exact hq _ h
    · replace h := h.2 hc
      refine N_X11_farOf h (fun r19 h => ?_)
      refine ⟨fun hc => ?_, fun hc => ?_⟩
      · replace h := h.1 hc
        exact hq _ h
      · replace h := h.2 hc
        refine N_X11_farOf h (fun r31 h => ?_)
        refine N_X11_farOf h (fun r38 h => ?_)
        obtain ⟨ho1, h⟩ := h
        refine ⟨ho1, ?_⟩
        refine N_X11_farOf h (fun r45 h => ?_)
        refine ⟨fun hc => ?_, fun hc => ?_⟩
        · replace h := h.1 hc
          obtain ⟨ho2, h⟩ := h
          refine ⟨ho2, ?_⟩
          exact h
        · replace h := h.2 hc
          intro l3 el3
          replace h := h l3 el3
          obtain ⟨ho3, h⟩ := h
          refine ⟨ho3, ?_⟩
          exact h
  · intro h
    exact h
theorem N_X11_between {x1 : Int} {x2 : Int} {v : VT} {q q' : Int → VT → Prop} (h : P_X11_between x1 x2 v q) (hq : ∀ r w, q r w → q' r w) : P_X11_between x1 x2 v q' := by
  unfold P_X11_between at h ⊢
  refine N_X11_areNodes h (fun r3 v3 h => ?_)
  refine ⟨fun hc => ?_, fun hc => ?_⟩
  · replace h := h.1 hc
    exact hq _ _ h
  · replace h := h.2 hc
    refine N_X11_betweenOf h (fun r12 h => ?_)
    exact hq _ _ h
theorem F_X11_between {x1 : Int} {x2 : Int} {v : VT} {q : Int → VT → Prop} (h : P_X11_between x1 x2 v q) : P_X11_between x1 x2 v (fun r w => q r w ∧ ∀ a, ¬ (a = 218 ∨ (224 ≤ a ∧ a ≤ 229)) → w a = v a) := by
  unfold P_X11_between at h ⊢
  have hf : ∀ a, ¬ (a = 218 ∨ (224 ≤ a ∧ a ≤ 229)) → v a = v a := fun a _ => rfl
  refine N_X11_areNodes (F_X11_areNodes h) (fun r3 v3 h => ?_)
  obtain ⟨h, hg⟩ := h
  replace hf : ∀ a, ¬ (a = 218 ∨ (224 ≤ a ∧ a ≤ 229)) → v3 a = v a := fun a ha => by rw [hg a (by omega), hf a ha]
  clear hg
  refine ⟨fun hc => ?_, fun hc => ?_⟩
  · replace h := h.1 hc
    exact ⟨h, hf⟩
  · replace h := h.2 hc
    refine N_X11_betweenOf h (fun r12 h => ?_)
    exact ⟨h, hf⟩
theorem N_X11_reach {x1 : Int} {v : VT} {q q' : Int → VT → Prop} (h : P_X11_reach x1 v q) (hq : ∀ r w, q r w → q' r w) : P_X11_reach x1 v q' := by
  unfold P_X11_reach at h ⊢
  refine N_X11_areNodes h (fun r3 v3 h => ?_)
  refine ⟨fun hc => ?_, fun hc => ?_⟩
  · replace h := h.1 hc
    intro X15 hKX15
    refine n_cut (h X15) ?_ ?_
    · intro i2 i3 h
      refine hKX15 i2 i3 ?_
      refine ⟨fun hc => ?_, fun hc => ?_⟩
      · replace h := h.1 hc
        exact hq _ _ h
      · replace h := h.2 hc
        refine N_X11_farOf h (fun r28 h => ?_)
        refine ⟨fun hc => ?_, fun hc => ?_⟩
        · replace h := h.1 hc
          obtain ⟨ho1, h⟩ := h
          refine ⟨ho1, ?_⟩
          exact h
        · replace h := h.2 hc
          refine N_X11_farOf h (fun r39 h => ?_)
          refine ⟨fun hc => ?_, fun hc => ?_⟩
          · replace h := h.1 hc
            obtain ⟨ho2, h⟩ := h
            refine ⟨ho2, ?_⟩
            exact h
          · replace h := h.2 hc
            refine N_X11_farOf h (fun r49 h => ?_)
            obtain ⟨ho3, h⟩ := h
            refine ⟨ho3, ?_⟩
            exact h
    · intro h
      exact h
  · replace h := h.2 hc
    exact hq _ _ h
theorem F_X11_reach {x1 : Int} {v : VT} {q : Int → VT → Prop} (h : P_X11_reach x1 v q) : P_X11_reach x1 v (fun r w => q r w ∧ ∀ a, ¬ (a = 218 ∨ (224 ≤ a ∧ a ≤ 229)) → w a = v a) := by
  unfold P_X11_reach at h ⊢
  have hf : ∀ a, ¬ (a = 218 ∨ (224 ≤ a ∧ a ≤ 229)) → v a = v a := fun a _ => rfl
  refine N_X11_areNodes (F_X11_areNodes h) (fun r3 v3 h => ?_)
  obtain ⟨h, hg⟩ := h
  replace hf : ∀ a, ¬ (a = 218 ∨ (224 ≤ a ∧ a ≤ 229)) → v3 a = v a := fun a ha => by rw [hg a (by omega), hf a ha]
  clear hg
  refine ⟨fun hc => ?_, fun hc => ?_⟩
  · replace h := h.1 hc
    intro X15 hKX15
    refine n_cut (h X15) ?_ ?_
    · intro i2 i3 h
      refine hKX15 i2 i3 ?_
      refine ⟨fun hc => ?_, fun hc => ?_⟩
      · replace h := h.1 hc
        exact ⟨h, hf⟩
      · replace h := h.2 hc
        refine N_X11_farOf h (fun r28 h => ?_)
        refine ⟨fun hc => ?_, fun hc => ?_⟩
        · replace h := h.1 hc
          obtain ⟨ho1, h⟩ := h
          refine ⟨ho1, ?_⟩
          exact h
        · replace h := h.2 hc
          refine N_X11_farOf h (fun r39 h => ?_)
          refine ⟨fun hc => ?_, fun hc => ?_⟩
          · replace h := h.1 hc
            obtain ⟨ho2, h⟩ := h
            refine ⟨ho2, ?_⟩
            exact h
          · replace h := h.2 hc
            refine N_X11_farOf h (fun r49 h => ?_)
            obtain ⟨ho3, h⟩ := h
            refine ⟨ho3, ?_⟩
            exact h
    · intro h
      exact h
  · replace h := h.2 hc
    exact ⟨h, hf⟩
theorem N_X11_cheapens {x1 : Int} {x2 : Int} {x3 : Int} {v : VT} {q q' : Int → VT → Prop} (h : P_X11_cheapens x1 x2 x3 v q) (hq : ∀ r w, q r w → q' r w) : P_X11_cheapens x1 x2 x3 v q' := by
  unfold P_X11_cheapens at h ⊢
  obtain ⟨ho1, h⟩ := h
  refine ⟨ho1, ?_⟩
  obtain ⟨ho2, h⟩ := h
  refine ⟨ho2, ?_⟩
  obtain ⟨ho3, h⟩ := h
  refine ⟨ho3, ?_⟩
  refine ⟨fun hc => ?_, fun hc => ?_⟩
  · replace h := h.1 hc
    obtain ⟨ho4, h⟩ := h
    refine ⟨ho4, ?_⟩
    obtain ⟨ho5, h⟩ := h
    refine ⟨ho5, ?_⟩
    obtain ⟨ho6, h⟩ := h
    refine ⟨ho6, ?_⟩
    intro v32 ev32
    replace h := h v32 ev32
    exact hq _ _ h
  · replace h := h.2 hc
    exact hq _ _ h
theorem F_X11_cheapens {x1 : Int} {x2 : Int} {x3 : Int} {v : VT} {q : Int → VT → Prop} (h : P_X11_cheapens x1 x2 x3 v q) : P_X11_cheapens x1 x2 x3 v (fun r w => q r w ∧ ∀ a, ¬ (a = 231) → w a = v a) := by
  unfold P_X11_cheapens at h ⊢
  have hf : ∀ a, ¬ (a = 231) → v a = v a := fun a _ => rfl
  obtain ⟨ho1, h⟩ := h
  refine ⟨ho1, ?_⟩
  obtain ⟨ho2, h⟩ := h
  refine ⟨ho2, ?_⟩
  obtain ⟨ho3, h⟩ := h
  refine ⟨ho3, ?_⟩
  refine ⟨fun hc => ?_, fun hc => ?_⟩
  · replace h := h.1 hc
    obtain ⟨ho4, h⟩ := h
    refine ⟨ho4, ?_⟩
    obtain ⟨ho5, h⟩ := h
    refine ⟨ho5, ?_⟩
    obtain ⟨ho6, h⟩ := h
    refine ⟨ho6, ?_⟩
    intro v32 ev32
    replace h := h v32 ev32
    replace hf : ∀ a, ¬ (a = 231) → v32 a = v a := fun a ha => by rw [ev32, upd2_off _ _ _ (by omega), hf a ha]
    exact ⟨h, hf⟩
  · replace h := h.2 hc
    exact ⟨h, hf⟩
theorem N_X11_laysCosts {x1 : Int} {v : VT} {q q' : VT → Prop} (h : P_X11_laysCosts x1 v q) (hq : ∀ w, q w → q' w) : P_X11_laysCosts x1 v q' := by
  unfold P_X11_laysCosts at h ⊢
  intro K36 hKK36
  refine n_cut (h K36) ?_ ?_
  · intro v36 h
    refine hKK36 v36 ?_
    intro X38 hKX38
    refine n_cut (h X38) ?_ ?_
    · intro i2 v38 h
      refine hKX38 i2 v38 ?_
      refine ⟨fun hc => ?_, fun hc => ?_⟩
      · replace h := h.1 hc
        exact hq _ h
      · replace h := h.2 hc
        intro X46 hKX46
        refine n_cut (h X46) ?_ ?_
        · intro i2_1 i3 v46 h
          refine hKX46 i2_1 i3 v46 ?_
          refine ⟨fun hc => ?_, fun hc => ?_⟩
          · replace h := h.1 hc
            exact h
          · replace h := h.2 hc
            refine N_X11_low h (fun r59 h => ?_)
            refine N_X11_high h (fun r64 h => ?_)
            refine N_X11_priceOf h (fun r69 h => ?_)
            refine N_X11_cheapens h (fun r72 v72 h => ?_)
            intro K87 hKK87
            refine n_cut (h K87) ?_ ?_
            · intro s0 h
              refine hKK87 s0 ?_
              refine N_X11_high h (fun r91 h => ?_)
              refine N_X11_low h (fun r96 h => ?_)
              refine N_X11_priceOf h (fun r101 h => ?_)
              refine N_X11_cheapens h (fun r104 v104 h => ?_)
              refine ⟨fun hc => ?_, fun hc => ?_⟩
              · replace h := h.1 hc
                obtain ⟨ho1, h⟩ := h
                refine ⟨ho1, ?_⟩
                exact h
              · replace h := h.2 hc
                refine ⟨fun hc => ?_, fun hc => ?_⟩
                · replace h := h.1 hc
                  obtain ⟨ho2, h⟩ := h
                  refine ⟨ho2, ?_⟩
                  exact h
                · replace h := h.2 hc
                  obtain ⟨ho3, h⟩ := h
                  refine ⟨ho3, ?_⟩
                  exact h
            · intro h
              intro K82 hKK82
              refine n_cut (h K82) ?_ ?_
              · intro h
                refine hKK82  ?_
                exact h
              · intro h
                refine ⟨fun hc => ?_, fun hc => ?_⟩
                · replace h := h.1 hc
                  exact h
                · replace h := h.2 hc
                  refine ⟨fun hc => ?_, fun hc => ?_⟩
                  · replace h := h.1 hc
                    exact h
                  · replace h := h.2 hc
                    exact h
        · intro h
          exact h
    · intro h
      exact h
  · intro h
    intro X2 hKX2
    refine n_cut (h X2) ?_ ?_
    · intro i2_2 v2 h
      refine hKX2 i2_2 v2 ?_
      refine ⟨fun hc => ?_, fun hc => ?_⟩
      · replace h := h.1 hc
        exact h
      · replace h := h.2 hc
        refine ⟨fun hc => ?_, fun hc => ?_⟩
        · replace h := h.1 hc
          obtain ⟨ho4, h⟩ := h
          refine ⟨ho4, ?_⟩
          intro v29 ev29
          replace h := h v29 ev29
          obtain ⟨ho5, h⟩ := h
          refine ⟨ho5, ?_⟩
          exact h
        · replace h := h.2 hc
          obtain ⟨ho6, h⟩ := h
          refine ⟨ho6, ?_⟩
          intro v29_1 ev29_1
          replace h := h v29_1 ev29_1
          obtain ⟨ho7, h⟩ := h
          refine ⟨ho7, ?_⟩
          exact h
    · intro h
      exact h
theorem F_X11_laysCosts {x1 : Int} {v : VT} {q : VT → Prop} (h : P_X11_laysCosts x1 v q) : P_X11_laysCosts x1 v (fun w => q w ∧ ∀ a, ¬ (a = 231) → w a = v a) := by
  unfold P_X11_laysCosts at h ⊢
  have hf : ∀ a, ¬ (a = 231) → v a = v a := fun a _ => rfl
  intro K36 hKK36
  refine n_cut (h (fun (v36 : VT) => (∀ a, ¬ (a = 231) → v36 a = v a) → K36 v36)) ?_ ?_
  · intro v36 h hf
    refine hKK36 v36 ?_
    intro X38 hKX38
    refine n_cut (h (fun (i2 : Int) (v38 : VT) => (∀ a, ¬ (a = 231) → v38 a = v a) → X38 i2 v38)) ?_ ?_
    · intro i2 v38 h hf
      refine hKX38 i2 v38 ?_
      refine ⟨fun hc => ?_, fun hc => ?_⟩
      · replace h := h.1 hc
        exact ⟨h, hf⟩
      · replace h := h.2 hc
        intro X46 hKX46
        refine n_cut (h (fun (i2_1 : Int) (i3 : Int) (v46 : VT) => (∀ a, ¬ (a = 231) → v46 a = v a) → X46 i2_1 i3 v46)) ?_ ?_
        · intro i2_1 i3 v46 h hf
          refine hKX46 i2_1 i3 v46 ?_
          refine ⟨fun hc => ?_, fun hc => ?_⟩
          · replace h := h.1 hc
            exact h hf
          · replace h := h.2 hc
            refine N_X11_low h (fun r59 h => ?_)
            refine N_X11_high h (fun r64 h => ?_)
            refine N_X11_priceOf h (fun r69 h => ?_)
            refine N_X11_cheapens (F_X11_cheapens h) (fun r72 v72 h => ?_)
            obtain ⟨h, hg⟩ := h
            replace hf : ∀ a, ¬ (a = 231) → v72 a = v a := fun a ha => by rw [hg a (by omega), hf a ha]
            clear hg
            intro K87 hKK87
            refine n_cut (h K87) ?_ ?_
            · intro s0 h
              refine hKK87 s0 ?_
              refine N_X11_high h (fun r91 h => ?_)
              refine N_X11_low h (fun r96 h => ?_)
              refine N_X11_priceOf h (fun r101 h => ?_)
              refine N_X11_cheapens (F_X11_cheapens h) (fun r104 v104 h => ?_)
              obtain ⟨h, hg⟩ := h
              replace hf : ∀ a, ¬ (a = 231) → v104 a = v a := fun a ha => by rw [hg a (by omega), hf a ha]
              clear hg
              refine ⟨fun hc => ?_, fun hc => ?_⟩
              · replace h := h.1 hc
                obtain ⟨ho1, h⟩ := h
                refine ⟨ho1, ?_⟩
                exact h hf
              · replace h := h.2 hc
                refine ⟨fun hc => ?_, fun hc => ?_⟩
                · replace h := h.1 hc
                  obtain ⟨ho2, h⟩ := h
                  refine ⟨ho2, ?_⟩
                  exact h hf
                · replace h := h.2 hc
                  obtain ⟨ho3, h⟩ := h
                  refine ⟨ho3, ?_⟩
                  exact h hf
            · intro h
              intro K82 hKK82
              refine n_cut (h K82) ?_ ?_
              · intro h
                refine hKK82  ?_
                exact h
              · intro h
                refine ⟨fun hc => ?_, fun hc => ?_⟩
                · replace h := h.1 hc
                  exact h
                · replace h := h.2 hc
                  refine ⟨fun hc => ?_, fun hc => ?_⟩
                  · replace h := h.1 hc
                    exact h
                  · replace h := h.2 hc
                    exact h
        · intro h
          exact h hf
    · intro h
      exact h hf
  · intro h
    intro X2 hKX2
    refine n_cut (h (fun (i2_2 : Int) (v2 : VT) => (∀ a, ¬ (a = 231) → v2 a = v a) → X2 i2_2 v2)) ?_ ?_
    · intro i2_2 v2 h hf
      refine hKX2 i2_2 v2 ?_
      refine ⟨fun hc => ?_, fun hc => ?_⟩
      · replace h := h.1 hc
        exact h hf
      · replace h := h.2 hc
        refine ⟨fun hc => ?_, fun hc => ?_⟩
        · replace h := h.1 hc
          obtain ⟨ho4, h⟩ := h
          refine ⟨ho4, ?_⟩
          intro v29 ev29
          replace h := h v29 ev29
          replace hf : ∀ a, ¬ (a = 231) → v29 a = v a := fun a ha => by rw [ev29, upd2_off _ _ _ (by omega), hf a ha]
          obtain ⟨ho5, h⟩ := h
          refine ⟨ho5, ?_⟩
          exact h hf
        · replace h := h.2 hc
          obtain ⟨ho6, h⟩ := h
          refine ⟨ho6, ?_⟩
          intro v29_1 ev29_1
          replace h := h v29_1 ev29_1
          replace hf : ∀ a, ¬ (a = 231) → v29_1 a = v a := fun a ha => by rw [ev29_1, upd2_off _ _ _ (by omega), hf a ha]
          obtain ⟨ho7, h⟩ := h
          refine ⟨ho7, ?_⟩
          exact h hf
    · intro h
      exact h hf
theorem N_X11_barOf {x1 : Int} {x2 : Int} {v : VT} {q q' : Int → Prop} (h : P_X11_barOf x1 x2 v q) (hq : ∀ r, q r → q' r) : P_X11_barOf x1 x2 v q' := by
  unfold P_X11_barOf at h ⊢
  intro X7 hKX7
  refine n_cut (h X7) ?_ ?_
  · intro i3 i4 h
    refine hKX7 i3 i4 ?_
    refine N_X11_isOf h (fun r10 h => ?_)
    refine ⟨fun hc => ?_, fun hc => ?_⟩
    · replace h := h.1 hc
      exact hq _ h
    · replace h := h.2 hc
      obtain ⟨ho1, h⟩ := h
      refine ⟨ho1, ?_⟩
      intro X22 hKX22
      refine n_cut (h X22) ?_ ?_
      · intro i4_1 i5 h
        refine hKX22 i4_1 i5 ?_
        refine ⟨fun hc => ?_, fun hc => ?_⟩
        · replace h := h.1 hc
          exact h
        · replace h := h.2 hc
          intro X36 hKX36
          refine n_cut (h X36) ?_ ?_
          · intro i4_2 i6 h
            refine hKX36 i4_2 i6 ?_
            refine ⟨fun hc => ?_, fun hc => ?_⟩
            · replace h := h.1 hc
              exact h
            · replace h := h.2 hc
              refine N_X11_priceOf h (fun r50 h => ?_)
              refine ⟨fun hc => ?_, fun hc => ?_⟩
              · replace h := h.1 hc
                obtain ⟨ho2, h⟩ := h
                refine ⟨ho2, ?_⟩
                exact h
              · replace h := h.2 hc
                refine N_X11_low h (fun r62 h => ?_)
                refine N_X11_isOf h (fun r65 h => ?_)
                intro K85 hKK85
                refine n_cut (h K85) ?_ ?_
                · intro h
                  refine hKK85  ?_
                  refine N_X11_low h (fun r91 h => ?_)
                  refine N_X11_high h (fun r99 h => ?_)
                  intro l4 el4
                  replace h := h l4 el4
                  obtain ⟨ho3, h⟩ := h
                  refine ⟨ho3, ?_⟩
                  exact h
                · intro h
                  refine ⟨fun hc => ?_, fun hc => ?_⟩
                  · replace h := h.1 hc
                    exact h
                  · replace h := h.2 hc
                    refine N_X11_high h (fun r76 h => ?_)
                    refine N_X11_isOf h (fun r79 h => ?_)
                    refine ⟨fun hc => ?_, fun hc => ?_⟩
                    · replace h := h.1 hc
                      obtain ⟨ho4, h⟩ := h
                      refine ⟨ho4, ?_⟩
                      exact h
                    · replace h := h.2 hc
                      exact h
          · intro h
            exact h
      · intro h
        exact h
  · intro h
    exact h
theorem N_X11_areJoined {x1 : Int} {x2 : Int} {v : VT} {q q' : Int → VT → Prop} (h : P_X11_areJoined x1 x2 v q) (hq : ∀ r w, q r w → q' r w) : P_X11_areJoined x1 x2 v q' := by
  unfold P_X11_areJoined at h ⊢
  refine N_X11_areNodes h (fun r3 v3 h => ?_)
  refine ⟨fun hc => ?_, fun hc => ?_⟩
  · replace h := h.1 hc
    exact hq _ _ h
  · replace h := h.2 hc
    refine N_X11_farOf h (fun r12 h => ?_)
    refine ⟨fun hc => ?_, fun hc => ?_⟩
    · replace h := h.1 hc
      exact hq _ _ h
    · replace h := h.2 hc
      exact hq _ _ h
theorem F_X11_areJoined {x1 : Int} {x2 : Int} {v : VT} {q : Int → VT → Prop} (h : P_X11_areJoined x1 x2 v q) : P_X11_areJoined x1 x2 v (fun r w => q r w ∧ ∀ a, ¬ (a = 218 ∨ (224 ≤ a ∧ a ≤ 229)) → w a = v a) := by
  unfold P_X11_areJoined at h ⊢
  have hf : ∀ a, ¬ (a = 218 ∨ (224 ≤ a ∧ a ≤ 229)) → v a = v a := fun a _ => rfl
  refine N_X11_areNodes (F_X11_areNodes h) (fun r3 v3 h => ?_)
  obtain ⟨h, hg⟩ := h
  replace hf : ∀ a, ¬ (a = 218 ∨ (224 ≤ a ∧ a ≤ 229)) → v3 a = v a := fun a ha => by rw [hg a (by omega), hf a ha]
  clear hg
  refine ⟨fun hc => ?_, fun hc => ?_⟩
  · replace h := h.1 hc
    exact ⟨h, hf⟩
  · replace h := h.2 hc
    refine N_X11_farOf h (fun r12 h => ?_)
    refine ⟨fun hc => ?_, fun hc => ?_⟩
    · replace h := h.1 hc
      exact ⟨h, hf⟩
    · replace h := h.2 hc
      exact ⟨h, hf⟩
theorem N_X11_price {x1 : Int} {x2 : Int} {x3 : Int} {v : VT} {q q' : Int → VT → Prop} (h : P_X11_price x1 x2 x3 v q) (hq : ∀ r w, q r w → q' r w) : P_X11_price x1 x2 x3 v q' := by
  unfold P_X11_price at h ⊢
  refine N_X11_areJoined h (fun r3 v3 h => ?_)
  refine ⟨fun hc => ?_, fun hc => ?_⟩
  · replace h := h.1 hc
    exact hq _ _ h
  · replace h := h.2 hc
    refine N_X11_isIn h (fun r13 h => ?_)
    refine ⟨fun hc => ?_, fun hc => ?_⟩
    · replace h := h.1 hc
      refine ⟨fun hc => ?_, fun hc => ?_⟩
      · replace h := h.1 hc
        refine N_X11_laysCosts h (fun v35 h => ?_)
        obtain ⟨ho1, h⟩ := h
        refine ⟨ho1, ?_⟩
        exact hq _ _ h
      · replace h := h.2 hc
        refine N_X11_barOf h (fun r29 h => ?_)
        exact hq _ _ h
    · replace h := h.2 hc
      exact hq _ _ h
theorem F_X11_price {x1 : Int} {x2 : Int} {x3 : Int} {v : VT} {q : Int → VT → Prop} (h : P_X11_price x1 x2 x3 v q) : P_X11_price x1 x2 x3 v (fun r w => q r w ∧ ∀ a, ¬ (a = 218 ∨ (224 ≤ a ∧ a ≤ 229) ∨ a = 231) → w a = v a) := by
  unfold P_X11_price at h ⊢
  have hf : ∀ a, ¬ (a = 218 ∨ (224 ≤ a ∧ a ≤ 229) ∨ a = 231) → v a = v a := fun a _ => rfl
  refine N_X11_areJoined (F_X11_areJoined h) (fun r3 v3 h => ?_)
  obtain ⟨h, hg⟩ := h
  replace hf : ∀ a, ¬ (a = 218 ∨ (224 ≤ a ∧ a ≤ 229) ∨ a = 231) → v3 a = v a := fun a ha => by rw [hg a (by omega), hf a ha]
  clear hg
  refine ⟨fun hc => ?_, fun hc => ?_⟩
  · replace h := h.1 hc
    exact ⟨h, hf⟩
  · replace h := h.2 hc
    refine N_X11_isIn h (fun r13 h => ?_)
    refine ⟨fun hc => ?_, fun hc => ?_⟩
    · replace h := h.1 hc
      refine ⟨fun hc => ?_, fun hc => ?_⟩
      · replace h := h.1 hc
        refine N_X11_laysCosts (F_X11_laysCosts h) (fun v35 h => ?_)
        obtain ⟨h, hg⟩ := h
        replace hf : ∀ a, ¬ (a = 218 ∨ (224 ≤ a ∧ a ≤ 229) ∨ a = 231) → v35 a = v a := fun a ha => by rw [hg a (by omega), hf a ha]
        clear hg
        obtain ⟨ho1, h⟩ := h
        refine ⟨ho1, ?_⟩
        exact ⟨h, hf⟩
      · replace h := h.2 hc
        refine N_X11_barOf h (fun r29 h => ?_)
        exact ⟨h, hf⟩
    · replace h := h.2 hc
      exact ⟨h, hf⟩
theorem N_X11_nextOf {x1 : Int} {v : VT} {q q' : Int → Prop} (h : P_X11_nextOf x1 v q) (hq : ∀ r, q r → q' r) : P_X11_nextOf x1 v q' := by
  unfold P_X11_nextOf at h ⊢
  intro X2 hKX2
  refine n_cut (h X2) ?_ ?_
  · intro i2 h
    refine hKX2 i2 ?_
    refine ⟨fun hc => ?_, fun hc => ?_⟩
    · replace h := h.1 hc
      exact hq _ h
    · replace h := h.2 hc
      refine N_X11_lineOf h (fun r18 h => ?_)
      refine ⟨fun hc => ?_, fun hc => ?_⟩
      · replace h := h.1 hc
        obtain ⟨ho1, h⟩ := h
        refine ⟨ho1, ?_⟩
        exact h
      · replace h := h.2 hc
        refine ⟨fun hc => ?_, fun hc => ?_⟩
        · replace h := h.1 hc
          obtain ⟨ho2, h⟩ := h
          refine ⟨ho2, ?_⟩
          exact h
        · replace h := h.2 hc
          obtain ⟨ho3, h⟩ := h
          refine ⟨ho3, ?_⟩
          refine N_X11_priceOf h (fun r40 h => ?_)
          obtain ⟨ho4, h⟩ := h
          refine ⟨ho4, ?_⟩
          obtain ⟨ho5, h⟩ := h
          refine ⟨ho5, ?_⟩
          refine ⟨fun hc => ?_, fun hc => ?_⟩
          · replace h := h.1 hc
            obtain ⟨ho6, h⟩ := h
            refine ⟨ho6, ?_⟩
            exact h
          · replace h := h.2 hc
            exact hq _ h
  · intro h
    exact h
theorem N_X11_road {x1 : Int} {x2 : Int} {x3 : Int} {v : VT} {q q' : Int → VT → Prop} (h : P_X11_road x1 x2 x3 v q) (hq : ∀ r w, q r w → q' r w) : P_X11_road x1 x2 x3 v q' := by
  unfold P_X11_road at h ⊢
  refine N_X11_areJoined h (fun r3 v3 h => ?_)
  refine ⟨fun hc => ?_, fun hc => ?_⟩
  · replace h := h.1 hc
    exact hq _ _ h
  · replace h := h.2 hc
    refine ⟨fun hc => ?_, fun hc => ?_⟩
    · replace h := h.1 hc
      refine N_X11_laysCosts h (fun v18 h => ?_)
      intro K53 hKK53
      refine n_cut (h K53) ?_ ?_
      · intro i4 i5 h
        refine hKK53 i4 i5 ?_
        refine ⟨fun hc => ?_, fun hc => ?_⟩
        · replace h := h.1 hc
          refine ⟨fun hc => ?_, fun hc => ?_⟩
          · replace h := h.1 hc
            exact hq _ _ h
          · replace h := h.2 hc
            exact hq _ _ h
        · replace h := h.2 hc
          obtain ⟨ho1, h⟩ := h
          refine ⟨ho1, ?_⟩
          exact hq _ _ h
      · intro h
        intro X27 hKX27
        refine n_cut (h X27) ?_ ?_
        · intro i4_1 i5_1 h
          refine hKX27 i4_1 i5_1 ?_
          refine ⟨fun hc => ?_, fun hc => ?_⟩
          · replace h := h.1 hc
            exact h
          · replace h := h.2 hc
            refine ⟨fun hc => ?_, fun hc => ?_⟩
            · replace h := h.1 hc
              exact h
            · replace h := h.2 hc
              refine N_X11_nextOf h (fun r42 h => ?_)
              obtain ⟨ho2, h⟩ := h
              refine ⟨ho2, ?_⟩
              exact h
        · intro h
          exact h
    · replace h := h.2 hc
      exact hq _ _ h
theorem F_X11_road {x1 : Int} {x2 : Int} {x3 : Int} {v : VT} {q : Int → VT → Prop} (h : P_X11_road x1 x2 x3 v q) : P_X11_road x1 x2 x3 v (fun r w => q r w ∧ ∀ a, ¬ (a = 218 ∨ (224 ≤ a ∧ a ≤ 229) ∨ a = 231) → w a = v a) := by
  unfold P_X11_road at h ⊢
  have hf : ∀ a, ¬ (a = 218 ∨ (224 ≤ a ∧ a ≤ 229) ∨ a = 231) → v a = v a := fun a _ => rfl
  refine N_X11_areJoined (F_X11_areJoined h) (fun r3 v3 h => ?_)
  obtain ⟨h, hg⟩ := h
  replace hf : ∀ a, ¬ (a = 218 ∨ (224 ≤ a ∧ a ≤ 229) ∨ a = 231) → v3 a = v a := fun a ha => by rw [hg a (by omega), hf a ha]
  clear hg
  refine ⟨fun hc => ?_, fun hc => ?_⟩
  · replace h := h.1 hc
    exact ⟨h, hf⟩
  · replace h := h.2 hc
    refine ⟨fun hc => ?_, fun hc => ?_⟩
    · replace h := h.1 hc
      refine N_X11_laysCosts (F_X11_laysCosts h) (fun v18 h => ?_)
      obtain ⟨h, hg⟩ := h
      replace hf : ∀ a, ¬ (a = 218 ∨ (224 ≤ a ∧ a ≤ 229) ∨ a = 231) → v18 a = v a := fun a ha => by rw [hg a (by omega), hf a ha]
      clear hg
      intro K53 hKK53
      refine n_cut (h K53) ?_ ?_
      · intro i4 i5 h
        refine hKK53 i4 i5 ?_
        refine ⟨fun hc => ?_, fun hc => ?_⟩
        · replace h := h.1 hc
          refine ⟨fun hc => ?_, fun hc => ?_⟩
          · replace h := h.1 hc
            exact ⟨h, hf⟩
          · replace h := h.2 hc
            exact ⟨h, hf⟩
        · replace h := h.2 hc
          obtain ⟨ho1, h⟩ := h
          refine ⟨ho1, ?_⟩
          exact ⟨h, hf⟩
      · intro h
        intro X27 hKX27
        refine n_cut (h X27) ?_ ?_
        · intro i4_1 i5_1 h
          refine hKX27 i4_1 i5_1 ?_
          refine ⟨fun hc => ?_, fun hc => ?_⟩
          · replace h := h.1 hc
            exact h
          · replace h := h.2 hc
            refine ⟨fun hc => ?_, fun hc => ?_⟩
            · replace h := h.1 hc
              exact h
            · replace h := h.2 hc
              refine N_X11_nextOf h (fun r42 h => ?_)
              obtain ⟨ho2, h⟩ := h
              refine ⟨ho2, ?_⟩
              exact h
        · intro h
          exact h
    · replace h := h.2 hc
      exact ⟨h, hf⟩
theorem N_X11_spread  {v : VT} {q q' : Int → VT → Prop} (h : P_X11_spread  v q) (hq : ∀ r w, q r w → q' r w) : P_X11_spread  v q' := by
  unfold P_X11_spread at h ⊢
  refine N_X11_lays h (fun v1 h => ?_)
  intro X8 hKX8
  refine n_cut (h X8) ?_ ?_
  · intro i1 i2 h
    refine hKX8 i1 i2 ?_
    refine ⟨fun hc => ?_, fun hc => ?_⟩
    · replace h := h.1 hc
      exact hq _ _ h
    · replace h := h.2 hc
      obtain ⟨ho1, h⟩ := h
      refine ⟨ho1, ?_⟩
      intro X22 hKX22
      refine n_cut (h X22) ?_ ?_
      · intro i1_1 i3 h
        refine hKX22 i1_1 i3 ?_
        refine ⟨fun hc => ?_, fun hc => ?_⟩
        · replace h := h.1 hc
          obtain ⟨ho2, h⟩ := h
          refine ⟨ho2, ?_⟩
          exact h
        · replace h := h.2 hc
          refine N_X11_farOf h (fun r35 h => ?_)
          refine ⟨fun hc => ?_, fun hc => ?_⟩
          · replace h := h.1 hc
            obtain ⟨ho3, h⟩ := h
            refine ⟨ho3, ?_⟩
            exact h
          · replace h := h.2 hc
            refine N_X11_farOf h (fun r47 h => ?_)
            obtain ⟨ho4, h⟩ := h
            refine ⟨ho4, ?_⟩
            obtain ⟨ho5, h⟩ := h
            refine ⟨ho5, ?_⟩
            exact h
      · intro h
        exact h
  · intro h
    exact h
theorem F_X11_spread  {v : VT} {q : Int → VT → Prop} (h : P_X11_spread  v q) : P_X11_spread  v (fun r w => q r w ∧ ∀ a, ¬ (a = 218 ∨ (224 ≤ a ∧ a ≤ 229)) → w a = v a) := by
  unfold P_X11_spread at h ⊢
  have hf : ∀ a, ¬ (a = 218 ∨ (224 ≤ a ∧ a ≤ 229)) → v a = v a := fun a _ => rfl
  refine N_X11_lays (F_X11_lays h) (fun v1 h => ?_)
  obtain ⟨h, hg⟩ := h
  replace hf : ∀ a, ¬ (a = 218 ∨ (224 ≤ a ∧ a ≤ 229)) → v1 a = v a := fun a ha => by rw [hg a (by omega), hf a ha]
  clear hg
  intro X8 hKX8
  refine n_cut (h X8) ?_ ?_
  · intro i1 i2 h
    refine hKX8 i1 i2 ?_
    refine ⟨fun hc => ?_, fun hc => ?_⟩
    · replace h := h.1 hc
      exact ⟨h, hf⟩
    · replace h := h.2 hc
      obtain ⟨ho1, h⟩ := h
      refine ⟨ho1, ?_⟩
      intro X22 hKX22
      refine n_cut (h X22) ?_ ?_
      · intro i1_1 i3 h
        refine hKX22 i1_1 i3 ?_
        refine ⟨fun hc => ?_, fun hc => ?_⟩
        · replace h := h.1 hc
          obtain ⟨ho2, h⟩ := h
          refine ⟨ho2, ?_⟩
          exact h
        · replace h := h.2 hc
          refine N_X11_farOf h (fun r35 h => ?_)
          refine ⟨fun hc => ?_, fun hc => ?_⟩
          · replace h := h.1 hc
            obtain ⟨ho3, h⟩ := h
            refine ⟨ho3, ?_⟩
            exact h
          · replace h := h.2 hc
            refine N_X11_farOf h (fun r47 h => ?_)
            obtain ⟨ho4, h⟩ := h
            refine ⟨ho4, ?_⟩
            obtain ⟨ho5, h⟩ := h
            refine ⟨ho5, ?_⟩
            exact h
      · intro h
        exact h
  · intro h
    exact h
theorem N_X11_alike {x1 : Int} {x2 : Int} {v : VT} {q q' : Int → VT → Prop} (h : P_X11_alike x1 x2 v q) (hq : ∀ r w, q r w → q' r w) : P_X11_alike x1 x2 v q' := by
  unfold P_X11_alike at h ⊢
  refine N_X11_isLine h (fun r2 h => ?_)
  refine ⟨fun hc => ?_, fun hc => ?_⟩
  · replace h := h.1 hc
    exact hq _ _ h
  · replace h := h.2 hc
    refine N_X11_isLine h (fun r10 h => ?_)
    refine ⟨fun hc => ?_, fun hc => ?_⟩
    · replace h := h.1 hc
      refine N_X11_lays h (fun v19 h => ?_)
      refine N_X11_areAlike h (fun r25 h => ?_)
      refine N_X11_flag h (fun r28 h => ?_)
      exact hq _ _ h
    · replace h := h.2 hc
      exact hq _ _ h
theorem F_X11_alike {x1 : Int} {x2 : Int} {v : VT} {q : Int → VT → Prop} (h : P_X11_alike x1 x2 v q) : P_X11_alike x1 x2 v (fun r w => q r w ∧ ∀ a, ¬ (a = 218 ∨ (224 ≤ a ∧ a ≤ 229)) → w a = v a) := by
  unfold P_X11_alike at h ⊢
  have hf : ∀ a, ¬ (a = 218 ∨ (224 ≤ a ∧ a ≤ 229)) → v a = v a := fun a _ => rfl
  refine N_X11_isLine h (fun r2 h => ?_)
  refine ⟨fun hc => ?_, fun hc => ?_⟩
  · replace h := h.1 hc
    exact ⟨h, hf⟩
  · replace h := h.2 hc
    refine N_X11_isLine h (fun r10 h => ?_)
    refine ⟨fun hc => ?_, fun hc => ?_⟩
    · replace h := h.1 hc
      refine N_X11_lays (F_X11_lays h) (fun v19 h => ?_)
      obtain ⟨h, hg⟩ := h
      replace hf : ∀ a, ¬ (a = 218 ∨ (224 ≤ a ∧ a ≤ 229)) → v19 a = v a := fun a ha => by rw [hg a (by omega), hf a ha]
      clear hg
      refine N_X11_areAlike h (fun r25 h => ?_)
      refine N_X11_flag h (fun r28 h => ?_)
      exact ⟨h, hf⟩
    · replace h := h.2 hc
      exact ⟨h, hf⟩
theorem N_X11_sideOne {x1 : Int} {v : VT} {q q' : Int → Prop} (h : P_X11_sideOne x1 v q) (hq : ∀ r, q r → q' r) : P_X11_sideOne x1 v q' := by
  unfold P_X11_sideOne at h ⊢
  intro X4 hKX4
  refine n_cut (h X4) ?_ ?_
  · intro i2 i3 h
    refine hKX4 i2 i3 ?_
    refine ⟨fun hc => ?_, fun hc => ?_⟩
    · replace h := h.1 hc
      exact hq _ h
    · replace h := h.2 hc
      obtain ⟨ho1, h⟩ := h
      refine ⟨ho1, ?_⟩
      refine N_X11_isOf h (fun r21 h => ?_)
      refine ⟨fun hc => ?_, fun hc => ?_⟩
      · replace h := h.1 hc
        obtain ⟨ho2, h⟩ := h
        refine ⟨ho2, ?_⟩
        exact h
      · replace h := h.2 hc
        intro l2 el2
        replace h := h l2 el2
        obtain ⟨ho3, h⟩ := h
        refine ⟨ho3, ?_⟩
        exact h
  · intro h
    exact h
theorem N_X11_costOf {x1 : Int} {v : VT} {q q' : Int → Prop} (h : P_X11_costOf x1 v q) (hq : ∀ r, q r → q' r) : P_X11_costOf x1 v q' := by
  unfold P_X11_costOf at h ⊢
  refine N_X11_sideOne h (fun r2 h => ?_)
  refine N_X11_count h (fun r5 h => ?_)
  obtain ⟨ho1, h⟩ := h
  refine ⟨ho1, ?_⟩
  obtain ⟨ho2, h⟩ := h
  refine ⟨ho2, ?_⟩
  exact hq _ h
theorem N_X11_sort {x1 : Int} {x2 : Int} {v : VT} {q q' : Int → VT → Prop} (h : P_X11_sort x1 x2 v q) (hq : ∀ r w, q r w → q' r w) : P_X11_sort x1 x2 v q' := by
  unfold P_X11_sort at h ⊢
  refine N_X11_lays h (fun v1 h => ?_)
  obtain ⟨ho1, h⟩ := h
  refine ⟨ho1, ?_⟩
  refine N_X11_isIn h (fun r14 h => ?_)
  refine ⟨fun hc => ?_, fun hc => ?_⟩
  · replace h := h.1 hc
    intro K66 hKK66
    refine n_cut (h K66) ?_ ?_
    · intro i3 h
      refine hKK66 i3 ?_
      refine ⟨fun hc => ?_, fun hc => ?_, fun hc => ?_, fun hc => ?_, fun hc => ?_⟩
      · replace h := h.1 hc
        exact hq _ _ h
      · replace h := h.2.1 hc
        obtain ⟨ho2, h⟩ := h
        refine ⟨ho2, ?_⟩
        exact hq _ _ h
      · replace h := h.2.2.1 hc
        refine ⟨fun hc => ?_, fun hc => ?_⟩
        · replace h := h.1 hc
          exact hq _ _ h
        · replace h := h.2 hc
          refine N_X11_costOf h (fun r114 h => ?_)
          exact hq _ _ h
      · replace h := h.2.2.2.1 hc
        refine ⟨fun hc => ?_, fun hc => ?_⟩
        · replace h := h.1 hc
          exact hq _ _ h
        · replace h := h.2 hc
          refine N_X11_sideOne h (fun r131 h => ?_)
          exact hq _ _ h
      · replace h := h.2.2.2.2 hc
        exact hq _ _ h
    · intro h
      intro X27 hKX27
      refine n_cut (h X27) ?_ ?_
      · intro i3_1 i4 h
        refine hKX27 i3_1 i4 ?_
        refine ⟨fun hc => ?_, fun hc => ?_⟩
        · replace h := h.1 hc
          exact h
        · replace h := h.2 hc
          obtain ⟨ho3, h⟩ := h
          refine ⟨ho3, ?_⟩
          refine ⟨fun hc => ?_, fun hc => ?_⟩
          · replace h := h.1 hc
            refine N_X11_flag h (fun r55 h => ?_)
            obtain ⟨ho4, h⟩ := h
            refine ⟨ho4, ?_⟩
            obtain ⟨ho5, h⟩ := h
            refine ⟨ho5, ?_⟩
            exact h
          · replace h := h.2 hc
            refine N_X11_flag h (fun r55_1 h => ?_)
            obtain ⟨ho6, h⟩ := h
            refine ⟨ho6, ?_⟩
            obtain ⟨ho7, h⟩ := h
            refine ⟨ho7, ?_⟩
            exact h
      · intro h
        exact h
  · replace h := h.2 hc
    exact hq _ _ h
theorem F_X11_sort {x1 : Int} {x2 : Int} {v : VT} {q : Int → VT → Prop} (h : P_X11_sort x1 x2 v q) : P_X11_sort x1 x2 v (fun r w => q r w ∧ ∀ a, ¬ (a = 218 ∨ (224 ≤ a ∧ a ≤ 229)) → w a = v a) := by
  unfold P_X11_sort at h ⊢
  have hf : ∀ a, ¬ (a = 218 ∨ (224 ≤ a ∧ a ≤ 229)) → v a = v a := fun a _ => rfl
  refine N_X11_lays (F_X11_lays h) (fun v1 h => ?_)
  obtain ⟨h, hg⟩ := h
  replace hf : ∀ a, ¬ (a = 218 ∨ (224 ≤ a ∧ a ≤ 229)) → v1 a = v a := fun a ha => by rw [hg a (by omega), hf a ha]
  clear hg
  obtain ⟨ho1, h⟩ := h
  refine ⟨ho1, ?_⟩
  refine N_X11_isIn h (fun r14 h => ?_)
  refine ⟨fun hc => ?_, fun hc => ?_⟩
  · replace h := h.1 hc
    intro K66 hKK66
    refine n_cut (h K66) ?_ ?_
    · intro i3 h
      refine hKK66 i3 ?_
      refine ⟨fun hc => ?_, fun hc => ?_, fun hc => ?_, fun hc => ?_, fun hc => ?_⟩
      · replace h := h.1 hc
        exact ⟨h, hf⟩
      · replace h := h.2.1 hc
        obtain ⟨ho2, h⟩ := h
        refine ⟨ho2, ?_⟩
        exact ⟨h, hf⟩
      · replace h := h.2.2.1 hc
        refine ⟨fun hc => ?_, fun hc => ?_⟩
        · replace h := h.1 hc
          exact ⟨h, hf⟩
        · replace h := h.2 hc
          refine N_X11_costOf h (fun r114 h => ?_)
          exact ⟨h, hf⟩
      · replace h := h.2.2.2.1 hc
        refine ⟨fun hc => ?_, fun hc => ?_⟩
        · replace h := h.1 hc
          exact ⟨h, hf⟩
        · replace h := h.2 hc
          refine N_X11_sideOne h (fun r131 h => ?_)
          exact ⟨h, hf⟩
      · replace h := h.2.2.2.2 hc
        exact ⟨h, hf⟩
    · intro h
      intro X27 hKX27
      refine n_cut (h X27) ?_ ?_
      · intro i3_1 i4 h
        refine hKX27 i3_1 i4 ?_
        refine ⟨fun hc => ?_, fun hc => ?_⟩
        · replace h := h.1 hc
          exact h
        · replace h := h.2 hc
          obtain ⟨ho3, h⟩ := h
          refine ⟨ho3, ?_⟩
          refine ⟨fun hc => ?_, fun hc => ?_⟩
          · replace h := h.1 hc
            refine N_X11_flag h (fun r55 h => ?_)
            obtain ⟨ho4, h⟩ := h
            refine ⟨ho4, ?_⟩
            obtain ⟨ho5, h⟩ := h
            refine ⟨ho5, ?_⟩
            exact h
          · replace h := h.2 hc
            refine N_X11_flag h (fun r55_1 h => ?_)
            obtain ⟨ho6, h⟩ := h
            refine ⟨ho6, ?_⟩
            obtain ⟨ho7, h⟩ := h
            refine ⟨ho7, ?_⟩
            exact h
      · intro h
        exact h
  · replace h := h.2 hc
    exact ⟨h, hf⟩
theorem N_X11_shows {x1 : Int} {v : VT} {q q' : Int → VT → Prop} (h : P_X11_shows x1 v q) (hq : ∀ r w, q r w → q' r w) : P_X11_shows x1 v q' := by
  unfold P_X11_shows at h ⊢
  refine N_X11_lays h (fun v1 h => ?_)
  refine ⟨fun hc => ?_, fun hc => ?_⟩
  · replace h := h.1 hc
    exact hq _ _ h
  · replace h := h.2 hc
    refine N_X11_isIn h (fun r15 h => ?_)
    refine ⟨fun hc => ?_, fun hc => ?_⟩
    · replace h := h.1 hc
      exact hq _ _ h
    · replace h := h.2 hc
      obtain ⟨ho1, h⟩ := h
      refine ⟨ho1, ?_⟩
      exact hq _ _ h
theorem F_X11_shows {x1 : Int} {v : VT} {q : Int → VT → Prop} (h : P_X11_shows x1 v q) : P_X11_shows x1 v (fun r w => q r w ∧ ∀ a, ¬ (a = 218 ∨ (224 ≤ a ∧ a ≤ 229)) → w a = v a) := by
  unfold P_X11_shows at h ⊢
  have hf : ∀ a, ¬ (a = 218 ∨ (224 ≤ a ∧ a ≤ 229)) → v a = v a := fun a _ => rfl
  refine N_X11_lays (F_X11_lays h) (fun v1 h => ?_)
  obtain ⟨h, hg⟩ := h
  replace hf : ∀ a, ¬ (a = 218 ∨ (224 ≤ a ∧ a ≤ 229)) → v1 a = v a := fun a ha => by rw [hg a (by omega), hf a ha]
  clear hg
  refine ⟨fun hc => ?_, fun hc => ?_⟩
  · replace h := h.1 hc
    exact ⟨h, hf⟩
  · replace h := h.2 hc
    refine N_X11_isIn h (fun r15 h => ?_)
    refine ⟨fun hc => ?_, fun hc => ?_⟩
    · replace h := h.1 hc
      exact ⟨h, hf⟩
    · replace h := h.2 hc
      obtain ⟨ho1, h⟩ := h
      refine ⟨ho1, ?_⟩
      exact ⟨h, hf⟩
theorem N_X11_sides {x1 : Int} {v : VT} {q q' : Int → VT → Prop} (h : P_X11_sides x1 v q) (hq : ∀ r w, q r w → q' r w) : P_X11_sides x1 v q' := by
  unfold P_X11_sides at h ⊢
  refine N_X11_sits h (fun r1 v1 h => ?_)
  refine ⟨fun hc => ?_, fun hc => ?_⟩
  · replace h := h.1 hc
    exact hq _ _ h
  · replace h := h.2 hc
    refine N_X11_isNode h (fun r9 h => ?_)
    refine ⟨fun hc => ?_, fun hc => ?_⟩
    · replace h := h.1 hc
      exact hq _ _ h
    · replace h := h.2 hc
      obtain ⟨ho1, h⟩ := h
      refine ⟨ho1, ?_⟩
      exact hq _ _ h
theorem F_X11_sides {x1 : Int} {v : VT} {q : Int → VT → Prop} (h : P_X11_sides x1 v q) : P_X11_sides x1 v (fun r w => q r w ∧ ∀ a, ¬ (a = 218 ∨ (224 ≤ a ∧ a ≤ 229)) → w a = v a) := by
  unfold P_X11_sides at h ⊢
  have hf : ∀ a, ¬ (a = 218 ∨ (224 ≤ a ∧ a ≤ 229)) → v a = v a := fun a _ => rfl
  refine N_X11_sits (F_X11_sits h) (fun r1 v1 h => ?_)
  obtain ⟨h, hg⟩ := h
  replace hf : ∀ a, ¬ (a = 218 ∨ (224 ≤ a ∧ a ≤ 229)) → v1 a = v a := fun a ha => by rw [hg a (by omega), hf a ha]
  clear hg
  refine ⟨fun hc => ?_, fun hc => ?_⟩
  · replace h := h.1 hc
    exact ⟨h, hf⟩
  · replace h := h.2 hc
    refine N_X11_isNode h (fun r9 h => ?_)
    refine ⟨fun hc => ?_, fun hc => ?_⟩
    · replace h := h.1 hc
      exact ⟨h, hf⟩
    · replace h := h.2 hc
      obtain ⟨ho1, h⟩ := h
      refine ⟨ho1, ?_⟩
      exact ⟨h, hf⟩
theorem N_X11_nodeAt {x1 : Int} {v : VT} {q q' : Int → Prop} (h : P_X11_nodeAt x1 v q) (hq : ∀ r, q r → q' r) : P_X11_nodeAt x1 v q' := by
  unfold P_X11_nodeAt at h ⊢
  intro X2 hKX2
  refine n_cut (h X2) ?_ ?_
  · intro i2 h
    refine hKX2 i2 ?_
    refine ⟨fun hc => ?_, fun hc => ?_⟩
    · replace h := h.1 hc
      exact hq _ h
    · replace h := h.2 hc
      obtain ⟨ho1, h⟩ := h
      refine ⟨ho1, ?_⟩
      refine ⟨fun hc => ?_, fun hc => ?_⟩
      · replace h := h.1 hc
        obtain ⟨ho2, h⟩ := h
        refine ⟨ho2, ?_⟩
        exact h
      · replace h := h.2 hc
        exact hq _ h
  · intro h
    exact h
theorem N_X11_at {x1 : Int} {v : VT} {q q' : Int → VT → Prop} (h : P_X11_at x1 v q) (hq : ∀ r w, q r w → q' r w) : P_X11_at x1 v q' := by
  unfold P_X11_at at h ⊢
  refine N_X11_sits h (fun r1 v1 h => ?_)
  refine ⟨fun hc => ?_, fun hc => ?_⟩
  · replace h := h.1 hc
    exact hq _ _ h
  · replace h := h.2 hc
    refine N_X11_nodeAt h (fun r9 h => ?_)
    exact hq _ _ h
theorem F_X11_at {x1 : Int} {v : VT} {q : Int → VT → Prop} (h : P_X11_at x1 v q) : P_X11_at x1 v (fun r w => q r w ∧ ∀ a, ¬ (a = 218 ∨ (224 ≤ a ∧ a ≤ 229)) → w a = v a) := by
  unfold P_X11_at at h ⊢
  have hf : ∀ a, ¬ (a = 218 ∨ (224 ≤ a ∧ a ≤ 229)) → v a = v a := fun a _ => rfl
  refine N_X11_sits (F_X11_sits h) (fun r1 v1 h => ?_)
  obtain ⟨h, hg⟩ := h
  replace hf : ∀ a, ¬ (a = 218 ∨ (224 ≤ a ∧ a ≤ 229)) → v1 a = v a := fun a ha => by rw [hg a (by omega), hf a ha]
  clear hg
  refine ⟨fun hc => ?_, fun hc => ?_⟩
  · replace h := h.1 hc
    exact ⟨h, hf⟩
  · replace h := h.2 hc
    refine N_X11_nodeAt h (fun r9 h => ?_)
    exact ⟨h, hf⟩
theorem N_X11_isDirection {x1 : Int} {v : VT} {q q' : Int → VT → Prop} (h : P_X11_isDirection x1 v q) (hq : ∀ r w, q r w → q' r w) : P_X11_isDirection x1 v q' := by
  unfold P_X11_isDirection at h ⊢
  refine N_X11_sits h (fun r1 v1 h => ?_)
  refine ⟨fun hc => ?_, fun hc => ?_⟩
  · replace h := h.1 hc
    exact hq _ _ h
  · replace h := h.2 hc
    obtain ⟨ho1, h⟩ := h
    refine ⟨ho1, ?_⟩
    refine N_X11_isIn h (fun r17 h => ?_)
    refine ⟨fun hc => ?_, fun hc => ?_⟩
    · replace h := h.1 hc
      exact hq _ _ h
    · replace h := h.2 hc
      exact hq _ _ h
theorem F_X11_isDirection {x1 : Int} {v : VT} {q : Int → VT → Prop} (h : P_X11_isDirection x1 v q) : P_X11_isDirection x1 v (fun r w => q r w ∧ ∀ a, ¬ (a = 218 ∨ (224 ≤ a ∧ a ≤ 229)) → w a = v a) := by
  unfold P_X11_isDirection at h ⊢
  have hf : ∀ a, ¬ (a = 218 ∨ (224 ≤ a ∧ a ≤ 229)) → v a = v a := fun a _ => rfl
  refine N_X11_sits (F_X11_sits h) (fun r1 v1 h => ?_)
  obtain ⟨h, hg⟩ := h
  replace hf : ∀ a, ¬ (a = 218 ∨ (224 ≤ a ∧ a ≤ 229)) → v1 a = v a := fun a ha => by rw [hg a (by omega), hf a ha]
  clear hg
  refine ⟨fun hc => ?_, fun hc => ?_⟩
  · replace h := h.1 hc
    exact ⟨h, hf⟩
  · replace h := h.2 hc
    obtain ⟨ho1, h⟩ := h
    refine ⟨ho1, ?_⟩
    refine N_X11_isIn h (fun r17 h => ?_)
    refine ⟨fun hc => ?_, fun hc => ?_⟩
    · replace h := h.1 hc
      exact ⟨h, hf⟩
    · replace h := h.2 hc
      exact ⟨h, hf⟩
theorem N_X11_pairsOf {x1 : Int} {x2 : Int} {v : VT} {q q' : Int → Prop} (h : P_X11_pairsOf x1 x2 v q) (hq : ∀ r, q r → q' r) : P_X11_pairsOf x1 x2 v q' := by
  unfold P_X11_pairsOf at h ⊢
  intro X5 hKX5
  refine n_cut (h X5) ?_ ?_
  · intro i3 i4 h
    refine hKX5 i3 i4 ?_
    refine ⟨fun hc => ?_, fun hc => ?_⟩
    · replace h := h.1 hc
      refine N_X11_count h (fun r53 h => ?_)
      exact hq _ h
    · replace h := h.2 hc
      obtain ⟨ho1, h⟩ := h
      refine ⟨ho1, ?_⟩
      obtain ⟨ho2, h⟩ := h
      refine ⟨ho2, ?_⟩
      obtain ⟨ho3, h⟩ := h
      refine ⟨ho3, ?_⟩
      obtain ⟨ho4, h⟩ := h
      refine ⟨ho4, ?_⟩
      intro l3 el3
      replace h := h l3 el3
      obtain ⟨ho5, h⟩ := h
      refine ⟨ho5, ?_⟩
      exact h
  · intro h
    exact h
theorem N_X11_cross {x1 : Int} {x2 : Int} {v : VT} {q q' : Int → VT → Prop} (h : P_X11_cross x1 x2 v q) (hq : ∀ r w, q r w → q' r w) : P_X11_cross x1 x2 v q' := by
  unfold P_X11_cross at h ⊢
  refine N_X11_isDirection h (fun r2 v2 h => ?_)
  refine ⟨fun hc => ?_, fun hc => ?_⟩
  · replace h := h.1 hc
    exact hq _ _ h
  · replace h := h.2 hc
    refine N_X11_isDirection h (fun r10 v10 h => ?_)
    refine ⟨fun hc => ?_, fun hc => ?_⟩
    · replace h := h.1 hc
      exact hq _ _ h
    · replace h := h.2 hc
      refine ⟨fun hc => ?_, fun hc => ?_⟩
      · replace h := h.1 hc
        exact hq _ _ h
      · replace h := h.2 hc
        refine N_X11_pairsOf h (fun r24 h => ?_)
        exact hq _ _ h
theorem F_X11_cross {x1 : Int} {x2 : Int} {v : VT} {q : Int → VT → Prop} (h : P_X11_cross x1 x2 v q) : P_X11_cross x1 x2 v (fun r w => q r w ∧ ∀ a, ¬ (a = 218 ∨ (224 ≤ a ∧ a ≤ 229)) → w a = v a) := by
  unfold P_X11_cross at h ⊢
  have hf : ∀ a, ¬ (a = 218 ∨ (224 ≤ a ∧ a ≤ 229)) → v a = v a := fun a _ => rfl
  refine N_X11_isDirection (F_X11_isDirection h) (fun r2 v2 h => ?_)
  obtain ⟨h, hg⟩ := h
  replace hf : ∀ a, ¬ (a = 218 ∨ (224 ≤ a ∧ a ≤ 229)) → v2 a = v a := fun a ha => by rw [hg a (by omega), hf a ha]
  clear hg
  refine ⟨fun hc => ?_, fun hc => ?_⟩
  · replace h := h.1 hc
    exact ⟨h, hf⟩
  · replace h := h.2 hc
    refine N_X11_isDirection (F_X11_isDirection h) (fun r10 v10 h => ?_)
    obtain ⟨h, hg⟩ := h
    replace hf : ∀ a, ¬ (a = 218 ∨ (224 ≤ a ∧ a ≤ 229)) → v10 a = v a := fun a ha => by rw [hg a (by omega), hf a ha]
    clear hg
    refine ⟨fun hc => ?_, fun hc => ?_⟩
    · replace h := h.1 hc
      exact ⟨h, hf⟩
    · replace h := h.2 hc
      refine ⟨fun hc => ?_, fun hc => ?_⟩
      · replace h := h.1 hc
        exact ⟨h, hf⟩
      · replace h := h.2 hc
        refine N_X11_pairsOf h (fun r24 h => ?_)
        exact ⟨h, hf⟩
theorem N_X11_half {x1 : Int} {v : VT} {q q' : Int → Prop} (h : P_X11_half x1 v q) (hq : ∀ r, q r → q' r) : P_X11_half x1 v q' := by
  unfold P_X11_half at h ⊢
  refine ⟨fun hc => ?_, fun hc => ?_⟩
  · replace h := h.1 hc
    refine N_X11_all h (fun r18 h => ?_)
    refine N_X11_sideOne h (fun r25 h => ?_)
    exact hq _ h
  · replace h := h.2 hc
    refine N_X11_sideOne h (fun r11 h => ?_)
    exact hq _ h
theorem N_X11_doFit {x1 : Int} {x2 : Int} {v : VT} {q q' : Int → Prop} (h : P_X11_doFit x1 x2 v q) (hq : ∀ r, q r → q' r) : P_X11_doFit x1 x2 v q' := by
  unfold P_X11_doFit at h ⊢
  refine N_X11_half h (fun r2 h => ?_)
  refine N_X11_half h (fun r7 h => ?_)
  refine N_X11_all h (fun r12 h => ?_)
  refine ⟨fun hc => ?_, fun hc => ?_⟩
  · replace h := h.1 hc
    exact hq _ h
  · replace h := h.2 hc
    refine N_X11_half h (fun r20 h => ?_)
    refine N_X11_half h (fun r25 h => ?_)
    refine ⟨fun hc => ?_, fun hc => ?_⟩
    · replace h := h.1 hc
      exact hq _ h
    · replace h := h.2 hc
      exact hq _ h
theorem N_X11_isHalf {x1 : Int} {v : VT} {q q' : Int → VT → Prop} (h : P_X11_isHalf x1 v q) (hq : ∀ r w, q r w → q' r w) : P_X11_isHalf x1 v q' := by
  unfold P_X11_isHalf at h ⊢
  refine N_X11_sits h (fun r1 v1 h => ?_)
  refine ⟨fun hc => ?_, fun hc => ?_⟩
  · replace h := h.1 hc
    exact hq _ _ h
  · replace h := h.2 hc
    obtain ⟨ho1, h⟩ := h
    refine ⟨ho1, ?_⟩
    obtain ⟨ho2, h⟩ := h
    refine ⟨ho2, ?_⟩
    refine N_X11_isIn h (fun r19 h => ?_)
    refine ⟨fun hc => ?_, fun hc => ?_⟩
    · replace h := h.1 hc
      exact hq _ _ h
    · replace h := h.2 hc
      exact hq _ _ h
theorem F_X11_isHalf {x1 : Int} {v : VT} {q : Int → VT → Prop} (h : P_X11_isHalf x1 v q) : P_X11_isHalf x1 v (fun r w => q r w ∧ ∀ a, ¬ (a = 218 ∨ (224 ≤ a ∧ a ≤ 229)) → w a = v a) := by
  unfold P_X11_isHalf at h ⊢
  have hf : ∀ a, ¬ (a = 218 ∨ (224 ≤ a ∧ a ≤ 229)) → v a = v a := fun a _ => rfl
  refine N_X11_sits (F_X11_sits h) (fun r1 v1 h => ?_)
  obtain ⟨h, hg⟩ := h
  replace hf : ∀ a, ¬ (a = 218 ∨ (224 ≤ a ∧ a ≤ 229)) → v1 a = v a := fun a ha => by rw [hg a (by omega), hf a ha]
  clear hg
  refine ⟨fun hc => ?_, fun hc => ?_⟩
  · replace h := h.1 hc
    exact ⟨h, hf⟩
  · replace h := h.2 hc
    obtain ⟨ho1, h⟩ := h
    refine ⟨ho1, ?_⟩
    obtain ⟨ho2, h⟩ := h
    refine ⟨ho2, ?_⟩
    refine N_X11_isIn h (fun r19 h => ?_)
    refine ⟨fun hc => ?_, fun hc => ?_⟩
    · replace h := h.1 hc
      exact ⟨h, hf⟩
    · replace h := h.2 hc
      exact ⟨h, hf⟩
theorem N_X11_fit {x1 : Int} {x2 : Int} {v : VT} {q q' : Int → VT → Prop} (h : P_X11_fit x1 x2 v q) (hq : ∀ r w, q r w → q' r w) : P_X11_fit x1 x2 v q' := by
  unfold P_X11_fit at h ⊢
  refine N_X11_isHalf h (fun r2 v2 h => ?_)
  refine ⟨fun hc => ?_, fun hc => ?_⟩
  · replace h := h.1 hc
    exact hq _ _ h
  · replace h := h.2 hc
    refine N_X11_isHalf h (fun r10 v10 h => ?_)
    refine ⟨fun hc => ?_, fun hc => ?_⟩
    · replace h := h.1 hc
      exact hq _ _ h
    · replace h := h.2 hc
      refine ⟨fun hc => ?_, fun hc => ?_⟩
      · replace h := h.1 hc
        exact hq _ _ h
      · replace h := h.2 hc
        refine N_X11_doFit h (fun r24 h => ?_)
        refine N_X11_flag h (fun r27 h => ?_)
        exact hq _ _ h
theorem F_X11_fit {x1 : Int} {x2 : Int} {v : VT} {q : Int → VT → Prop} (h : P_X11_fit x1 x2 v q) : P_X11_fit x1 x2 v (fun r w => q r w ∧ ∀ a, ¬ (a = 218 ∨ (224 ≤ a ∧ a ≤ 229)) → w a = v a) := by
  unfold P_X11_fit at h ⊢
  have hf : ∀ a, ¬ (a = 218 ∨ (224 ≤ a ∧ a ≤ 229)) → v a = v a := fun a _ => rfl
  refine N_X11_isHalf (F_X11_isHalf h) (fun r2 v2 h => ?_)
  obtain ⟨h, hg⟩ := h
  replace hf : ∀ a, ¬ (a = 218 ∨ (224 ≤ a ∧ a ≤ 229)) → v2 a = v a := fun a ha => by rw [hg a (by omega), hf a ha]
  clear hg
  refine ⟨fun hc => ?_, fun hc => ?_⟩
  · replace h := h.1 hc
    exact ⟨h, hf⟩
  · replace h := h.2 hc
    refine N_X11_isHalf (F_X11_isHalf h) (fun r10 v10 h => ?_)
    obtain ⟨h, hg⟩ := h
    replace hf : ∀ a, ¬ (a = 218 ∨ (224 ≤ a ∧ a ≤ 229)) → v10 a = v a := fun a ha => by rw [hg a (by omega), hf a ha]
    clear hg
    refine ⟨fun hc => ?_, fun hc => ?_⟩
    · replace h := h.1 hc
      exact ⟨h, hf⟩
    · replace h := h.2 hc
      refine ⟨fun hc => ?_, fun hc => ?_⟩
      · replace h := h.1 hc
        exact ⟨h, hf⟩
      · replace h := h.2 hc
        refine N_X11_doFit h (fun r24 h => ?_)
        refine N_X11_flag h (fun r27 h => ?_)
        exact ⟨h, hf⟩
theorem N_X11_isCube {x1 : Int} {x2 : Int} {v : VT} {q q' : Int → Prop} (h : P_X11_isCube x1 x2 v q) (hq : ∀ r, q r → q' r) : P_X11_isCube x1 x2 v q' := by
  unfold P_X11_isCube at h ⊢
  intro X2 hKX2
  refine n_cut (h X2) ?_ ?_
  · intro i3 h
    refine hKX2 i3 ?_
    refine ⟨fun hc => ?_, fun hc => ?_⟩
    · replace h := h.1 hc
      exact hq _ h
    · replace h := h.2 hc
      obtain ⟨ho1, h⟩ := h
      refine ⟨ho1, ?_⟩
      refine N_X11_nodeAt h (fun r15 h => ?_)
      refine ⟨fun hc => ?_, fun hc => ?_⟩
      · replace h := h.1 hc
        obtain ⟨ho2, h⟩ := h
        refine ⟨ho2, ?_⟩
        intro l3 el3
        replace h := h l3 el3
        exact h
      · replace h := h.2 hc
        exact hq _ h
  · intro h
    exact h
theorem N_X11_cubes {x1 : Int} {v : VT} {q q' : Int → VT → Prop} (h : P_X11_cubes x1 v q) (hq : ∀ r w, q r w → q' r w) : P_X11_cubes x1 v q' := by
  unfold P_X11_cubes at h ⊢
  refine N_X11_sits h (fun r1 v1 h => ?_)
  refine ⟨fun hc => ?_, fun hc => ?_⟩
  · replace h := h.1 hc
    exact hq _ _ h
  · replace h := h.2 hc
    refine ⟨fun hc => ?_, fun hc => ?_⟩
    · replace h := h.1 hc
      intro X17 hKX17
      refine n_cut (h X17) ?_ ?_
      · intro i2 i3 h
        refine hKX17 i2 i3 ?_
        refine ⟨fun hc => ?_, fun hc => ?_⟩
        · replace h := h.1 hc
          exact hq _ _ h
        · replace h := h.2 hc
          intro X30 hKX30
          refine n_cut (h X30) ?_ ?_
          · intro i2_1 i4 h
            refine hKX30 i2_1 i4 ?_
            refine ⟨fun hc => ?_, fun hc => ?_⟩
            · replace h := h.1 hc
              obtain ⟨ho1, h⟩ := h
              refine ⟨ho1, ?_⟩
              exact h
            · replace h := h.2 hc
              obtain ⟨ho2, h⟩ := h
              refine ⟨ho2, ?_⟩
              obtain ⟨ho3, h⟩ := h
              refine ⟨ho3, ?_⟩
              intro l5 el5
              replace h := h l5 el5
              obtain ⟨ho4, h⟩ := h
              refine ⟨ho4, ?_⟩
              obtain ⟨ho5, h⟩ := h
              refine ⟨ho5, ?_⟩
              refine ⟨fun hc => ?_, fun hc => ?_⟩
              · replace h := h.1 hc
                refine N_X11_flag h (fun r108 h => ?_)
                obtain ⟨ho6, h⟩ := h
                refine ⟨ho6, ?_⟩
                obtain ⟨ho7, h⟩ := h
                refine ⟨ho7, ?_⟩
                exact h
              · replace h := h.2 hc
                refine N_X11_count h (fun r81 h => ?_)
                refine ⟨fun hc => ?_, fun hc => ?_⟩
                · replace h := h.1 hc
                  refine N_X11_flag h (fun r108_1 h => ?_)
                  obtain ⟨ho8, h⟩ := h
                  refine ⟨ho8, ?_⟩
                  intro l2 el2
                  replace h := h l2 el2
                  obtain ⟨ho9, h⟩ := h
                  refine ⟨ho9, ?_⟩
                  exact h
                · replace h := h.2 hc
                  refine ⟨fun hc => ?_, fun hc => ?_⟩
                  · replace h := h.1 hc
                    refine N_X11_flag h (fun r108_2 h => ?_)
                    obtain ⟨ho10, h⟩ := h
                    refine ⟨ho10, ?_⟩
                    intro l2_1 el2_1
                    replace h := h l2_1 el2_1
                    obtain ⟨ho11, h⟩ := h
                    refine ⟨ho11, ?_⟩
                    exact h
                  · replace h := h.2 hc
                    refine N_X11_isCube h (fun r97 h => ?_)
                    refine ⟨fun hc => ?_, fun hc => ?_⟩
                    · replace h := h.1 hc
                      refine N_X11_flag h (fun r108_3 h => ?_)
                      obtain ⟨ho12, h⟩ := h
                      refine ⟨ho12, ?_⟩
                      intro l2_2 el2_2
                      replace h := h l2_2 el2_2
                      obtain ⟨ho13, h⟩ := h
                      refine ⟨ho13, ?_⟩
                      exact h
                    · replace h := h.2 hc
                      refine N_X11_flag h (fun r108_4 h => ?_)
                      obtain ⟨ho14, h⟩ := h
                      refine ⟨ho14, ?_⟩
                      intro l2_3 el2_3
                      replace h := h l2_3 el2_3
                      obtain ⟨ho15, h⟩ := h
                      refine ⟨ho15, ?_⟩
                      exact h
          · intro h
            exact h
      · intro h
        exact h
    · replace h := h.2 hc
      exact hq _ _ h
theorem F_X11_cubes {x1 : Int} {v : VT} {q : Int → VT → Prop} (h : P_X11_cubes x1 v q) : P_X11_cubes x1 v (fun r w => q r w ∧ ∀ a, ¬ (a = 218 ∨ (224 ≤ a ∧ a ≤ 229)) → w a = v a) := by
  unfold P_X11_cubes at h ⊢
  have hf : ∀ a, ¬ (a = 218 ∨ (224 ≤ a ∧ a ≤ 229)) → v a = v a := fun a _ => rfl
  refine N_X11_sits (F_X11_sits h) (fun r1 v1 h => ?_)
  obtain ⟨h, hg⟩ := h
  replace hf : ∀ a, ¬ (a = 218 ∨ (224 ≤ a ∧ a ≤ 229)) → v1 a = v a := fun a ha => by rw [hg a (by omega), hf a ha]
  clear hg
  refine ⟨fun hc => ?_, fun hc => ?_⟩
  · replace h := h.1 hc
    exact ⟨h, hf⟩
  · replace h := h.2 hc
    refine ⟨fun hc => ?_, fun hc => ?_⟩
    · replace h := h.1 hc
      intro X17 hKX17
      refine n_cut (h X17) ?_ ?_
      · intro i2 i3 h
        refine hKX17 i2 i3 ?_
        refine ⟨fun hc => ?_, fun hc => ?_⟩
        · replace h := h.1 hc
          exact ⟨h, hf⟩
        · replace h := h.2 hc
          intro X30 hKX30
          refine n_cut (h X30) ?_ ?_
          · intro i2_1 i4 h
            refine hKX30 i2_1 i4 ?_
            refine ⟨fun hc => ?_, fun hc => ?_⟩
            · replace h := h.1 hc
              obtain ⟨ho1, h⟩ := h
              refine ⟨ho1, ?_⟩
              exact h
            · replace h := h.2 hc
              obtain ⟨ho2, h⟩ := h
              refine ⟨ho2, ?_⟩
              obtain ⟨ho3, h⟩ := h
              refine ⟨ho3, ?_⟩
              intro l5 el5
              replace h := h l5 el5
              obtain ⟨ho4, h⟩ := h
              refine ⟨ho4, ?_⟩
              obtain ⟨ho5, h⟩ := h
              refine ⟨ho5, ?_⟩
              refine ⟨fun hc => ?_, fun hc => ?_⟩
              · replace h := h.1 hc
                refine N_X11_flag h (fun r108 h => ?_)
                obtain ⟨ho6, h⟩ := h
                refine ⟨ho6, ?_⟩
                obtain ⟨ho7, h⟩ := h
                refine ⟨ho7, ?_⟩
                exact h
              · replace h := h.2 hc
                refine N_X11_count h (fun r81 h => ?_)
                refine ⟨fun hc => ?_, fun hc => ?_⟩
                · replace h := h.1 hc
                  refine N_X11_flag h (fun r108_1 h => ?_)
                  obtain ⟨ho8, h⟩ := h
                  refine ⟨ho8, ?_⟩
                  intro l2 el2
                  replace h := h l2 el2
                  obtain ⟨ho9, h⟩ := h
                  refine ⟨ho9, ?_⟩
                  exact h
                · replace h := h.2 hc
                  refine ⟨fun hc => ?_, fun hc => ?_⟩
                  · replace h := h.1 hc
                    refine N_X11_flag h (fun r108_2 h => ?_)
                    obtain ⟨ho10, h⟩ := h
                    refine ⟨ho10, ?_⟩
                    intro l2_1 el2_1
                    replace h := h l2_1 el2_1
                    obtain ⟨ho11, h⟩ := h
                    refine ⟨ho11, ?_⟩
                    exact h
                  · replace h := h.2 hc
                    refine N_X11_isCube h (fun r97 h => ?_)
                    refine ⟨fun hc => ?_, fun hc => ?_⟩
                    · replace h := h.1 hc
                      refine N_X11_flag h (fun r108_3 h => ?_)
                      obtain ⟨ho12, h⟩ := h
                      refine ⟨ho12, ?_⟩
                      intro l2_2 el2_2
                      replace h := h l2_2 el2_2
                      obtain ⟨ho13, h⟩ := h
                      refine ⟨ho13, ?_⟩
                      exact h
                    · replace h := h.2 hc
                      refine N_X11_flag h (fun r108_4 h => ?_)
                      obtain ⟨ho14, h⟩ := h
                      refine ⟨ho14, ?_⟩
                      intro l2_3 el2_3
                      replace h := h l2_3 el2_3
                      obtain ⟨ho15, h⟩ := h
                      refine ⟨ho15, ?_⟩
                      exact h
          · intro h
            exact h
      · intro h
        exact h
    · replace h := h.2 hc
      exact ⟨h, hf⟩
theorem N_X11_mostCrossing  {v : VT} {q q' : Int → VT → Prop} (h : P_X11_mostCrossing  v q) (hq : ∀ r w, q r w → q' r w) : P_X11_mostCrossing  v q' := by
  unfold P_X11_mostCrossing at h ⊢
  obtain ⟨ho1, h⟩ := h
  refine ⟨ho1, ?_⟩
  intro v17 ev17
  replace h := h v17 ev17
  intro v24 ev24
  replace h := h v24 ev24
  intro X25 hKX25
  refine n_cut (h X25) ?_ ?_
  · intro i1 i2 v25 h
    refine hKX25 i1 i2 v25 ?_
    refine ⟨fun hc => ?_, fun hc => ?_⟩
    · replace h := h.1 hc
      exact hq _ _ h
    · replace h := h.2 hc
      obtain ⟨ho2, h⟩ := h
      refine ⟨ho2, ?_⟩
      refine ⟨fun hc => ?_, fun hc => ?_⟩
      · replace h := h.1 hc
        intro K65 hKK65
        refine n_cut (h K65) ?_ ?_
        · intro i3 h
          refine hKK65 i3 ?_
          obtain ⟨ho3, h⟩ := h
          refine ⟨ho3, ?_⟩
          obtain ⟨ho4, h⟩ := h
          refine ⟨ho4, ?_⟩
          intro v78 ev78
          replace h := h v78 ev78
          obtain ⟨ho5, h⟩ := h
          refine ⟨ho5, ?_⟩
          intro l4 el4
          replace h := h l4 el4
          refine N_X11_count h (fun r93 h => ?_)
          refine N_X11_count h (fun r97 h => ?_)
          intro K124 hKK124
          refine n_cut (h K124) ?_ ?_
          · intro i1_1 h
            refine hKK124 i1_1 ?_
            obtain ⟨ho6, h⟩ := h
            refine ⟨ho6, ?_⟩
            obtain ⟨ho7, h⟩ := h
            refine ⟨ho7, ?_⟩
            intro v134 ev134
            replace h := h v134 ev134
            obtain ⟨ho8, h⟩ := h
            refine ⟨ho8, ?_⟩
            intro v141 ev141
            replace h := h v141 ev141
            obtain ⟨ho9, h⟩ := h
            refine ⟨ho9, ?_⟩
            intro X147 hKX147
            refine n_cut (h X147) ?_ ?_
            · intro i5 v147 h
              refine hKX147 i5 v147 ?_
              refine ⟨fun hc => ?_, fun hc => ?_⟩
              · replace h := h.1 hc
                exact h
              · replace h := h.2 hc
                obtain ⟨ho10, h⟩ := h
                refine ⟨ho10, ?_⟩
                obtain ⟨ho11, h⟩ := h
                refine ⟨ho11, ?_⟩
                refine N_X11_isOf h (fun r166 h => ?_)
                refine ⟨fun hc => ?_, fun hc => ?_⟩
                · replace h := h.1 hc
                  obtain ⟨ho12, h⟩ := h
                  refine ⟨ho12, ?_⟩
                  exact h
                · replace h := h.2 hc
                  refine N_X11_pairsOf h (fun r176 h => ?_)
                  refine ⟨fun hc => ?_, fun hc => ?_⟩
                  · replace h := h.1 hc
                    obtain ⟨ho13, h⟩ := h
                    refine ⟨ho13, ?_⟩
                    exact h
                  · replace h := h.2 hc
                    obtain ⟨ho14, h⟩ := h
                    refine ⟨ho14, ?_⟩
                    obtain ⟨ho15, h⟩ := h
                    refine ⟨ho15, ?_⟩
                    intro v195 ev195
                    replace h := h v195 ev195
                    obtain ⟨ho16, h⟩ := h
                    refine ⟨ho16, ?_⟩
                    exact h
            · intro h
              exact h
          · intro h
            intro K121 hKK121
            refine n_cut (h K121) ?_ ?_
            · intro h
              refine hKK121  ?_
              exact h
            · intro h
              refine ⟨fun hc => ?_, fun hc => ?_⟩
              · replace h := h.1 hc
                exact h
              · replace h := h.2 hc
                refine N_X11_count h (fun r105 h => ?_)
                refine N_X11_count h (fun r109 h => ?_)
                refine ⟨fun hc => ?_, fun hc => ?_⟩
                · replace h := h.1 hc
                  exact h
                · replace h := h.2 hc
                  refine ⟨fun hc => ?_, fun hc => ?_⟩
                  · replace h := h.1 hc
                    exact h
                  · replace h := h.2 hc
                    exact h
        · intro h
          intro X46 hKX46
          refine n_cut (h X46) ?_ ?_
          · intro i3_1 h
            refine hKX46 i3_1 ?_
            obtain ⟨ho17, h⟩ := h
            refine ⟨ho17, ?_⟩
            refine N_X11_isOf h (fun r53 h => ?_)
            refine ⟨fun hc => ?_, fun hc => ?_⟩
            · replace h := h.1 hc
              exact h
            · replace h := h.2 hc
              obtain ⟨ho18, h⟩ := h
              refine ⟨ho18, ?_⟩
              exact h
          · intro h
            exact h
      · replace h := h.2 hc
        obtain ⟨ho19, h⟩ := h
        refine ⟨ho19, ?_⟩
        exact h
  · intro h
    exact h
theorem F_X11_mostCrossing  {v : VT} {q : Int → VT → Prop} (h : P_X11_mostCrossing  v q) : P_X11_mostCrossing  v (fun r w => q r w ∧ ∀ a, ¬ ((232 ≤ a ∧ a ≤ 233)) → w a = v a) := by
  unfold P_X11_mostCrossing at h ⊢
  have hf : ∀ a, ¬ ((232 ≤ a ∧ a ≤ 233)) → v a = v a := fun a _ => rfl
  obtain ⟨ho1, h⟩ := h
  refine ⟨ho1, ?_⟩
  intro v17 ev17
  replace h := h v17 ev17
  replace hf : ∀ a, ¬ ((232 ≤ a ∧ a ≤ 233)) → v17 a = v a := fun a ha => by rw [ev17, upd2_off _ _ _ (by omega), hf a ha]
  intro v24 ev24
  replace h := h v24 ev24
  replace hf : ∀ a, ¬ ((232 ≤ a ∧ a ≤ 233)) → v24 a = v a := fun a ha => by rw [ev24, upd2_off _ _ _ (by omega), hf a ha]
  intro X25 hKX25
  refine n_cut (h (fun (i1 : Int) (i2 : Int) (v25 : VT) => (∀ a, ¬ ((232 ≤ a ∧ a ≤ 233)) → v25 a = v a) → X25 i1 i2 v25)) ?_ ?_
  · intro i1 i2 v25 h hf
    refine hKX25 i1 i2 v25 ?_
    refine ⟨fun hc => ?_, fun hc => ?_⟩
    · replace h := h.1 hc
      exact ⟨h, hf⟩
    · replace h := h.2 hc
      obtain ⟨ho2, h⟩ := h
      refine ⟨ho2, ?_⟩
      refine ⟨fun hc => ?_, fun hc => ?_⟩
      · replace h := h.1 hc
        intro K65 hKK65
        refine n_cut (h K65) ?_ ?_
        · intro i3 h
          refine hKK65 i3 ?_
          obtain ⟨ho3, h⟩ := h
          refine ⟨ho3, ?_⟩
          obtain ⟨ho4, h⟩ := h
          refine ⟨ho4, ?_⟩
          intro v78 ev78
          replace h := h v78 ev78
          replace hf : ∀ a, ¬ ((232 ≤ a ∧ a ≤ 233)) → v78 a = v a := fun a ha => by rw [ev78, upd2_off _ _ _ (by omega), hf a ha]
          obtain ⟨ho5, h⟩ := h
          refine ⟨ho5, ?_⟩
          intro l4 el4
          replace h := h l4 el4
          refine N_X11_count h (fun r93 h => ?_)
          refine N_X11_count h (fun r97 h => ?_)
          intro K124 hKK124
          refine n_cut (h K124) ?_ ?_
          · intro i1_1 h
            refine hKK124 i1_1 ?_
            obtain ⟨ho6, h⟩ := h
            refine ⟨ho6, ?_⟩
            obtain ⟨ho7, h⟩ := h
            refine ⟨ho7, ?_⟩
            intro v134 ev134
            replace h := h v134 ev134
            replace hf : ∀ a, ¬ ((232 ≤ a ∧ a ≤ 233)) → v134 a = v a := fun a ha => by rw [ev134, upd2_off _ _ _ (by omega), hf a ha]
            obtain ⟨ho8, h⟩ := h
            refine ⟨ho8, ?_⟩
            intro v141 ev141
            replace h := h v141 ev141
            replace hf : ∀ a, ¬ ((232 ≤ a ∧ a ≤ 233)) → v141 a = v a := fun a ha => by rw [ev141, upd2_off _ _ _ (by omega), hf a ha]
            obtain ⟨ho9, h⟩ := h
            refine ⟨ho9, ?_⟩
            intro X147 hKX147
            refine n_cut (h (fun (i5 : Int) (v147 : VT) => (∀ a, ¬ ((232 ≤ a ∧ a ≤ 233)) → v147 a = v a) → X147 i5 v147)) ?_ ?_
            · intro i5 v147 h hf
              refine hKX147 i5 v147 ?_
              refine ⟨fun hc => ?_, fun hc => ?_⟩
              · replace h := h.1 hc
                exact h hf
              · replace h := h.2 hc
                obtain ⟨ho10, h⟩ := h
                refine ⟨ho10, ?_⟩
                obtain ⟨ho11, h⟩ := h
                refine ⟨ho11, ?_⟩
                refine N_X11_isOf h (fun r166 h => ?_)
                refine ⟨fun hc => ?_, fun hc => ?_⟩
                · replace h := h.1 hc
                  obtain ⟨ho12, h⟩ := h
                  refine ⟨ho12, ?_⟩
                  exact h hf
                · replace h := h.2 hc
                  refine N_X11_pairsOf h (fun r176 h => ?_)
                  refine ⟨fun hc => ?_, fun hc => ?_⟩
                  · replace h := h.1 hc
                    obtain ⟨ho13, h⟩ := h
                    refine ⟨ho13, ?_⟩
                    exact h hf
                  · replace h := h.2 hc
                    obtain ⟨ho14, h⟩ := h
                    refine ⟨ho14, ?_⟩
                    obtain ⟨ho15, h⟩ := h
                    refine ⟨ho15, ?_⟩
                    intro v195 ev195
                    replace h := h v195 ev195
                    replace hf : ∀ a, ¬ ((232 ≤ a ∧ a ≤ 233)) → v195 a = v a := fun a ha => by rw [ev195, upd2_off _ _ _ (by omega), hf a ha]
                    obtain ⟨ho16, h⟩ := h
                    refine ⟨ho16, ?_⟩
                    exact h hf
            · intro h
              exact h hf
          · intro h
            intro K121 hKK121
            refine n_cut (h K121) ?_ ?_
            · intro h
              refine hKK121  ?_
              exact h
            · intro h
              refine ⟨fun hc => ?_, fun hc => ?_⟩
              · replace h := h.1 hc
                exact h
              · replace h := h.2 hc
                refine N_X11_count h (fun r105 h => ?_)
                refine N_X11_count h (fun r109 h => ?_)
                refine ⟨fun hc => ?_, fun hc => ?_⟩
                · replace h := h.1 hc
                  exact h
                · replace h := h.2 hc
                  refine ⟨fun hc => ?_, fun hc => ?_⟩
                  · replace h := h.1 hc
                    exact h
                  · replace h := h.2 hc
                    exact h
        · intro h
          intro X46 hKX46
          refine n_cut (h X46) ?_ ?_
          · intro i3_1 h
            refine hKX46 i3_1 ?_
            obtain ⟨ho17, h⟩ := h
            refine ⟨ho17, ?_⟩
            refine N_X11_isOf h (fun r53 h => ?_)
            refine ⟨fun hc => ?_, fun hc => ?_⟩
            · replace h := h.1 hc
              exact h
            · replace h := h.2 hc
              obtain ⟨ho18, h⟩ := h
              refine ⟨ho18, ?_⟩
              exact h
          · intro h
            exact h
      · replace h := h.2 hc
        obtain ⟨ho19, h⟩ := h
        refine ⟨ho19, ?_⟩
        exact h hf
  · intro h
    exact h hf
theorem N_X11_most {x1 : Int} {v : VT} {q q' : Int → VT → Prop} (h : P_X11_most x1 v q) (hq : ∀ r w, q r w → q' r w) : P_X11_most x1 v q' := by
  unfold P_X11_most at h ⊢
  refine N_X11_sits h (fun r1 v1 h => ?_)
  refine ⟨fun hc => ?_, fun hc => ?_⟩
  · replace h := h.1 hc
    exact hq _ _ h
  · replace h := h.2 hc
    refine N_X11_isIn h (fun r11 h => ?_)
    refine ⟨fun hc => ?_, fun hc => ?_⟩
    · replace h := h.1 hc
      refine N_X11_mostCrossing h (fun r20 v20 h => ?_)
      refine ⟨fun hc => ?_, fun hc => ?_⟩
      · replace h := h.1 hc
        exact hq _ _ h
      · replace h := h.2 hc
        refine N_X11_count h (fun r29 h => ?_)
        exact hq _ _ h
    · replace h := h.2 hc
      exact hq _ _ h
theorem F_X11_most {x1 : Int} {v : VT} {q : Int → VT → Prop} (h : P_X11_most x1 v q) : P_X11_most x1 v (fun r w => q r w ∧ ∀ a, ¬ (a = 218 ∨ (224 ≤ a ∧ a ≤ 229) ∨ (232 ≤ a ∧ a ≤ 233)) → w a = v a) := by
  unfold P_X11_most at h ⊢
  have hf : ∀ a, ¬ (a = 218 ∨ (224 ≤ a ∧ a ≤ 229) ∨ (232 ≤ a ∧ a ≤ 233)) → v a = v a := fun a _ => rfl
  refine N_X11_sits (F_X11_sits h) (fun r1 v1 h => ?_)
  obtain ⟨h, hg⟩ := h
  replace hf : ∀ a, ¬ (a = 218 ∨ (224 ≤ a ∧ a ≤ 229) ∨ (232 ≤ a ∧ a ≤ 233)) → v1 a = v a := fun a ha => by rw [hg a (by omega), hf a ha]
  clear hg
  refine ⟨fun hc => ?_, fun hc => ?_⟩
  · replace h := h.1 hc
    exact ⟨h, hf⟩
  · replace h := h.2 hc
    refine N_X11_isIn h (fun r11 h => ?_)
    refine ⟨fun hc => ?_, fun hc => ?_⟩
    · replace h := h.1 hc
      refine N_X11_mostCrossing (F_X11_mostCrossing h) (fun r20 v20 h => ?_)
      obtain ⟨h, hg⟩ := h
      replace hf : ∀ a, ¬ (a = 218 ∨ (224 ≤ a ∧ a ≤ 229) ∨ (232 ≤ a ∧ a ≤ 233)) → v20 a = v a := fun a ha => by rw [hg a (by omega), hf a ha]
      clear hg
      refine ⟨fun hc => ?_, fun hc => ?_⟩
      · replace h := h.1 hc
        exact ⟨h, hf⟩
      · replace h := h.2 hc
        refine N_X11_count h (fun r29 h => ?_)
        exact ⟨h, hf⟩
    · replace h := h.2 hc
      exact ⟨h, hf⟩
theorem N_X11_opposite {x1 : Int} {v : VT} {q q' : Int → VT → Prop} (h : P_X11_opposite x1 v q) (hq : ∀ r w, q r w → q' r w) : P_X11_opposite x1 v q' := by
  unfold P_X11_opposite at h ⊢
  refine N_X11_sits h (fun r1 v1 h => ?_)
  refine ⟨fun hc => ?_, fun hc => ?_⟩
  · replace h := h.1 hc
    exact hq _ _ h
  · replace h := h.2 hc
    refine N_X11_isNode h (fun r9 h => ?_)
    refine ⟨fun hc => ?_, fun hc => ?_⟩
    · replace h := h.1 hc
      exact hq _ _ h
    · replace h := h.2 hc
      obtain ⟨ho1, h⟩ := h
      refine ⟨ho1, ?_⟩
      obtain ⟨ho2, h⟩ := h
      refine ⟨ho2, ?_⟩
      refine N_X11_nodeAt h (fun r33 h => ?_)
      exact hq _ _ h
theorem F_X11_opposite {x1 : Int} {v : VT} {q : Int → VT → Prop} (h : P_X11_opposite x1 v q) : P_X11_opposite x1 v (fun r w => q r w ∧ ∀ a, ¬ (a = 218 ∨ (224 ≤ a ∧ a ≤ 229)) → w a = v a) := by
  unfold P_X11_opposite at h ⊢
  have hf : ∀ a, ¬ (a = 218 ∨ (224 ≤ a ∧ a ≤ 229)) → v a = v a := fun a _ => rfl
  refine N_X11_sits (F_X11_sits h) (fun r1 v1 h => ?_)
  obtain ⟨h, hg⟩ := h
  replace hf : ∀ a, ¬ (a = 218 ∨ (224 ≤ a ∧ a ≤ 229)) → v1 a = v a := fun a ha => by rw [hg a (by omega), hf a ha]
  clear hg
  refine ⟨fun hc => ?_, fun hc => ?_⟩
  · replace h := h.1 hc
    exact ⟨h, hf⟩
  · replace h := h.2 hc
    refine N_X11_isNode h (fun r9 h => ?_)
    refine ⟨fun hc => ?_, fun hc => ?_⟩
    · replace h := h.1 hc
      exact ⟨h, hf⟩
    · replace h := h.2 hc
      obtain ⟨ho1, h⟩ := h
      refine ⟨ho1, ?_⟩
      obtain ⟨ho2, h⟩ := h
      refine ⟨ho2, ?_⟩
      refine N_X11_nodeAt h (fun r33 h => ?_)
      exact ⟨h, hf⟩
theorem N_X11_even {x1 : Int} {v : VT} {q q' : Int → VT → Prop} (h : P_X11_even x1 v q) (hq : ∀ r w, q r w → q' r w) : P_X11_even x1 v q' := by
  unfold P_X11_even at h ⊢
  refine N_X11_sits h (fun r1 v1 h => ?_)
  refine ⟨fun hc => ?_, fun hc => ?_⟩
  · replace h := h.1 hc
    exact hq _ _ h
  · replace h := h.2 hc
    refine ⟨fun hc => ?_, fun hc => ?_⟩
    · replace h := h.1 hc
      exact hq _ _ h
    · replace h := h.2 hc
      refine N_X11_isIn h (fun r18 h => ?_)
      refine ⟨fun hc => ?_, fun hc => ?_⟩
      · replace h := h.1 hc
        intro X30 hKX30
        refine n_cut (h X30) ?_ ?_
        · intro i2 i3 h
          refine hKX30 i2 i3 ?_
          refine ⟨fun hc => ?_, fun hc => ?_⟩
          · replace h := h.1 hc
            refine ⟨fun hc => ?_, fun hc => ?_⟩
            · replace h := h.1 hc
              refine N_X11_costOf h (fun r69 h => ?_)
              exact hq _ _ h
            · replace h := h.2 hc
              exact hq _ _ h
          · replace h := h.2 hc
            refine N_X11_costOf h (fun r40 h => ?_)
            refine N_X11_costOf h (fun r45 h => ?_)
            refine ⟨fun hc => ?_, fun hc => ?_⟩
            · replace h := h.1 hc
              obtain ⟨ho1, h⟩ := h
              refine ⟨ho1, ?_⟩
              exact h
            · replace h := h.2 hc
              obtain ⟨ho2, h⟩ := h
              refine ⟨ho2, ?_⟩
              exact h
        · intro h
          exact h
      · replace h := h.2 hc
        exact hq _ _ h
theorem F_X11_even {x1 : Int} {v : VT} {q : Int → VT → Prop} (h : P_X11_even x1 v q) : P_X11_even x1 v (fun r w => q r w ∧ ∀ a, ¬ (a = 218 ∨ (224 ≤ a ∧ a ≤ 229)) → w a = v a) := by
  unfold P_X11_even at h ⊢
  have hf : ∀ a, ¬ (a = 218 ∨ (224 ≤ a ∧ a ≤ 229)) → v a = v a := fun a _ => rfl
  refine N_X11_sits (F_X11_sits h) (fun r1 v1 h => ?_)
  obtain ⟨h, hg⟩ := h
  replace hf : ∀ a, ¬ (a = 218 ∨ (224 ≤ a ∧ a ≤ 229)) → v1 a = v a := fun a ha => by rw [hg a (by omega), hf a ha]
  clear hg
  refine ⟨fun hc => ?_, fun hc => ?_⟩
  · replace h := h.1 hc
    exact ⟨h, hf⟩
  · replace h := h.2 hc
    refine ⟨fun hc => ?_, fun hc => ?_⟩
    · replace h := h.1 hc
      exact ⟨h, hf⟩
    · replace h := h.2 hc
      refine N_X11_isIn h (fun r18 h => ?_)
      refine ⟨fun hc => ?_, fun hc => ?_⟩
      · replace h := h.1 hc
        intro X30 hKX30
        refine n_cut (h X30) ?_ ?_
        · intro i2 i3 h
          refine hKX30 i2 i3 ?_
          refine ⟨fun hc => ?_, fun hc => ?_⟩
          · replace h := h.1 hc
            refine ⟨fun hc => ?_, fun hc => ?_⟩
            · replace h := h.1 hc
              refine N_X11_costOf h (fun r69 h => ?_)
              exact ⟨h, hf⟩
            · replace h := h.2 hc
              exact ⟨h, hf⟩
          · replace h := h.2 hc
            refine N_X11_costOf h (fun r40 h => ?_)
            refine N_X11_costOf h (fun r45 h => ?_)
            refine ⟨fun hc => ?_, fun hc => ?_⟩
            · replace h := h.1 hc
              obtain ⟨ho1, h⟩ := h
              refine ⟨ho1, ?_⟩
              exact h
            · replace h := h.2 hc
              obtain ⟨ho2, h⟩ := h
              refine ⟨ho2, ?_⟩
              exact h
        · intro h
          exact h
      · replace h := h.2 hc
        exact ⟨h, hf⟩
theorem N_X11_few  {v : VT} {q q' : Int → VT → Prop} (h : P_X11_few  v q) (hq : ∀ r w, q r w → q' r w) : P_X11_few  v q' := by
  unfold P_X11_few at h ⊢
  refine N_X11_sits h (fun r1 v1 h => ?_)
  refine ⟨fun hc => ?_, fun hc => ?_⟩
  · replace h := h.1 hc
    exact hq _ _ h
  · replace h := h.2 hc
    refine ⟨fun hc => ?_, fun hc => ?_⟩
    · replace h := h.1 hc
      obtain ⟨ho1, h⟩ := h
      refine ⟨ho1, ?_⟩
      intro l1 el1
      replace h := h l1 el1
      intro K79 hKK79
      refine n_cut (h K79) ?_ ?_
      · intro v79 h
        refine hKK79 v79 ?_
        intro v85 ev85
        replace h := h v85 ev85
        intro K215 hKK215
        refine n_cut (h K215) ?_ ?_
        · intro v215 h
          refine hKK215 v215 ?_
          obtain ⟨ho2, h⟩ := h
          refine ⟨ho2, ?_⟩
          obtain ⟨ho3, h⟩ := h
          refine ⟨ho3, ?_⟩
          obtain ⟨ho4, h⟩ := h
          refine ⟨ho4, ?_⟩
          exact hq _ _ h
        · intro h
          intro X88 hKX88
          refine n_cut (h X88) ?_ ?_
          · intro i2 v88 h
            refine hKX88 i2 v88 ?_
            refine ⟨fun hc => ?_, fun hc => ?_⟩
            · replace h := h.1 hc
              exact h
            · replace h := h.2 hc
              intro K111 hKK111
              refine n_cut (h K111) ?_ ?_
              · intro i3 h
                refine hKK111 i3 ?_
                intro l4 el4
                replace h := h l4 el4
                obtain ⟨ho5, h⟩ := h
                refine ⟨ho5, ?_⟩
                intro l5 el5
                replace h := h l5 el5
                intro X132 hKX132
                refine n_cut (h X132) ?_ ?_
                · intro i5 i6 h
                  refine hKX132 i5 i6 ?_
                  refine ⟨fun hc => ?_, fun hc => ?_⟩
                  · replace h := h.1 hc
                    obtain ⟨ho6, h⟩ := h
                    refine ⟨ho6, ?_⟩
                    intro v208 ev208
                    replace h := h v208 ev208
                    obtain ⟨ho7, h⟩ := h
                    refine ⟨ho7, ?_⟩
                    exact h
                  · replace h := h.2 hc
                    obtain ⟨ho8, h⟩ := h
                    refine ⟨ho8, ?_⟩
                    refine N_X11_isOf h (fun r149 h => ?_)
                    refine ⟨fun hc => ?_, fun hc => ?_⟩
                    · replace h := h.1 hc
                      obtain ⟨ho9, h⟩ := h
                      refine ⟨ho9, ?_⟩
                      exact h
                    · replace h := h.2 hc
                      obtain ⟨ho10, h⟩ := h
                      refine ⟨ho10, ?_⟩
                      obtain ⟨ho11, h⟩ := h
                      refine ⟨ho11, ?_⟩
                      refine ⟨fun hc => ?_, fun hc => ?_⟩
                      · replace h := h.1 hc
                        obtain ⟨ho12, h⟩ := h
                        refine ⟨ho12, ?_⟩
                        exact h
                      · replace h := h.2 hc
                        obtain ⟨ho13, h⟩ := h
                        refine ⟨ho13, ?_⟩
                        obtain ⟨ho14, h⟩ := h
                        refine ⟨ho14, ?_⟩
                        intro l5_1 el5_1
                        replace h := h l5_1 el5_1
                        obtain ⟨ho15, h⟩ := h
                        refine ⟨ho15, ?_⟩
                        exact h
                · intro h
                  exact h
              · intro h
                intro X97 hKX97
                refine n_cut (h X97) ?_ ?_
                · intro i3_1 h
                  refine hKX97 i3_1 ?_
                  obtain ⟨ho16, h⟩ := h
                  refine ⟨ho16, ?_⟩
                  refine ⟨fun hc => ?_, fun hc => ?_⟩
                  · replace h := h.1 hc
                    exact h
                  · replace h := h.2 hc
                    obtain ⟨ho17, h⟩ := h
                    refine ⟨ho17, ?_⟩
                    exact h
                · intro h
                  exact h
          · intro h
            exact h
      · intro h
        intro X27 hKX27
        refine n_cut (h X27) ?_ ?_
        · intro i2_1 v27 h
          refine hKX27 i2_1 v27 ?_
          refine ⟨fun hc => ?_, fun hc => ?_⟩
          · replace h := h.1 hc
            exact h
          · replace h := h.2 hc
            obtain ⟨ho18, h⟩ := h
            refine ⟨ho18, ?_⟩
            intro v38 ev38
            replace h := h v38 ev38
            intro X41 hKX41
            refine n_cut (h X41) ?_ ?_
            · intro i3_2 v41 h
              refine hKX41 i3_2 v41 ?_
              refine ⟨fun hc => ?_, fun hc => ?_⟩
              · replace h := h.1 hc
                obtain ⟨ho19, h⟩ := h
                refine ⟨ho19, ?_⟩
                exact h
              · replace h := h.2 hc
                refine N_X11_doFit h (fun r49 h => ?_)
                refine ⟨fun hc => ?_, fun hc => ?_⟩
                · replace h := h.1 hc
                  obtain ⟨ho20, h⟩ := h
                  refine ⟨ho20, ?_⟩
                  exact h
                · replace h := h.2 hc
                  obtain ⟨ho21, h⟩ := h
                  refine ⟨ho21, ?_⟩
                  obtain ⟨ho22, h⟩ := h
                  refine ⟨ho22, ?_⟩
                  intro v66 ev66
                  replace h := h v66 ev66
                  obtain ⟨ho23, h⟩ := h
                  refine ⟨ho23, ?_⟩
                  exact h
            · intro h
              exact h
        · intro h
          exact h
    · replace h := h.2 hc
      exact hq _ _ h
theorem F_X11_few  {v : VT} {q : Int → VT → Prop} (h : P_X11_few  v q) : P_X11_few  v (fun r w => q r w ∧ ∀ a, ¬ (a = 218 ∨ (224 ≤ a ∧ a ≤ 229) ∨ (234 ≤ a ∧ a ≤ 235)) → w a = v a) := by
  unfold P_X11_few at h ⊢
  have hf : ∀ a, ¬ (a = 218 ∨ (224 ≤ a ∧ a ≤ 229) ∨ (234 ≤ a ∧ a ≤ 235)) → v a = v a := fun a _ => rfl
  refine N_X11_sits (F_X11_sits h) (fun r1 v1 h => ?_)
  obtain ⟨h, hg⟩ := h
  replace hf : ∀ a, ¬ (a = 218 ∨ (224 ≤ a ∧ a ≤ 229) ∨ (234 ≤ a ∧ a ≤ 235)) → v1 a = v a := fun a ha => by rw [hg a (by omega), hf a ha]
  clear hg
  refine ⟨fun hc => ?_, fun hc => ?_⟩
  · replace h := h.1 hc
    exact ⟨h, hf⟩
  · replace h := h.2 hc
    refine ⟨fun hc => ?_, fun hc => ?_⟩
    · replace h := h.1 hc
      obtain ⟨ho1, h⟩ := h
      refine ⟨ho1, ?_⟩
      intro l1 el1
      replace h := h l1 el1
      intro K79 hKK79
      refine n_cut (h (fun (v79 : VT) => (∀ a, ¬ (a = 218 ∨ (224 ≤ a ∧ a ≤ 229) ∨ (234 ≤ a ∧ a ≤ 235)) → v79 a = v a) → K79 v79)) ?_ ?_
      · intro v79 h hf
        refine hKK79 v79 ?_
        intro v85 ev85
        replace h := h v85 ev85
        replace hf : ∀ a, ¬ (a = 218 ∨ (224 ≤ a ∧ a ≤ 229) ∨ (234 ≤ a ∧ a ≤ 235)) → v85 a = v a := fun a ha => by rw [ev85, upd2_off _ _ _ (by omega), hf a ha]
        intro K215 hKK215
        refine n_cut (h (fun (v215 : VT) => (∀ a, ¬ (a = 218 ∨ (224 ≤ a ∧ a ≤ 229) ∨ (234 ≤ a ∧ a ≤ 235)) → v215 a = v a) → K215 v215)) ?_ ?_
        · intro v215 h hf
          refine hKK215 v215 ?_
          obtain ⟨ho2, h⟩ := h
          refine ⟨ho2, ?_⟩
          obtain ⟨ho3, h⟩ := h
          refine ⟨ho3, ?_⟩
          obtain ⟨ho4, h⟩ := h
          refine ⟨ho4, ?_⟩
          exact ⟨h, hf⟩
        · intro h
          intro X88 hKX88
          refine n_cut (h (fun (i2 : Int) (v88 : VT) => (∀ a, ¬ (a = 218 ∨ (224 ≤ a ∧ a ≤ 229) ∨ (234 ≤ a ∧ a ≤ 235)) → v88 a = v a) → X88 i2 v88)) ?_ ?_
          · intro i2 v88 h hf
            refine hKX88 i2 v88 ?_
            refine ⟨fun hc => ?_, fun hc => ?_⟩
            · replace h := h.1 hc
              exact h hf
            · replace h := h.2 hc
              intro K111 hKK111
              refine n_cut (h K111) ?_ ?_
              · intro i3 h
                refine hKK111 i3 ?_
                intro l4 el4
                replace h := h l4 el4
                obtain ⟨ho5, h⟩ := h
                refine ⟨ho5, ?_⟩
                intro l5 el5
                replace h := h l5 el5
                intro X132 hKX132
                refine n_cut (h X132) ?_ ?_
                · intro i5 i6 h
                  refine hKX132 i5 i6 ?_
                  refine ⟨fun hc => ?_, fun hc => ?_⟩
                  · replace h := h.1 hc
                    obtain ⟨ho6, h⟩ := h
                    refine ⟨ho6, ?_⟩
                    intro v208 ev208
                    replace h := h v208 ev208
                    replace hf : ∀ a, ¬ (a = 218 ∨ (224 ≤ a ∧ a ≤ 229) ∨ (234 ≤ a ∧ a ≤ 235)) → v208 a = v a := fun a ha => by rw [ev208, upd2_off _ _ _ (by omega), hf a ha]
                    obtain ⟨ho7, h⟩ := h
                    refine ⟨ho7, ?_⟩
                    exact h hf
                  · replace h := h.2 hc
                    obtain ⟨ho8, h⟩ := h
                    refine ⟨ho8, ?_⟩
                    refine N_X11_isOf h (fun r149 h => ?_)
                    refine ⟨fun hc => ?_, fun hc => ?_⟩
                    · replace h := h.1 hc
                      obtain ⟨ho9, h⟩ := h
                      refine ⟨ho9, ?_⟩
                      exact h
                    · replace h := h.2 hc
                      obtain ⟨ho10, h⟩ := h
                      refine ⟨ho10, ?_⟩
                      obtain ⟨ho11, h⟩ := h
                      refine ⟨ho11, ?_⟩
                      refine ⟨fun hc => ?_, fun hc => ?_⟩
                      · replace h := h.1 hc
                        obtain ⟨ho12, h⟩ := h
                        refine ⟨ho12, ?_⟩
                        exact h
                      · replace h := h.2 hc
                        obtain ⟨ho13, h⟩ := h
                        refine ⟨ho13, ?_⟩
                        obtain ⟨ho14, h⟩ := h
                        refine ⟨ho14, ?_⟩
                        intro l5_1 el5_1
                        replace h := h l5_1 el5_1
                        obtain ⟨ho15, h⟩ := h
                        refine ⟨ho15, ?_⟩
                        exact h
                · intro h
                  exact h
              · intro h
                intro X97 hKX97
                refine n_cut (h X97) ?_ ?_
                · intro i3_1 h
                  refine hKX97 i3_1 ?_
                  obtain ⟨ho16, h⟩ := h
                  refine ⟨ho16, ?_⟩
                  refine ⟨fun hc => ?_, fun hc => ?_⟩
                  · replace h := h.1 hc
                    exact h
                  · replace h := h.2 hc
                    obtain ⟨ho17, h⟩ := h
                    refine ⟨ho17, ?_⟩
                    exact h
                · intro h
                  exact h
          · intro h
            exact h hf
      · intro h
        intro X27 hKX27
        refine n_cut (h (fun (i2_1 : Int) (v27 : VT) => (∀ a, ¬ (a = 218 ∨ (224 ≤ a ∧ a ≤ 229) ∨ (234 ≤ a ∧ a ≤ 235)) → v27 a = v a) → X27 i2_1 v27)) ?_ ?_
        · intro i2_1 v27 h hf
          refine hKX27 i2_1 v27 ?_
          refine ⟨fun hc => ?_, fun hc => ?_⟩
          · replace h := h.1 hc
            exact h hf
          · replace h := h.2 hc
            obtain ⟨ho18, h⟩ := h
            refine ⟨ho18, ?_⟩
            intro v38 ev38
            replace h := h v38 ev38
            replace hf : ∀ a, ¬ (a = 218 ∨ (224 ≤ a ∧ a ≤ 229) ∨ (234 ≤ a ∧ a ≤ 235)) → v38 a = v a := fun a ha => by rw [ev38, upd2_off _ _ _ (by omega), hf a ha]
            intro X41 hKX41
            refine n_cut (h (fun (i3_2 : Int) (v41 : VT) => (∀ a, ¬ (a = 218 ∨ (224 ≤ a ∧ a ≤ 229) ∨ (234 ≤ a ∧ a ≤ 235)) → v41 a = v a) → X41 i3_2 v41)) ?_ ?_
            · intro i3_2 v41 h hf
              refine hKX41 i3_2 v41 ?_
              refine ⟨fun hc => ?_, fun hc => ?_⟩
              · replace h := h.1 hc
                obtain ⟨ho19, h⟩ := h
                refine ⟨ho19, ?_⟩
                exact h hf
              · replace h := h.2 hc
                refine N_X11_doFit h (fun r49 h => ?_)
                refine ⟨fun hc => ?_, fun hc => ?_⟩
                · replace h := h.1 hc
                  obtain ⟨ho20, h⟩ := h
                  refine ⟨ho20, ?_⟩
                  exact h hf
                · replace h := h.2 hc
                  obtain ⟨ho21, h⟩ := h
                  refine ⟨ho21, ?_⟩
                  obtain ⟨ho22, h⟩ := h
                  refine ⟨ho22, ?_⟩
                  intro v66 ev66
                  replace h := h v66 ev66
                  replace hf : ∀ a, ¬ (a = 218 ∨ (224 ≤ a ∧ a ≤ 229) ∨ (234 ≤ a ∧ a ≤ 235)) → v66 a = v a := fun a ha => by rw [ev66, upd2_off _ _ _ (by omega), hf a ha]
                  obtain ⟨ho23, h⟩ := h
                  refine ⟨ho23, ?_⟩
                  exact h hf
            · intro h
              exact h hf
        · intro h
          exact h hf
    · replace h := h.2 hc
      exact ⟨h, hf⟩
theorem N_X11_medianOf {x1 : Int} {x2 : Int} {x3 : Int} {v : VT} {q q' : Int → Prop} (h : P_X11_medianOf x1 x2 x3 v q) (hq : ∀ r, q r → q' r) : P_X11_medianOf x1 x2 x3 v q' := by
  unfold P_X11_medianOf at h ⊢
  refine N_X11_betweenOf h (fun r3 h => ?_)
  refine N_X11_betweenOf h (fun r9 h => ?_)
  refine N_X11_betweenOf h (fun r16 h => ?_)
  exact hq _ h
theorem N_X11_median {x1 : Int} {x2 : Int} {x3 : Int} {v : VT} {q q' : Int → VT → Prop} (h : P_X11_median x1 x2 x3 v q) (hq : ∀ r w, q r w → q' r w) : P_X11_median x1 x2 x3 v q' := by
  unfold P_X11_median at h ⊢
  refine N_X11_areNodes h (fun r3 v3 h => ?_)
  refine ⟨fun hc => ?_, fun hc => ?_⟩
  · replace h := h.1 hc
    exact hq _ _ h
  · replace h := h.2 hc
    refine N_X11_isNode h (fun r11 h => ?_)
    refine ⟨fun hc => ?_, fun hc => ?_⟩
    · replace h := h.1 hc
      exact hq _ _ h
    · replace h := h.2 hc
      refine N_X11_medianOf h (fun r21 h => ?_)
      exact hq _ _ h
theorem F_X11_median {x1 : Int} {x2 : Int} {x3 : Int} {v : VT} {q : Int → VT → Prop} (h : P_X11_median x1 x2 x3 v q) : P_X11_median x1 x2 x3 v (fun r w => q r w ∧ ∀ a, ¬ (a = 218 ∨ (224 ≤ a ∧ a ≤ 229)) → w a = v a) := by
  unfold P_X11_median at h ⊢
  have hf : ∀ a, ¬ (a = 218 ∨ (224 ≤ a ∧ a ≤ 229)) → v a = v a := fun a _ => rfl
  refine N_X11_areNodes (F_X11_areNodes h) (fun r3 v3 h => ?_)
  obtain ⟨h, hg⟩ := h
  replace hf : ∀ a, ¬ (a = 218 ∨ (224 ≤ a ∧ a ≤ 229)) → v3 a = v a := fun a ha => by rw [hg a (by omega), hf a ha]
  clear hg
  refine ⟨fun hc => ?_, fun hc => ?_⟩
  · replace h := h.1 hc
    exact ⟨h, hf⟩
  · replace h := h.2 hc
    refine N_X11_isNode h (fun r11 h => ?_)
    refine ⟨fun hc => ?_, fun hc => ?_⟩
    · replace h := h.1 hc
      exact ⟨h, hf⟩
    · replace h := h.2 hc
      refine N_X11_medianOf h (fun r21 h => ?_)
      exact ⟨h, hf⟩
theorem N_X11_medians {x1 : Int} {v : VT} {q q' : Int → VT → Prop} (h : P_X11_medians x1 v q) (hq : ∀ r w, q r w → q' r w) : P_X11_medians x1 v q' := by
  unfold P_X11_medians at h ⊢
  refine N_X11_isIn h (fun r6 h => ?_)
  refine ⟨fun hc => ?_, fun hc => ?_⟩
  · replace h := h.1 hc
    refine N_X11_lays h (fun v15 h => ?_)
    intro K71 hKK71
    refine n_cut (h K71) ?_ ?_
    · intro i3 i4 i5 h
      refine hKK71 i3 i4 i5 ?_
      refine ⟨fun hc => ?_, fun hc => ?_⟩
      · replace h := h.1 hc
        refine ⟨fun hc => ?_, fun hc => ?_⟩
        · replace h := h.1 hc
          refine ⟨fun hc => ?_, fun hc => ?_⟩
          · replace h := h.1 hc
            exact hq _ _ h
          · replace h := h.2 hc
            exact hq _ _ h
        · replace h := h.2 hc
          exact hq _ _ h
      · replace h := h.2 hc
        exact hq _ _ h
    · intro h
      intro X27 hKX27
      refine n_cut (h X27) ?_ ?_
      · intro i3_1 h
        refine hKX27 i3_1 ?_
        refine ⟨fun hc => ?_, fun hc => ?_⟩
        · replace h := h.1 hc
          refine ⟨fun hc => ?_, fun hc => ?_⟩
          · replace h := h.1 hc
            exact hq _ _ h
          · replace h := h.2 hc
            exact hq _ _ h
        · replace h := h.2 hc
          obtain ⟨ho1, h⟩ := h
          refine ⟨ho1, ?_⟩
          intro X37 hKX37
          refine n_cut (h X37) ?_ ?_
          · intro i4_1 h
            refine hKX37 i4_1 ?_
            refine ⟨fun hc => ?_, fun hc => ?_⟩
            · replace h := h.1 hc
              obtain ⟨ho2, h⟩ := h
              refine ⟨ho2, ?_⟩
              exact h
            · replace h := h.2 hc
              obtain ⟨ho3, h⟩ := h
              refine ⟨ho3, ?_⟩
              intro X49 hKX49
              refine n_cut (h X49) ?_ ?_
              · intro i5_1 h
                refine hKX49 i5_1 ?_
                refine ⟨fun hc => ?_, fun hc => ?_⟩
                · replace h := h.1 hc
                  obtain ⟨ho4, h⟩ := h
                  refine ⟨ho4, ?_⟩
                  exact h
                · replace h := h.2 hc
                  refine N_X11_medianOf h (fun r61 h => ?_)
                  refine N_X11_count h (fun r64 h => ?_)
                  refine ⟨fun hc => ?_, fun hc => ?_⟩
                  · replace h := h.1 hc
                    obtain ⟨ho5, h⟩ := h
                    refine ⟨ho5, ?_⟩
                    exact h
                  · replace h := h.2 hc
                    exact h
              · intro h
                exact h
          · intro h
            exact h
      · intro h
        exact h
  · replace h := h.2 hc
    exact hq _ _ h
theorem F_X11_medians {x1 : Int} {v : VT} {q : Int → VT → Prop} (h : P_X11_medians x1 v q) : P_X11_medians x1 v (fun r w => q r w ∧ ∀ a, ¬ (a = 218 ∨ (224 ≤ a ∧ a ≤ 229)) → w a = v a) := by
  unfold P_X11_medians at h ⊢
  have hf : ∀ a, ¬ (a = 218 ∨ (224 ≤ a ∧ a ≤ 229)) → v a = v a := fun a _ => rfl
  refine N_X11_isIn h (fun r6 h => ?_)
  refine ⟨fun hc => ?_, fun hc => ?_⟩
  · replace h := h.1 hc
    refine N_X11_lays (F_X11_lays h) (fun v15 h => ?_)
    obtain ⟨h, hg⟩ := h
    replace hf : ∀ a, ¬ (a = 218 ∨ (224 ≤ a ∧ a ≤ 229)) → v15 a = v a := fun a ha => by rw [hg a (by omega), hf a ha]
    clear hg
    intro K71 hKK71
    refine n_cut (h K71) ?_ ?_
    · intro i3 i4 i5 h
      refine hKK71 i3 i4 i5 ?_
      refine ⟨fun hc => ?_, fun hc => ?_⟩
      · replace h := h.1 hc
        refine ⟨fun hc => ?_, fun hc => ?_⟩
        · replace h := h.1 hc
          refine ⟨fun hc => ?_, fun hc => ?_⟩
          · replace h := h.1 hc
            exact ⟨h, hf⟩
          · replace h := h.2 hc
            exact ⟨h, hf⟩
        · replace h := h.2 hc
          exact ⟨h, hf⟩
      · replace h := h.2 hc
        exact ⟨h, hf⟩
    · intro h
      intro X27 hKX27
      refine n_cut (h X27) ?_ ?_
      · intro i3_1 h
        refine hKX27 i3_1 ?_
        refine ⟨fun hc => ?_, fun hc => ?_⟩
        · replace h := h.1 hc
          refine ⟨fun hc => ?_, fun hc => ?_⟩
          · replace h := h.1 hc
            exact ⟨h, hf⟩
          · replace h := h.2 hc
            exact ⟨h, hf⟩
        · replace h := h.2 hc
          obtain ⟨ho1, h⟩ := h
          refine ⟨ho1, ?_⟩
          intro X37 hKX37
          refine n_cut (h X37) ?_ ?_
          · intro i4_1 h
            refine hKX37 i4_1 ?_
            refine ⟨fun hc => ?_, fun hc => ?_⟩
            · replace h := h.1 hc
              obtain ⟨ho2, h⟩ := h
              refine ⟨ho2, ?_⟩
              exact h
            · replace h := h.2 hc
              obtain ⟨ho3, h⟩ := h
              refine ⟨ho3, ?_⟩
              intro X49 hKX49
              refine n_cut (h X49) ?_ ?_
              · intro i5_1 h
                refine hKX49 i5_1 ?_
                refine ⟨fun hc => ?_, fun hc => ?_⟩
                · replace h := h.1 hc
                  obtain ⟨ho4, h⟩ := h
                  refine ⟨ho4, ?_⟩
                  exact h
                · replace h := h.2 hc
                  refine N_X11_medianOf h (fun r61 h => ?_)
                  refine N_X11_count h (fun r64 h => ?_)
                  refine ⟨fun hc => ?_, fun hc => ?_⟩
                  · replace h := h.1 hc
                    obtain ⟨ho5, h⟩ := h
                    refine ⟨ho5, ?_⟩
                    exact h
                  · replace h := h.2 hc
                    exact h
              · intro h
                exact h
          · intro h
            exact h
      · intro h
        exact h
  · replace h := h.2 hc
    exact ⟨h, hf⟩
theorem N_X11_vote  {v : VT} {q q' : Int → VT → Prop} (h : P_X11_vote  v q) (hq : ∀ r w, q r w → q' r w) : P_X11_vote  v q' := by
  unfold P_X11_vote at h ⊢
  intro v7 ev7
  replace h := h v7 ev7
  refine N_X11_isIn h (fun r16 h => ?_)
  intro K48 hKK48
  refine n_cut (h K48) ?_ ?_
  · intro i2 h
    refine hKK48 i2 ?_
    refine ⟨fun hc => ?_, fun hc => ?_⟩
    · replace h := h.1 hc
      intro X60 hKX60
      refine n_cut (h X60) ?_ ?_
      · intro i3 v60 h
        refine hKX60 i3 v60 ?_
        refine ⟨fun hc => ?_, fun hc => ?_⟩
        · replace h := h.1 hc
          intro v85 ev85
          replace h := h v85 ev85
          exact hq _ _ h
        · replace h := h.2 hc
          obtain ⟨ho1, h⟩ := h
          refine ⟨ho1, ?_⟩
          obtain ⟨ho2, h⟩ := h
          refine ⟨ho2, ?_⟩
          intro v76 ev76
          replace h := h v76 ev76
          obtain ⟨ho3, h⟩ := h
          refine ⟨ho3, ?_⟩
          exact h
      · intro h
        exact h
    · replace h := h.2 hc
      refine N_X11_refuses h (fun r54 v54 h => ?_)
      exact hq _ _ h
  · intro h
    intro X22 hKX22
    refine n_cut (h X22) ?_ ?_
    · intro i2_1 i3_1 h
      refine hKX22 i2_1 i3_1 ?_
      refine ⟨fun hc => ?_, fun hc => ?_⟩
      · replace h := h.1 hc
        exact h
      · replace h := h.2 hc
        refine ⟨fun hc => ?_, fun hc => ?_⟩
        · replace h := h.1 hc
          exact h
        · replace h := h.2 hc
          obtain ⟨ho4, h⟩ := h
          refine ⟨ho4, ?_⟩
          refine N_X11_isNode h (fun r38 h => ?_)
          obtain ⟨ho5, h⟩ := h
          refine ⟨ho5, ?_⟩
          exact h
    · intro h
      exact h
theorem F_X11_vote  {v : VT} {q : Int → VT → Prop} (h : P_X11_vote  v q) : P_X11_vote  v (fun r w => q r w ∧ ∀ a, ¬ (a = 218 ∨ a = 220 ∨ a = 236) → w a = v a) := by
  unfold P_X11_vote at h ⊢
  have hf : ∀ a, ¬ (a = 218 ∨ a = 220 ∨ a = 236) → v a = v a := fun a _ => rfl
  intro v7 ev7
  replace h := h v7 ev7
  replace hf : ∀ a, ¬ (a = 218 ∨ a = 220 ∨ a = 236) → v7 a = v a := fun a ha => by rw [ev7, upd2_off _ _ _ (by omega), hf a ha]
  refine N_X11_isIn h (fun r16 h => ?_)
  intro K48 hKK48
  refine n_cut (h K48) ?_ ?_
  · intro i2 h
    refine hKK48 i2 ?_
    refine ⟨fun hc => ?_, fun hc => ?_⟩
    · replace h := h.1 hc
      intro X60 hKX60
      refine n_cut (h (fun (i3 : Int) (v60 : VT) => (∀ a, ¬ (a = 218 ∨ a = 220 ∨ a = 236) → v60 a = v a) → X60 i3 v60)) ?_ ?_
      · intro i3 v60 h hf
        refine hKX60 i3 v60 ?_
        refine ⟨fun hc => ?_, fun hc => ?_⟩
        · replace h := h.1 hc
          intro v85 ev85
          replace h := h v85 ev85
          replace hf : ∀ a, ¬ (a = 218 ∨ a = 220 ∨ a = 236) → v85 a = v a := fun a ha => by rw [ev85, upd2_off _ _ _ (by omega), hf a ha]
          exact ⟨h, hf⟩
        · replace h := h.2 hc
          obtain ⟨ho1, h⟩ := h
          refine ⟨ho1, ?_⟩
          obtain ⟨ho2, h⟩ := h
          refine ⟨ho2, ?_⟩
          intro v76 ev76
          replace h := h v76 ev76
          replace hf : ∀ a, ¬ (a = 218 ∨ a = 220 ∨ a = 236) → v76 a = v a := fun a ha => by rw [ev76, upd2_off _ _ _ (by omega), hf a ha]
          obtain ⟨ho3, h⟩ := h
          refine ⟨ho3, ?_⟩
          exact h hf
      · intro h
        exact h hf
    · replace h := h.2 hc
      refine N_X11_refuses (F_X11_refuses h) (fun r54 v54 h => ?_)
      obtain ⟨h, hg⟩ := h
      replace hf : ∀ a, ¬ (a = 218 ∨ a = 220 ∨ a = 236) → v54 a = v a := fun a ha => by rw [hg a (by omega), hf a ha]
      clear hg
      exact ⟨h, hf⟩
  · intro h
    intro X22 hKX22
    refine n_cut (h X22) ?_ ?_
    · intro i2_1 i3_1 h
      refine hKX22 i2_1 i3_1 ?_
      refine ⟨fun hc => ?_, fun hc => ?_⟩
      · replace h := h.1 hc
        exact h
      · replace h := h.2 hc
        refine ⟨fun hc => ?_, fun hc => ?_⟩
        · replace h := h.1 hc
          exact h
        · replace h := h.2 hc
          obtain ⟨ho4, h⟩ := h
          refine ⟨ho4, ?_⟩
          refine N_X11_isNode h (fun r38 h => ?_)
          obtain ⟨ho5, h⟩ := h
          refine ⟨ho5, ?_⟩
          exact h
    · intro h
      exact h
theorem N_X11_canVote  {v : VT} {q q' : Int → VT → Prop} (h : P_X11_canVote  v q) (hq : ∀ r w, q r w → q' r w) : P_X11_canVote  v q' := by
  unfold P_X11_canVote at h ⊢
  intro K31 hKK31
  refine n_cut (h K31) ?_ ?_
  · intro h
    refine hKK31  ?_
    refine ⟨fun hc => ?_, fun hc => ?_⟩
    · replace h := h.1 hc
      exact hq _ _ h
    · replace h := h.2 hc
      refine N_X11_isWhole h (fun r39 v39 h => ?_)
      refine ⟨fun hc => ?_, fun hc => ?_⟩
      · replace h := h.1 hc
        exact hq _ _ h
      · replace h := h.2 hc
        exact hq _ _ h
  · intro h
    intro X2 hKX2
    refine n_cut (h X2) ?_ ?_
    · intro i1 h
      refine hKX2 i1 ?_
      refine ⟨fun hc => ?_, fun hc => ?_⟩
      · replace h := h.1 hc
        exact h
      · replace h := h.2 hc
        obtain ⟨ho1, h⟩ := h
        refine ⟨ho1, ?_⟩
        refine N_X11_isNode h (fun r17 h => ?_)
        refine ⟨fun hc => ?_, fun hc => ?_⟩
        · replace h := h.1 hc
          obtain ⟨ho2, h⟩ := h
          refine ⟨ho2, ?_⟩
          exact h
        · replace h := h.2 hc
          exact hq _ _ h
    · intro h
      exact h
theorem F_X11_canVote  {v : VT} {q : Int → VT → Prop} (h : P_X11_canVote  v q) : P_X11_canVote  v (fun r w => q r w ∧ ∀ a, ¬ (a = 218 ∨ (224 ≤ a ∧ a ≤ 229)) → w a = v a) := by
  unfold P_X11_canVote at h ⊢
  have hf : ∀ a, ¬ (a = 218 ∨ (224 ≤ a ∧ a ≤ 229)) → v a = v a := fun a _ => rfl
  intro K31 hKK31
  refine n_cut (h K31) ?_ ?_
  · intro h
    refine hKK31  ?_
    refine ⟨fun hc => ?_, fun hc => ?_⟩
    · replace h := h.1 hc
      exact ⟨h, hf⟩
    · replace h := h.2 hc
      refine N_X11_isWhole (F_X11_isWhole h) (fun r39 v39 h => ?_)
      obtain ⟨h, hg⟩ := h
      replace hf : ∀ a, ¬ (a = 218 ∨ (224 ≤ a ∧ a ≤ 229)) → v39 a = v a := fun a ha => by rw [hg a (by omega), hf a ha]
      clear hg
      refine ⟨fun hc => ?_, fun hc => ?_⟩
      · replace h := h.1 hc
        exact ⟨h, hf⟩
      · replace h := h.2 hc
        exact ⟨h, hf⟩
  · intro h
    intro X2 hKX2
    refine n_cut (h X2) ?_ ?_
    · intro i1 h
      refine hKX2 i1 ?_
      refine ⟨fun hc => ?_, fun hc => ?_⟩
      · replace h := h.1 hc
        exact h
      · replace h := h.2 hc
        obtain ⟨ho1, h⟩ := h
        refine ⟨ho1, ?_⟩
        refine N_X11_isNode h (fun r17 h => ?_)
        refine ⟨fun hc => ?_, fun hc => ?_⟩
        · replace h := h.1 hc
          obtain ⟨ho2, h⟩ := h
          refine ⟨ho2, ?_⟩
          exact h
        · replace h := h.2 hc
          exact ⟨h, hf⟩
    · intro h
      exact h
theorem N_X11_farFromVotes {x1 : Int} {v : VT} {q q' : Int → Prop} (h : P_X11_farFromVotes x1 v q) (hq : ∀ r, q r → q' r) : P_X11_farFromVotes x1 v q' := by
  unfold P_X11_farFromVotes at h ⊢
  intro X4 hKX4
  refine n_cut (h X4) ?_ ?_
  · intro i2 i3 h
    refine hKX4 i2 i3 ?_
    refine ⟨fun hc => ?_, fun hc => ?_⟩
    · replace h := h.1 hc
      exact hq _ h
    · replace h := h.2 hc
      obtain ⟨ho1, h⟩ := h
      refine ⟨ho1, ?_⟩
      refine N_X11_farOf h (fun r21 h => ?_)
      obtain ⟨ho2, h⟩ := h
      refine ⟨ho2, ?_⟩
      obtain ⟨ho3, h⟩ := h
      refine ⟨ho3, ?_⟩
      exact h
  · intro h
    exact h
theorem N_X11_majority  {v : VT} {q q' : Int → Prop} (h : P_X11_majority  v q) (hq : ∀ r, q r → q' r) : P_X11_majority  v q' := by
  unfold P_X11_majority at h ⊢
  intro X4 hKX4
  refine n_cut (h X4) ?_ ?_
  · intro i1 i2 h
    refine hKX4 i1 i2 ?_
    refine ⟨fun hc => ?_, fun hc => ?_⟩
    · replace h := h.1 hc
      refine N_X11_nodeAt h (fun r75 h => ?_)
      exact hq _ h
    · replace h := h.2 hc
      intro K51 hKK51
      refine n_cut (h K51) ?_ ?_
      · intro i3 h
        refine hKK51 i3 ?_
        obtain ⟨ho1, h⟩ := h
        refine ⟨ho1, ?_⟩
        refine ⟨fun hc => ?_, fun hc => ?_⟩
        · replace h := h.1 hc
          obtain ⟨ho2, h⟩ := h
          refine ⟨ho2, ?_⟩
          exact h
        · replace h := h.2 hc
          intro l1 el1
          replace h := h l1 el1
          obtain ⟨ho3, h⟩ := h
          refine ⟨ho3, ?_⟩
          exact h
      · intro h
        intro X17 hKX17
        refine n_cut (h X17) ?_ ?_
        · intro i3_1 i4 h
          refine hKX17 i3_1 i4 ?_
          refine ⟨fun hc => ?_, fun hc => ?_⟩
          · replace h := h.1 hc
            exact h
          · replace h := h.2 hc
            obtain ⟨ho4, h⟩ := h
            refine ⟨ho4, ?_⟩
            obtain ⟨ho5, h⟩ := h
            refine ⟨ho5, ?_⟩
            obtain ⟨ho6, h⟩ := h
            refine ⟨ho6, ?_⟩
            intro l3 el3
            replace h := h l3 el3
            obtain ⟨ho7, h⟩ := h
            refine ⟨ho7, ?_⟩
            exact h
        · intro h
          exact h
  · intro h
    exact h
theorem N_X11_winner {x1 : Int} {v : VT} {q q' : Int → VT → Prop} (h : P_X11_winner x1 v q) (hq : ∀ r w, q r w → q' r w) : P_X11_winner x1 v q' := by
  unfold P_X11_winner at h ⊢
  refine N_X11_isIn h (fun r6 h => ?_)
  refine ⟨fun hc => ?_, fun hc => ?_⟩
  · replace h := h.1 hc
    exact hq _ _ h
  · replace h := h.2 hc
    refine N_X11_canVote h (fun r13 v13 h => ?_)
    refine ⟨fun hc => ?_, fun hc => ?_⟩
    · replace h := h.1 hc
      refine ⟨fun hc => ?_, fun hc => ?_⟩
      · replace h := h.1 hc
        intro X46 hKX46
        refine n_cut (h X46) ?_ ?_
        · intro i2 i3 h
          refine hKX46 i2 i3 ?_
          refine ⟨fun hc => ?_, fun hc => ?_⟩
          · replace h := h.1 hc
            refine ⟨fun hc => ?_, fun hc => ?_⟩
            · replace h := h.1 hc
              refine N_X11_farFromVotes h (fun r87 h => ?_)
              exact hq _ _ h
            · replace h := h.2 hc
              exact hq _ _ h
          · replace h := h.2 hc
            refine N_X11_farFromVotes h (fun r58 h => ?_)
            refine N_X11_farFromVotes h (fun r63 h => ?_)
            refine ⟨fun hc => ?_, fun hc => ?_⟩
            · replace h := h.1 hc
              obtain ⟨ho1, h⟩ := h
              refine ⟨ho1, ?_⟩
              exact h
            · replace h := h.2 hc
              obtain ⟨ho2, h⟩ := h
              refine ⟨ho2, ?_⟩
              exact h
        · intro h
          exact h
      · replace h := h.2 hc
        refine N_X11_sits h (fun r27 v27 h => ?_)
        refine ⟨fun hc => ?_, fun hc => ?_⟩
        · replace h := h.1 hc
          exact hq _ _ h
        · replace h := h.2 hc
          refine N_X11_majority h (fun r34 h => ?_)
          exact hq _ _ h
    · replace h := h.2 hc
      exact hq _ _ h
theorem F_X11_winner {x1 : Int} {v : VT} {q : Int → VT → Prop} (h : P_X11_winner x1 v q) : P_X11_winner x1 v (fun r w => q r w ∧ ∀ a, ¬ (a = 218 ∨ (224 ≤ a ∧ a ≤ 229)) → w a = v a) := by
  unfold P_X11_winner at h ⊢
  have hf : ∀ a, ¬ (a = 218 ∨ (224 ≤ a ∧ a ≤ 229)) → v a = v a := fun a _ => rfl
  refine N_X11_isIn h (fun r6 h => ?_)
  refine ⟨fun hc => ?_, fun hc => ?_⟩
  · replace h := h.1 hc
    exact ⟨h, hf⟩
  · replace h := h.2 hc
    refine N_X11_canVote (F_X11_canVote h) (fun r13 v13 h => ?_)
    obtain ⟨h, hg⟩ := h
    replace hf : ∀ a, ¬ (a = 218 ∨ (224 ≤ a ∧ a ≤ 229)) → v13 a = v a := fun a ha => by rw [hg a (by omega), hf a ha]
    clear hg
    refine ⟨fun hc => ?_, fun hc => ?_⟩
    · replace h := h.1 hc
      refine ⟨fun hc => ?_, fun hc => ?_⟩
      · replace h := h.1 hc
        intro X46 hKX46
        refine n_cut (h X46) ?_ ?_
        · intro i2 i3 h
          refine hKX46 i2 i3 ?_
          refine ⟨fun hc => ?_, fun hc => ?_⟩
          · replace h := h.1 hc
            refine ⟨fun hc => ?_, fun hc => ?_⟩
            · replace h := h.1 hc
              refine N_X11_farFromVotes h (fun r87 h => ?_)
              exact ⟨h, hf⟩
            · replace h := h.2 hc
              exact ⟨h, hf⟩
          · replace h := h.2 hc
            refine N_X11_farFromVotes h (fun r58 h => ?_)
            refine N_X11_farFromVotes h (fun r63 h => ?_)
            refine ⟨fun hc => ?_, fun hc => ?_⟩
            · replace h := h.1 hc
              obtain ⟨ho1, h⟩ := h
              refine ⟨ho1, ?_⟩
              exact h
            · replace h := h.2 hc
              obtain ⟨ho2, h⟩ := h
              refine ⟨ho2, ?_⟩
              exact h
        · intro h
          exact h
      · replace h := h.2 hc
        refine N_X11_sits (F_X11_sits h) (fun r27 v27 h => ?_)
        obtain ⟨h, hg⟩ := h
        replace hf : ∀ a, ¬ (a = 218 ∨ (224 ≤ a ∧ a ≤ 229)) → v27 a = v a := fun a ha => by rw [hg a (by omega), hf a ha]
        clear hg
        refine ⟨fun hc => ?_, fun hc => ?_⟩
        · replace h := h.1 hc
          exact ⟨h, hf⟩
        · replace h := h.2 hc
          refine N_X11_majority h (fun r34 h => ?_)
          exact ⟨h, hf⟩
    · replace h := h.2 hc
      exact ⟨h, hf⟩
theorem N_X11_isSet {x1 : Int} {v : VT} {q q' : Int → VT → Prop} (h : P_X11_isSet x1 v q) (hq : ∀ r w, q r w → q' r w) : P_X11_isSet x1 v q' := by
  unfold P_X11_isSet at h ⊢
  refine ⟨fun hc => ?_, fun hc => ?_⟩
  · replace h := h.1 hc
    exact hq _ _ h
  · replace h := h.2 hc
    refine N_X11_all h (fun r6 h => ?_)
    refine ⟨fun hc => ?_, fun hc => ?_⟩
    · replace h := h.1 hc
      exact hq _ _ h
    · replace h := h.2 hc
      refine N_X11_isWhole h (fun r16 v16 h => ?_)
      refine ⟨fun hc => ?_, fun hc => ?_⟩
      · replace h := h.1 hc
        exact hq _ _ h
      · replace h := h.2 hc
        exact hq _ _ h
theorem F_X11_isSet {x1 : Int} {v : VT} {q : Int → VT → Prop} (h : P_X11_isSet x1 v q) : P_X11_isSet x1 v (fun r w => q r w ∧ ∀ a, ¬ (a = 218 ∨ (224 ≤ a ∧ a ≤ 229)) → w a = v a) := by
  unfold P_X11_isSet at h ⊢
  have hf : ∀ a, ¬ (a = 218 ∨ (224 ≤ a ∧ a ≤ 229)) → v a = v a := fun a _ => rfl
  refine ⟨fun hc => ?_, fun hc => ?_⟩
  · replace h := h.1 hc
    exact ⟨h, hf⟩
  · replace h := h.2 hc
    refine N_X11_all h (fun r6 h => ?_)
    refine ⟨fun hc => ?_, fun hc => ?_⟩
    · replace h := h.1 hc
      exact ⟨h, hf⟩
    · replace h := h.2 hc
      refine N_X11_isWhole (F_X11_isWhole h) (fun r16 v16 h => ?_)
      obtain ⟨h, hg⟩ := h
      replace hf : ∀ a, ¬ (a = 218 ∨ (224 ≤ a ∧ a ≤ 229)) → v16 a = v a := fun a ha => by rw [hg a (by omega), hf a ha]
      clear hg
      refine ⟨fun hc => ?_, fun hc => ?_⟩
      · replace h := h.1 hc
        exact ⟨h, hf⟩
      · replace h := h.2 hc
        exact ⟨h, hf⟩
theorem N_X11_isTrue {x1 : Int} {v : VT} {q q' : Int → VT → Prop} (h : P_X11_isTrue x1 v q) (hq : ∀ r w, q r w → q' r w) : P_X11_isTrue x1 v q' := by
  unfold P_X11_isTrue at h ⊢
  intro K91 hKK91
  refine n_cut (h K91) ?_ ?_
  · intro v91 h
    refine hKK91 v91 ?_
    intro K194 hKK194
    refine n_cut (h K194) ?_ ?_
    · intro v194 h
      refine hKK194 v194 ?_
      intro X196 hKX196
      refine n_cut (h X196) ?_ ?_
      · intro i3 h
        refine hKX196 i3 ?_
        refine ⟨fun hc => ?_, fun hc => ?_⟩
        · replace h := h.1 hc
          exact hq _ _ h
        · replace h := h.2 hc
          intro X204 hKX204
          refine n_cut (h X204) ?_ ?_
          · intro i4 h
            refine hKX204 i4 ?_
            refine ⟨fun hc => ?_, fun hc => ?_⟩
            · replace h := h.1 hc
              obtain ⟨ho1, h⟩ := h
              refine ⟨ho1, ?_⟩
              exact h
            · replace h := h.2 hc
              refine N_X11_isOf h (fun r212 h => ?_)
              refine ⟨fun hc => ?_, fun hc => ?_⟩
              · replace h := h.1 hc
                obtain ⟨ho2, h⟩ := h
                refine ⟨ho2, ?_⟩
                exact h
              · replace h := h.2 hc
                refine N_X11_isOf h (fun r221 h => ?_)
                refine ⟨fun hc => ?_, fun hc => ?_⟩
                · replace h := h.1 hc
                  obtain ⟨ho3, h⟩ := h
                  refine ⟨ho3, ?_⟩
                  exact h
                · replace h := h.2 hc
                  obtain ⟨ho4, h⟩ := h
                  refine ⟨ho4, ?_⟩
                  obtain ⟨ho5, h⟩ := h
                  refine ⟨ho5, ?_⟩
                  obtain ⟨ho6, h⟩ := h
                  refine ⟨ho6, ?_⟩
                  refine N_X11_farOf h (fun r243 h => ?_)
                  refine ⟨fun hc => ?_, fun hc => ?_⟩
                  · replace h := h.1 hc
                    obtain ⟨ho7, h⟩ := h
                    refine ⟨ho7, ?_⟩
                    exact h
                  · replace h := h.2 hc
                    exact hq _ _ h
          · intro h
            exact h
      · intro h
        exact h
    · intro h
      intro X93 hKX93
      refine n_cut (h X93) ?_ ?_
      · intro i3_1 v93 h
        refine hKX93 i3_1 v93 ?_
        refine ⟨fun hc => ?_, fun hc => ?_⟩
        · replace h := h.1 hc
          exact h
        · replace h := h.2 hc
          intro X101 hKX101
          refine n_cut (h X101) ?_ ?_
          · intro i4_1 v101 h
            refine hKX101 i4_1 v101 ?_
            refine ⟨fun hc => ?_, fun hc => ?_⟩
            · replace h := h.1 hc
              obtain ⟨ho8, h⟩ := h
              refine ⟨ho8, ?_⟩
              exact h
            · replace h := h.2 hc
              intro X110 hKX110
              refine n_cut (h X110) ?_ ?_
              · intro i5 v110 h
                refine hKX110 i5 v110 ?_
                refine ⟨fun hc => ?_, fun hc => ?_⟩
                · replace h := h.1 hc
                  obtain ⟨ho9, h⟩ := h
                  refine ⟨ho9, ?_⟩
                  exact h
                · replace h := h.2 hc
                  obtain ⟨ho10, h⟩ := h
                  refine ⟨ho10, ?_⟩
                  obtain ⟨ho11, h⟩ := h
                  refine ⟨ho11, ?_⟩
                  obtain ⟨ho12, h⟩ := h
                  refine ⟨ho12, ?_⟩
                  obtain ⟨ho13, h⟩ := h
                  refine ⟨ho13, ?_⟩
                  obtain ⟨ho14, h⟩ := h
                  refine ⟨ho14, ?_⟩
                  obtain ⟨ho15, h⟩ := h
                  refine ⟨ho15, ?_⟩
                  obtain ⟨ho16, h⟩ := h
                  refine ⟨ho16, ?_⟩
                  intro l6 el6
                  replace h := h l6 el6
                  obtain ⟨ho17, h⟩ := h
                  refine ⟨ho17, ?_⟩
                  obtain ⟨ho18, h⟩ := h
                  refine ⟨ho18, ?_⟩
                  obtain ⟨ho19, h⟩ := h
                  refine ⟨ho19, ?_⟩
                  refine ⟨fun hc => ?_, fun hc => ?_⟩
                  · replace h := h.1 hc
                    obtain ⟨ho20, h⟩ := h
                    refine ⟨ho20, ?_⟩
                    exact h
                  · replace h := h.2 hc
                    obtain ⟨ho21, h⟩ := h
                    refine ⟨ho21, ?_⟩
                    obtain ⟨ho22, h⟩ := h
                    refine ⟨ho22, ?_⟩
                    obtain ⟨ho23, h⟩ := h
                    refine ⟨ho23, ?_⟩
                    intro v175 ev175
                    replace h := h v175 ev175
                    obtain ⟨ho24, h⟩ := h
                    refine ⟨ho24, ?_⟩
                    exact h
              · intro h
                exact h
          · intro h
            exact h
      · intro h
        exact h
  · intro h
    intro X9 hKX9
    refine n_cut (h X9) ?_ ?_
    · intro i3_2 v9 h
      refine hKX9 i3_2 v9 ?_
      refine ⟨fun hc => ?_, fun hc => ?_⟩
      · replace h := h.1 hc
        exact h
      · replace h := h.2 hc
        intro X17 hKX17
        refine n_cut (h X17) ?_ ?_
        · intro i4_2 v17 h
          refine hKX17 i4_2 v17 ?_
          refine ⟨fun hc => ?_, fun hc => ?_⟩
          · replace h := h.1 hc
            obtain ⟨ho25, h⟩ := h
            refine ⟨ho25, ?_⟩
            exact h
          · replace h := h.2 hc
            obtain ⟨ho26, h⟩ := h
            refine ⟨ho26, ?_⟩
            obtain ⟨ho27, h⟩ := h
            refine ⟨ho27, ?_⟩
            refine ⟨fun hc => ?_, fun hc => ?_⟩
            · replace h := h.1 hc
              refine N_X11_farOf h (fun r48 h => ?_)
              refine ⟨fun hc => ?_, fun hc => ?_⟩
              · replace h := h.1 hc
                obtain ⟨ho28, h⟩ := h
                refine ⟨ho28, ?_⟩
                intro v78 ev78
                replace h := h v78 ev78
                obtain ⟨ho29, h⟩ := h
                refine ⟨ho29, ?_⟩
                exact h
              · replace h := h.2 hc
                refine N_X11_isOf h (fun r57 h => ?_)
                refine ⟨fun hc => ?_, fun hc => ?_⟩
                · replace h := h.1 hc
                  obtain ⟨ho30, h⟩ := h
                  refine ⟨ho30, ?_⟩
                  intro v78_1 ev78_1
                  replace h := h v78_1 ev78_1
                  obtain ⟨ho31, h⟩ := h
                  refine ⟨ho31, ?_⟩
                  exact h
                · replace h := h.2 hc
                  refine N_X11_isOf h (fun r66 h => ?_)
                  refine ⟨fun hc => ?_, fun hc => ?_⟩
                  · replace h := h.1 hc
                    obtain ⟨ho32, h⟩ := h
                    refine ⟨ho32, ?_⟩
                    intro v78_2 ev78_2
                    replace h := h v78_2 ev78_2
                    obtain ⟨ho33, h⟩ := h
                    refine ⟨ho33, ?_⟩
                    exact h
                  · replace h := h.2 hc
                    obtain ⟨ho34, h⟩ := h
                    refine ⟨ho34, ?_⟩
                    intro v78_3 ev78_3
                    replace h := h v78_3 ev78_3
                    obtain ⟨ho35, h⟩ := h
                    refine ⟨ho35, ?_⟩
                    exact h
            · replace h := h.2 hc
              obtain ⟨ho36, h⟩ := h
              refine ⟨ho36, ?_⟩
              intro v78_4 ev78_4
              replace h := h v78_4 ev78_4
              obtain ⟨ho37, h⟩ := h
              refine ⟨ho37, ?_⟩
              exact h
        · intro h
          exact h
    · intro h
      exact h
theorem F_X11_isTrue {x1 : Int} {v : VT} {q : Int → VT → Prop} (h : P_X11_isTrue x1 v q) : P_X11_isTrue x1 v (fun r w => q r w ∧ ∀ a, ¬ (a = 237) → w a = v a) := by
  unfold P_X11_isTrue at h ⊢
  have hf : ∀ a, ¬ (a = 237) → v a = v a := fun a _ => rfl
  intro K91 hKK91
  refine n_cut (h (fun (v91 : VT) => (∀ a, ¬ (a = 237) → v91 a = v a) → K91 v91)) ?_ ?_
  · intro v91 h hf
    refine hKK91 v91 ?_
    intro K194 hKK194
    refine n_cut (h (fun (v194 : VT) => (∀ a, ¬ (a = 237) → v194 a = v a) → K194 v194)) ?_ ?_
    · intro v194 h hf
      refine hKK194 v194 ?_
      intro X196 hKX196
      refine n_cut (h X196) ?_ ?_
      · intro i3 h
        refine hKX196 i3 ?_
        refine ⟨fun hc => ?_, fun hc => ?_⟩
        · replace h := h.1 hc
          exact ⟨h, hf⟩
        · replace h := h.2 hc
          intro X204 hKX204
          refine n_cut (h X204) ?_ ?_
          · intro i4 h
            refine hKX204 i4 ?_
            refine ⟨fun hc => ?_, fun hc => ?_⟩
            · replace h := h.1 hc
              obtain ⟨ho1, h⟩ := h
              refine ⟨ho1, ?_⟩
              exact h
            · replace h := h.2 hc
              refine N_X11_isOf h (fun r212 h => ?_)
              refine ⟨fun hc => ?_, fun hc => ?_⟩
              · replace h := h.1 hc
                obtain ⟨ho2, h⟩ := h
                refine ⟨ho2, ?_⟩
                exact h
              · replace h := h.2 hc
                refine N_X11_isOf h (fun r221 h => ?_)
                refine ⟨fun hc => ?_, fun hc => ?_⟩
                · replace h := h.1 hc
                  obtain ⟨ho3, h⟩ := h
                  refine ⟨ho3, ?_⟩
                  exact h
                · replace h := h.2 hc
                  obtain ⟨ho4, h⟩ := h
                  refine ⟨ho4, ?_⟩
                  obtain ⟨ho5, h⟩ := h
                  refine ⟨ho5, ?_⟩
                  obtain ⟨ho6, h⟩ := h
                  refine ⟨ho6, ?_⟩
                  refine N_X11_farOf h (fun r243 h => ?_)
                  refine ⟨fun hc => ?_, fun hc => ?_⟩
                  · replace h := h.1 hc
                    obtain ⟨ho7, h⟩ := h
                    refine ⟨ho7, ?_⟩
                    exact h
                  · replace h := h.2 hc
                    exact ⟨h, hf⟩
          · intro h
            exact h
      · intro h
        exact h
    · intro h
      intro X93 hKX93
      refine n_cut (h (fun (i3_1 : Int) (v93 : VT) => (∀ a, ¬ (a = 237) → v93 a = v a) → X93 i3_1 v93)) ?_ ?_
      · intro i3_1 v93 h hf
        refine hKX93 i3_1 v93 ?_
        refine ⟨fun hc => ?_, fun hc => ?_⟩
        · replace h := h.1 hc
          exact h hf
        · replace h := h.2 hc
          intro X101 hKX101
          refine n_cut (h (fun (i4_1 : Int) (v101 : VT) => (∀ a, ¬ (a = 237) → v101 a = v a) → X101 i4_1 v101)) ?_ ?_
          · intro i4_1 v101 h hf
            refine hKX101 i4_1 v101 ?_
            refine ⟨fun hc => ?_, fun hc => ?_⟩
            · replace h := h.1 hc
              obtain ⟨ho8, h⟩ := h
              refine ⟨ho8, ?_⟩
              exact h hf
            · replace h := h.2 hc
              intro X110 hKX110
              refine n_cut (h (fun (i5 : Int) (v110 : VT) => (∀ a, ¬ (a = 237) → v110 a = v a) → X110 i5 v110)) ?_ ?_
              · intro i5 v110 h hf
                refine hKX110 i5 v110 ?_
                refine ⟨fun hc => ?_, fun hc => ?_⟩
                · replace h := h.1 hc
                  obtain ⟨ho9, h⟩ := h
                  refine ⟨ho9, ?_⟩
                  exact h hf
                · replace h := h.2 hc
                  obtain ⟨ho10, h⟩ := h
                  refine ⟨ho10, ?_⟩
                  obtain ⟨ho11, h⟩ := h
                  refine ⟨ho11, ?_⟩
                  obtain ⟨ho12, h⟩ := h
                  refine ⟨ho12, ?_⟩
                  obtain ⟨ho13, h⟩ := h
                  refine ⟨ho13, ?_⟩
                  obtain ⟨ho14, h⟩ := h
                  refine ⟨ho14, ?_⟩
                  obtain ⟨ho15, h⟩ := h
                  refine ⟨ho15, ?_⟩
                  obtain ⟨ho16, h⟩ := h
                  refine ⟨ho16, ?_⟩
                  intro l6 el6
                  replace h := h l6 el6
                  obtain ⟨ho17, h⟩ := h
                  refine ⟨ho17, ?_⟩
                  obtain ⟨ho18, h⟩ := h
                  refine ⟨ho18, ?_⟩
                  obtain ⟨ho19, h⟩ := h
                  refine ⟨ho19, ?_⟩
                  refine ⟨fun hc => ?_, fun hc => ?_⟩
                  · replace h := h.1 hc
                    obtain ⟨ho20, h⟩ := h
                    refine ⟨ho20, ?_⟩
                    exact h hf
                  · replace h := h.2 hc
                    obtain ⟨ho21, h⟩ := h
                    refine ⟨ho21, ?_⟩
                    obtain ⟨ho22, h⟩ := h
                    refine ⟨ho22, ?_⟩
                    obtain ⟨ho23, h⟩ := h
                    refine ⟨ho23, ?_⟩
                    intro v175 ev175
                    replace h := h v175 ev175
                    replace hf : ∀ a, ¬ (a = 237) → v175 a = v a := fun a ha => by rw [ev175, upd2_off _ _ _ (by omega), hf a ha]
                    obtain ⟨ho24, h⟩ := h
                    refine ⟨ho24, ?_⟩
                    exact h hf
              · intro h
                exact h hf
          · intro h
            exact h hf
      · intro h
        exact h hf
  · intro h
    intro X9 hKX9
    refine n_cut (h (fun (i3_2 : Int) (v9 : VT) => (∀ a, ¬ (a = 237) → v9 a = v a) → X9 i3_2 v9)) ?_ ?_
    · intro i3_2 v9 h hf
      refine hKX9 i3_2 v9 ?_
      refine ⟨fun hc => ?_, fun hc => ?_⟩
      · replace h := h.1 hc
        exact h hf
      · replace h := h.2 hc
        intro X17 hKX17
        refine n_cut (h (fun (i4_2 : Int) (v17 : VT) => (∀ a, ¬ (a = 237) → v17 a = v a) → X17 i4_2 v17)) ?_ ?_
        · intro i4_2 v17 h hf
          refine hKX17 i4_2 v17 ?_
          refine ⟨fun hc => ?_, fun hc => ?_⟩
          · replace h := h.1 hc
            obtain ⟨ho25, h⟩ := h
            refine ⟨ho25, ?_⟩
            exact h hf
          · replace h := h.2 hc
            obtain ⟨ho26, h⟩ := h
            refine ⟨ho26, ?_⟩
            obtain ⟨ho27, h⟩ := h
            refine ⟨ho27, ?_⟩
            refine ⟨fun hc => ?_, fun hc => ?_⟩
            · replace h := h.1 hc
              refine N_X11_farOf h (fun r48 h => ?_)
              refine ⟨fun hc => ?_, fun hc => ?_⟩
              · replace h := h.1 hc
                obtain ⟨ho28, h⟩ := h
                refine ⟨ho28, ?_⟩
                intro v78 ev78
                replace h := h v78 ev78
                replace hf : ∀ a, ¬ (a = 237) → v78 a = v a := fun a ha => by rw [ev78, upd2_off _ _ _ (by omega), hf a ha]
                obtain ⟨ho29, h⟩ := h
                refine ⟨ho29, ?_⟩
                exact h hf
              · replace h := h.2 hc
                refine N_X11_isOf h (fun r57 h => ?_)
                refine ⟨fun hc => ?_, fun hc => ?_⟩
                · replace h := h.1 hc
                  obtain ⟨ho30, h⟩ := h
                  refine ⟨ho30, ?_⟩
                  intro v78_1 ev78_1
                  replace h := h v78_1 ev78_1
                  replace hf : ∀ a, ¬ (a = 237) → v78_1 a = v a := fun a ha => by rw [ev78_1, upd2_off _ _ _ (by omega), hf a ha]
                  obtain ⟨ho31, h⟩ := h
                  refine ⟨ho31, ?_⟩
                  exact h hf
                · replace h := h.2 hc
                  refine N_X11_isOf h (fun r66 h => ?_)
                  refine ⟨fun hc => ?_, fun hc => ?_⟩
                  · replace h := h.1 hc
                    obtain ⟨ho32, h⟩ := h
                    refine ⟨ho32, ?_⟩
                    intro v78_2 ev78_2
                    replace h := h v78_2 ev78_2
                    replace hf : ∀ a, ¬ (a = 237) → v78_2 a = v a := fun a ha => by rw [ev78_2, upd2_off _ _ _ (by omega), hf a ha]
                    obtain ⟨ho33, h⟩ := h
                    refine ⟨ho33, ?_⟩
                    exact h hf
                  · replace h := h.2 hc
                    obtain ⟨ho34, h⟩ := h
                    refine ⟨ho34, ?_⟩
                    intro v78_3 ev78_3
                    replace h := h v78_3 ev78_3
                    replace hf : ∀ a, ¬ (a = 237) → v78_3 a = v a := fun a ha => by rw [ev78_3, upd2_off _ _ _ (by omega), hf a ha]
                    obtain ⟨ho35, h⟩ := h
                    refine ⟨ho35, ?_⟩
                    exact h hf
            · replace h := h.2 hc
              obtain ⟨ho36, h⟩ := h
              refine ⟨ho36, ?_⟩
              intro v78_4 ev78_4
              replace h := h v78_4 ev78_4
              replace hf : ∀ a, ¬ (a = 237) → v78_4 a = v a := fun a ha => by rw [ev78_4, upd2_off _ _ _ (by omega), hf a ha]
              obtain ⟨ho37, h⟩ := h
              refine ⟨ho37, ?_⟩
              exact h hf
        · intro h
          exact h hf
    · intro h
      exact h hf
theorem N_X11_spread_ {x1 : Int} {v : VT} {q q' : Int → Prop} (h : P_X11_spread_ x1 v q) (hq : ∀ r, q r → q' r) : P_X11_spread_ x1 v q' := by
  unfold P_X11_spread_ at h ⊢
  intro X4 hKX4
  refine n_cut (h X4) ?_ ?_
  · intro i2 i3 h
    refine hKX4 i2 i3 ?_
    refine ⟨fun hc => ?_, fun hc => ?_⟩
    · replace h := h.1 hc
      exact hq _ h
    · replace h := h.2 hc
      obtain ⟨ho1, h⟩ := h
      refine ⟨ho1, ?_⟩
      intro X19 hKX19
      refine n_cut (h X19) ?_ ?_
      · intro i2_1 i4 h
        refine hKX19 i2_1 i4 ?_
        refine ⟨fun hc => ?_, fun hc => ?_⟩
        · replace h := h.1 hc
          obtain ⟨ho2, h⟩ := h
          refine ⟨ho2, ?_⟩
          exact h
        · replace h := h.2 hc
          refine N_X11_isOf h (fun r32 h => ?_)
          refine ⟨fun hc => ?_, fun hc => ?_⟩
          · replace h := h.1 hc
            obtain ⟨ho3, h⟩ := h
            refine ⟨ho3, ?_⟩
            exact h
          · replace h := h.2 hc
            refine N_X11_isOf h (fun r41 h => ?_)
            refine ⟨fun hc => ?_, fun hc => ?_⟩
            · replace h := h.1 hc
              obtain ⟨ho4, h⟩ := h
              refine ⟨ho4, ?_⟩
              exact h
            · replace h := h.2 hc
              refine N_X11_betweenOf h (fun r52 h => ?_)
              intro l2 el2
              replace h := h l2 el2
              obtain ⟨ho5, h⟩ := h
              refine ⟨ho5, ?_⟩
              exact h
      · intro h
        exact h
  · intro h
    exact h
theorem N_X11_set {x1 : Int} {x2 : Int} {v : VT} {q q' : Int → VT → Prop} (h : P_X11_set x1 x2 v q) (hq : ∀ r w, q r w → q' r w) : P_X11_set x1 x2 v q' := by
  unfold P_X11_set at h ⊢
  refine N_X11_isSet h (fun r2 v2 h => ?_)
  refine ⟨fun hc => ?_, fun hc => ?_⟩
  · replace h := h.1 hc
    exact hq _ _ h
  · replace h := h.2 hc
    refine N_X11_isIn h (fun r12 h => ?_)
    refine ⟨fun hc => ?_, fun hc => ?_⟩
    · replace h := h.1 hc
      refine ⟨fun hc => ?_, fun hc => ?_⟩
      · replace h := h.1 hc
        refine N_X11_spread_ h (fun r34 h => ?_)
        refine ⟨fun hc => ?_, fun hc => ?_⟩
        · replace h := h.1 hc
          refine N_X11_flag h (fun r46 h => ?_)
          exact hq _ _ h
        · replace h := h.2 hc
          refine N_X11_flag h (fun r46_1 h => ?_)
          exact hq _ _ h
      · replace h := h.2 hc
        refine N_X11_isTrue h (fun r26 v26 h => ?_)
        refine N_X11_flag h (fun r46_2 h => ?_)
        exact hq _ _ h
    · replace h := h.2 hc
      exact hq _ _ h
theorem F_X11_set {x1 : Int} {x2 : Int} {v : VT} {q : Int → VT → Prop} (h : P_X11_set x1 x2 v q) : P_X11_set x1 x2 v (fun r w => q r w ∧ ∀ a, ¬ (a = 218 ∨ (224 ≤ a ∧ a ≤ 229) ∨ a = 237) → w a = v a) := by
  unfold P_X11_set at h ⊢
  have hf : ∀ a, ¬ (a = 218 ∨ (224 ≤ a ∧ a ≤ 229) ∨ a = 237) → v a = v a := fun a _ => rfl
  refine N_X11_isSet (F_X11_isSet h) (fun r2 v2 h => ?_)
  obtain ⟨h, hg⟩ := h
  replace hf : ∀ a, ¬ (a = 218 ∨ (224 ≤ a ∧ a ≤ 229) ∨ a = 237) → v2 a = v a := fun a ha => by rw [hg a (by omega), hf a ha]
  clear hg
  refine ⟨fun hc => ?_, fun hc => ?_⟩
  · replace h := h.1 hc
    exact ⟨h, hf⟩
  · replace h := h.2 hc
    refine N_X11_isIn h (fun r12 h => ?_)
    refine ⟨fun hc => ?_, fun hc => ?_⟩
    · replace h := h.1 hc
      refine ⟨fun hc => ?_, fun hc => ?_⟩
      · replace h := h.1 hc
        refine N_X11_spread_ h (fun r34 h => ?_)
        refine ⟨fun hc => ?_, fun hc => ?_⟩
        · replace h := h.1 hc
          refine N_X11_flag h (fun r46 h => ?_)
          exact ⟨h, hf⟩
        · replace h := h.2 hc
          refine N_X11_flag h (fun r46_1 h => ?_)
          exact ⟨h, hf⟩
      · replace h := h.2 hc
        refine N_X11_isTrue (F_X11_isTrue h) (fun r26 v26 h => ?_)
        obtain ⟨h, hg⟩ := h
        replace hf : ∀ a, ¬ (a = 218 ∨ (224 ≤ a ∧ a ≤ 229) ∨ a = 237) → v26 a = v a := fun a ha => by rw [hg a (by omega), hf a ha]
        clear hg
        refine N_X11_flag h (fun r46_2 h => ?_)
        exact ⟨h, hf⟩
    · replace h := h.2 hc
      exact ⟨h, hf⟩
theorem N_X11_hull {x1 : Int} {v : VT} {q q' : Int → VT → Prop} (h : P_X11_hull x1 v q) (hq : ∀ r w, q r w → q' r w) : P_X11_hull x1 v q' := by
  unfold P_X11_hull at h ⊢
  refine N_X11_isSet h (fun r2 v2 h => ?_)
  refine ⟨fun hc => ?_, fun hc => ?_⟩
  · replace h := h.1 hc
    intro X12 hKX12
    refine n_cut (h X12) ?_ ?_
    · intro i2 h
      refine hKX12 i2 ?_
      refine N_X11_spread_ h (fun r14 h => ?_)
      refine ⟨fun hc => ?_, fun hc => ?_⟩
      · replace h := h.1 hc
        exact hq _ _ h
      · replace h := h.2 hc
        refine N_X11_spread_ h (fun r23 h => ?_)
        exact h
    · intro h
      exact h
  · replace h := h.2 hc
    exact hq _ _ h
theorem F_X11_hull {x1 : Int} {v : VT} {q : Int → VT → Prop} (h : P_X11_hull x1 v q) : P_X11_hull x1 v (fun r w => q r w ∧ ∀ a, ¬ (a = 218 ∨ (224 ≤ a ∧ a ≤ 229)) → w a = v a) := by
  unfold P_X11_hull at h ⊢
  have hf : ∀ a, ¬ (a = 218 ∨ (224 ≤ a ∧ a ≤ 229)) → v a = v a := fun a _ => rfl
  refine N_X11_isSet (F_X11_isSet h) (fun r2 v2 h => ?_)
  obtain ⟨h, hg⟩ := h
  replace hf : ∀ a, ¬ (a = 218 ∨ (224 ≤ a ∧ a ≤ 229)) → v2 a = v a := fun a ha => by rw [hg a (by omega), hf a ha]
  clear hg
  refine ⟨fun hc => ?_, fun hc => ?_⟩
  · replace h := h.1 hc
    intro X12 hKX12
    refine n_cut (h X12) ?_ ?_
    · intro i2 h
      refine hKX12 i2 ?_
      refine N_X11_spread_ h (fun r14 h => ?_)
      refine ⟨fun hc => ?_, fun hc => ?_⟩
      · replace h := h.1 hc
        exact ⟨h, hf⟩
      · replace h := h.2 hc
        refine N_X11_spread_ h (fun r23 h => ?_)
        exact h
    · intro h
      exact h
  · replace h := h.2 hc
    exact ⟨h, hf⟩
theorem N_X11_gate {x1 : Int} {x2 : Int} {v : VT} {q q' : Int → VT → Prop} (h : P_X11_gate x1 x2 v q) (hq : ∀ r w, q r w → q' r w) : P_X11_gate x1 x2 v q' := by
  unfold P_X11_gate at h ⊢
  refine N_X11_isSet h (fun r2 v2 h => ?_)
  refine ⟨fun hc => ?_, fun hc => ?_⟩
  · replace h := h.1 hc
    exact hq _ _ h
  · replace h := h.2 hc
    refine N_X11_isNode h (fun r10 h => ?_)
    refine ⟨fun hc => ?_, fun hc => ?_⟩
    · replace h := h.1 hc
      intro X20 hKX20
      refine n_cut (h X20) ?_ ?_
      · intro i3 h
        refine hKX20 i3 ?_
        refine ⟨fun hc => ?_, fun hc => ?_⟩
        · replace h := h.1 hc
          exact hq _ _ h
        · replace h := h.2 hc
          refine N_X11_isOf h (fun r32 h => ?_)
          intro X40 hKX40
          refine n_cut (h X40) ?_ ?_
          · intro i4 i5 h
            refine hKX40 i4 i5 ?_
            refine ⟨fun hc => ?_, fun hc => ?_⟩
            · replace h := h.1 hc
              refine ⟨fun hc => ?_, fun hc => ?_⟩
              · replace h := h.1 hc
                obtain ⟨ho1, h⟩ := h
                refine ⟨ho1, ?_⟩
                exact h
              · replace h := h.2 hc
                exact hq _ _ h
            · replace h := h.2 hc
              refine ⟨fun hc => ?_, fun hc => ?_⟩
              · replace h := h.1 hc
                refine ⟨fun hc => ?_, fun hc => ?_⟩
                · replace h := h.1 hc
                  obtain ⟨ho2, h⟩ := h
                  refine ⟨ho2, ?_⟩
                  exact h
                · replace h := h.2 hc
                  exact hq _ _ h
              · replace h := h.2 hc
                refine N_X11_isOf h (fun r59 h => ?_)
                refine ⟨fun hc => ?_, fun hc => ?_⟩
                · replace h := h.1 hc
                  obtain ⟨ho3, h⟩ := h
                  refine ⟨ho3, ?_⟩
                  exact h
                · replace h := h.2 hc
                  refine N_X11_betweenOf h (fun r69 h => ?_)
                  refine N_X11_isOf h (fun r73 h => ?_)
                  refine ⟨fun hc => ?_, fun hc => ?_⟩
                  · replace h := h.1 hc
                    obtain ⟨ho4, h⟩ := h
                    refine ⟨ho4, ?_⟩
                    exact h
                  · replace h := h.2 hc
                    obtain ⟨ho5, h⟩ := h
                    refine ⟨ho5, ?_⟩
                    exact h
          · intro h
            exact h
      · intro h
        exact h
    · replace h := h.2 hc
      exact hq _ _ h
theorem F_X11_gate {x1 : Int} {x2 : Int} {v : VT} {q : Int → VT → Prop} (h : P_X11_gate x1 x2 v q) : P_X11_gate x1 x2 v (fun r w => q r w ∧ ∀ a, ¬ (a = 218 ∨ (224 ≤ a ∧ a ≤ 229)) → w a = v a) := by
  unfold P_X11_gate at h ⊢
  have hf : ∀ a, ¬ (a = 218 ∨ (224 ≤ a ∧ a ≤ 229)) → v a = v a := fun a _ => rfl
  refine N_X11_isSet (F_X11_isSet h) (fun r2 v2 h => ?_)
  obtain ⟨h, hg⟩ := h
  replace hf : ∀ a, ¬ (a = 218 ∨ (224 ≤ a ∧ a ≤ 229)) → v2 a = v a := fun a ha => by rw [hg a (by omega), hf a ha]
  clear hg
  refine ⟨fun hc => ?_, fun hc => ?_⟩
  · replace h := h.1 hc
    exact ⟨h, hf⟩
  · replace h := h.2 hc
    refine N_X11_isNode h (fun r10 h => ?_)
    refine ⟨fun hc => ?_, fun hc => ?_⟩
    · replace h := h.1 hc
      intro X20 hKX20
      refine n_cut (h X20) ?_ ?_
      · intro i3 h
        refine hKX20 i3 ?_
        refine ⟨fun hc => ?_, fun hc => ?_⟩
        · replace h := h.1 hc
          exact ⟨h, hf⟩
        · replace h := h.2 hc
          refine N_X11_isOf h (fun r32 h => ?_)
          intro X40 hKX40
          refine n_cut (h X40) ?_ ?_
          · intro i4 i5 h
            refine hKX40 i4 i5 ?_
            refine ⟨fun hc => ?_, fun hc => ?_⟩
            · replace h := h.1 hc
              refine ⟨fun hc => ?_, fun hc => ?_⟩
              · replace h := h.1 hc
                obtain ⟨ho1, h⟩ := h
                refine ⟨ho1, ?_⟩
                exact h
              · replace h := h.2 hc
                exact ⟨h, hf⟩
            · replace h := h.2 hc
              refine ⟨fun hc => ?_, fun hc => ?_⟩
              · replace h := h.1 hc
                refine ⟨fun hc => ?_, fun hc => ?_⟩
                · replace h := h.1 hc
                  obtain ⟨ho2, h⟩ := h
                  refine ⟨ho2, ?_⟩
                  exact h
                · replace h := h.2 hc
                  exact ⟨h, hf⟩
              · replace h := h.2 hc
                refine N_X11_isOf h (fun r59 h => ?_)
                refine ⟨fun hc => ?_, fun hc => ?_⟩
                · replace h := h.1 hc
                  obtain ⟨ho3, h⟩ := h
                  refine ⟨ho3, ?_⟩
                  exact h
                · replace h := h.2 hc
                  refine N_X11_betweenOf h (fun r69 h => ?_)
                  refine N_X11_isOf h (fun r73 h => ?_)
                  refine ⟨fun hc => ?_, fun hc => ?_⟩
                  · replace h := h.1 hc
                    obtain ⟨ho4, h⟩ := h
                    refine ⟨ho4, ?_⟩
                    exact h
                  · replace h := h.2 hc
                    obtain ⟨ho5, h⟩ := h
                    refine ⟨ho5, ?_⟩
                    exact h
          · intro h
            exact h
      · intro h
        exact h
    · replace h := h.2 hc
      exact ⟨h, hf⟩
theorem N_X11_see  {v : VT} {q q' : Int → VT → Prop} (h : P_X11_see  v q) (hq : ∀ r w, q r w → q' r w) : P_X11_see  v q' := by
  unfold P_X11_see at h ⊢
  intro v7 ev7
  replace h := h v7 ev7
  intro K33 hKK33
  refine n_cut (h K33) ?_ ?_
  · intro s0 h
    refine hKK33 s0 ?_
    intro K83 hKK83
    refine n_cut (h K83) ?_ ?_
    · intro i2 h
      refine hKK83 i2 ?_
      refine ⟨fun hc => ?_, fun hc => ?_⟩
      · replace h := h.1 hc
        intro X95 hKX95
        refine n_cut (h X95) ?_ ?_
        · intro i3 v95 h
          refine hKX95 i3 v95 ?_
          refine ⟨fun hc => ?_, fun hc => ?_⟩
          · replace h := h.1 hc
            intro v122 ev122
            replace h := h v122 ev122
            exact hq _ _ h
          · replace h := h.2 hc
            obtain ⟨ho1, h⟩ := h
            refine ⟨ho1, ?_⟩
            obtain ⟨ho2, h⟩ := h
            refine ⟨ho2, ?_⟩
            intro v111 ev111
            replace h := h v111 ev111
            obtain ⟨ho3, h⟩ := h
            refine ⟨ho3, ?_⟩
            exact h
        · intro h
          exact h
      · replace h := h.2 hc
        refine N_X11_refuses h (fun r89 v89 h => ?_)
        exact hq _ _ h
    · intro h
      intro X36 hKX36
      refine n_cut (h X36) ?_ ?_
      · intro i2_1 i3_1 h
        refine hKX36 i2_1 i3_1 ?_
        refine ⟨fun hc => ?_, fun hc => ?_⟩
        · replace h := h.1 hc
          exact h
        · replace h := h.2 hc
          refine ⟨fun hc => ?_, fun hc => ?_⟩
          · replace h := h.1 hc
            exact h
          · replace h := h.2 hc
            obtain ⟨ho4, h⟩ := h
            refine ⟨ho4, ?_⟩
            refine N_X11_isNode h (fun r52 h => ?_)
            refine ⟨fun hc => ?_, fun hc => ?_⟩
            · replace h := h.1 hc
              obtain ⟨ho5, h⟩ := h
              refine ⟨ho5, ?_⟩
              exact h
            · replace h := h.2 hc
              obtain ⟨ho6, h⟩ := h
              refine ⟨ho6, ?_⟩
              obtain ⟨ho7, h⟩ := h
              refine ⟨ho7, ?_⟩
              refine ⟨fun hc => ?_, fun hc => ?_⟩
              · replace h := h.1 hc
                obtain ⟨ho8, h⟩ := h
                refine ⟨ho8, ?_⟩
                exact h
              · replace h := h.2 hc
                obtain ⟨ho9, h⟩ := h
                refine ⟨ho9, ?_⟩
                exact h
      · intro h
        exact h
  · intro h
    intro K32 hKK32
    refine n_cut (h K32) ?_ ?_
    · intro h
      refine hKK32  ?_
      exact h
    · intro h
      refine ⟨fun hc => ?_, fun hc => ?_⟩
      · replace h := h.1 hc
        exact h
      · replace h := h.2 hc
        refine ⟨fun hc => ?_, fun hc => ?_⟩
        · replace h := h.1 hc
          exact h
        · replace h := h.2 hc
          refine ⟨fun hc => ?_, fun hc => ?_⟩
          · replace h := h.1 hc
            exact h
          · replace h := h.2 hc
            exact h
theorem F_X11_see  {v : VT} {q : Int → VT → Prop} (h : P_X11_see  v q) : P_X11_see  v (fun r w => q r w ∧ ∀ a, ¬ (a = 218 ∨ a = 220 ∨ a = 238) → w a = v a) := by
  unfold P_X11_see at h ⊢
  have hf : ∀ a, ¬ (a = 218 ∨ a = 220 ∨ a = 238) → v a = v a := fun a _ => rfl
  intro v7 ev7
  replace h := h v7 ev7
  replace hf : ∀ a, ¬ (a = 218 ∨ a = 220 ∨ a = 238) → v7 a = v a := fun a ha => by rw [ev7, upd2_off _ _ _ (by omega), hf a ha]
  intro K33 hKK33
  refine n_cut (h K33) ?_ ?_
  · intro s0 h
    refine hKK33 s0 ?_
    intro K83 hKK83
    refine n_cut (h K83) ?_ ?_
    · intro i2 h
      refine hKK83 i2 ?_
      refine ⟨fun hc => ?_, fun hc => ?_⟩
      · replace h := h.1 hc
        intro X95 hKX95
        refine n_cut (h (fun (i3 : Int) (v95 : VT) => (∀ a, ¬ (a = 218 ∨ a = 220 ∨ a = 238) → v95 a = v a) → X95 i3 v95)) ?_ ?_
        · intro i3 v95 h hf
          refine hKX95 i3 v95 ?_
          refine ⟨fun hc => ?_, fun hc => ?_⟩
          · replace h := h.1 hc
            intro v122 ev122
            replace h := h v122 ev122
            replace hf : ∀ a, ¬ (a = 218 ∨ a = 220 ∨ a = 238) → v122 a = v a := fun a ha => by rw [ev122, upd2_off _ _ _ (by omega), hf a ha]
            exact ⟨h, hf⟩
          · replace h := h.2 hc
            obtain ⟨ho1, h⟩ := h
            refine ⟨ho1, ?_⟩
            obtain ⟨ho2, h⟩ := h
            refine ⟨ho2, ?_⟩
            intro v111 ev111
            replace h := h v111 ev111
            replace hf : ∀ a, ¬ (a = 218 ∨ a = 220 ∨ a = 238) → v111 a = v a := fun a ha => by rw [ev111, upd2_off _ _ _ (by omega), hf a ha]
            obtain ⟨ho3, h⟩ := h
            refine ⟨ho3, ?_⟩
            exact h hf
        · intro h
          exact h hf
      · replace h := h.2 hc
        refine N_X11_refuses (F_X11_refuses h) (fun r89 v89 h => ?_)
        obtain ⟨h, hg⟩ := h
        replace hf : ∀ a, ¬ (a = 218 ∨ a = 220 ∨ a = 238) → v89 a = v a := fun a ha => by rw [hg a (by omega), hf a ha]
        clear hg
        exact ⟨h, hf⟩
    · intro h
      intro X36 hKX36
      refine n_cut (h X36) ?_ ?_
      · intro i2_1 i3_1 h
        refine hKX36 i2_1 i3_1 ?_
        refine ⟨fun hc => ?_, fun hc => ?_⟩
        · replace h := h.1 hc
          exact h
        · replace h := h.2 hc
          refine ⟨fun hc => ?_, fun hc => ?_⟩
          · replace h := h.1 hc
            exact h
          · replace h := h.2 hc
            obtain ⟨ho4, h⟩ := h
            refine ⟨ho4, ?_⟩
            refine N_X11_isNode h (fun r52 h => ?_)
            refine ⟨fun hc => ?_, fun hc => ?_⟩
            · replace h := h.1 hc
              obtain ⟨ho5, h⟩ := h
              refine ⟨ho5, ?_⟩
              exact h
            · replace h := h.2 hc
              obtain ⟨ho6, h⟩ := h
              refine ⟨ho6, ?_⟩
              obtain ⟨ho7, h⟩ := h
              refine ⟨ho7, ?_⟩
              refine ⟨fun hc => ?_, fun hc => ?_⟩
              · replace h := h.1 hc
                obtain ⟨ho8, h⟩ := h
                refine ⟨ho8, ?_⟩
                exact h
              · replace h := h.2 hc
                obtain ⟨ho9, h⟩ := h
                refine ⟨ho9, ?_⟩
                exact h
      · intro h
        exact h
  · intro h
    intro K32 hKK32
    refine n_cut (h K32) ?_ ?_
    · intro h
      refine hKK32  ?_
      exact h
    · intro h
      refine ⟨fun hc => ?_, fun hc => ?_⟩
      · replace h := h.1 hc
        exact h
      · replace h := h.2 hc
        refine ⟨fun hc => ?_, fun hc => ?_⟩
        · replace h := h.1 hc
          exact h
        · replace h := h.2 hc
          refine ⟨fun hc => ?_, fun hc => ?_⟩
          · replace h := h.1 hc
            exact h
          · replace h := h.2 hc
            exact h
theorem N_X11_fitting  {v : VT} {q q' : Int → Prop} (h : P_X11_fitting  v q) (hq : ∀ r, q r → q' r) : P_X11_fitting  v q' := by
  unfold P_X11_fitting at h ⊢
  intro X4 hKX4
  refine n_cut (h X4) ?_ ?_
  · intro i1 i2 h
    refine hKX4 i1 i2 ?_
    refine ⟨fun hc => ?_, fun hc => ?_⟩
    · replace h := h.1 hc
      exact hq _ h
    · replace h := h.2 hc
      intro X19 hKX19
      refine n_cut (h X19) ?_ ?_
      · intro i3 i4 h
        refine hKX19 i3 i4 ?_
        refine ⟨fun hc => ?_, fun hc => ?_⟩
        · replace h := h.1 hc
          refine N_X11_flag h (fun r74 h => ?_)
          intro l1 el1
          replace h := h l1 el1
          obtain ⟨ho1, h⟩ := h
          refine ⟨ho1, ?_⟩
          exact h
        · replace h := h.2 hc
          refine ⟨fun hc => ?_, fun hc => ?_⟩
          · replace h := h.1 hc
            obtain ⟨ho2, h⟩ := h
            refine ⟨ho2, ?_⟩
            exact h
          · replace h := h.2 hc
            obtain ⟨ho3, h⟩ := h
            refine ⟨ho3, ?_⟩
            obtain ⟨ho4, h⟩ := h
            refine ⟨ho4, ?_⟩
            refine N_X11_farOf h (fun r43 h => ?_)
            obtain ⟨ho5, h⟩ := h
            refine ⟨ho5, ?_⟩
            obtain ⟨ho6, h⟩ := h
            refine ⟨ho6, ?_⟩
            obtain ⟨ho7, h⟩ := h
            refine ⟨ho7, ?_⟩
            refine ⟨fun hc => ?_, fun hc => ?_⟩
            · replace h := h.1 hc
              obtain ⟨ho8, h⟩ := h
              refine ⟨ho8, ?_⟩
              exact h
            · replace h := h.2 hc
              obtain ⟨ho9, h⟩ := h
              refine ⟨ho9, ?_⟩
              exact h
      · intro h
        exact h
  · intro h
    exact h
theorem N_X11_canFit  {v : VT} {q q' : Int → VT → Prop} (h : P_X11_canFit  v q) (hq : ∀ r w, q r w → q' r w) : P_X11_canFit  v q' := by
  unfold P_X11_canFit at h ⊢
  refine N_X11_lays h (fun v1 h => ?_)
  intro X6 hKX6
  refine n_cut (h X6) ?_ ?_
  · intro i1 h
    refine hKX6 i1 ?_
    refine ⟨fun hc => ?_, fun hc => ?_⟩
    · replace h := h.1 hc
      refine ⟨fun hc => ?_, fun hc => ?_⟩
      · replace h := h.1 hc
        exact hq _ _ h
      · replace h := h.2 hc
        exact hq _ _ h
    · replace h := h.2 hc
      obtain ⟨ho1, h⟩ := h
      refine ⟨ho1, ?_⟩
      obtain ⟨ho2, h⟩ := h
      refine ⟨ho2, ?_⟩
      refine N_X11_isNode h (fun r23 h => ?_)
      refine ⟨fun hc => ?_, fun hc => ?_⟩
      · replace h := h.1 hc
        obtain ⟨ho3, h⟩ := h
        refine ⟨ho3, ?_⟩
        exact h
      · replace h := h.2 hc
        exact hq _ _ h
  · intro h
    exact h
theorem F_X11_canFit  {v : VT} {q : Int → VT → Prop} (h : P_X11_canFit  v q) : P_X11_canFit  v (fun r w => q r w ∧ ∀ a, ¬ (a = 218 ∨ (224 ≤ a ∧ a ≤ 229)) → w a = v a) := by
  unfold P_X11_canFit at h ⊢
  have hf : ∀ a, ¬ (a = 218 ∨ (224 ≤ a ∧ a ≤ 229)) → v a = v a := fun a _ => rfl
  refine N_X11_lays (F_X11_lays h) (fun v1 h => ?_)
  obtain ⟨h, hg⟩ := h
  replace hf : ∀ a, ¬ (a = 218 ∨ (224 ≤ a ∧ a ≤ 229)) → v1 a = v a := fun a ha => by rw [hg a (by omega), hf a ha]
  clear hg
  intro X6 hKX6
  refine n_cut (h X6) ?_ ?_
  · intro i1 h
    refine hKX6 i1 ?_
    refine ⟨fun hc => ?_, fun hc => ?_⟩
    · replace h := h.1 hc
      refine ⟨fun hc => ?_, fun hc => ?_⟩
      · replace h := h.1 hc
        exact ⟨h, hf⟩
      · replace h := h.2 hc
        exact ⟨h, hf⟩
    · replace h := h.2 hc
      obtain ⟨ho1, h⟩ := h
      refine ⟨ho1, ?_⟩
      obtain ⟨ho2, h⟩ := h
      refine ⟨ho2, ?_⟩
      refine N_X11_isNode h (fun r23 h => ?_)
      refine ⟨fun hc => ?_, fun hc => ?_⟩
      · replace h := h.1 hc
        obtain ⟨ho3, h⟩ := h
        refine ⟨ho3, ?_⟩
        exact h
      · replace h := h.2 hc
        exact ⟨h, hf⟩
  · intro h
    exact h
theorem N_X11_fits  {v : VT} {q q' : Int → VT → Prop} (h : P_X11_fits  v q) (hq : ∀ r w, q r w → q' r w) : P_X11_fits  v q' := by
  unfold P_X11_fits at h ⊢
  refine N_X11_canFit h (fun r1 v1 h => ?_)
  refine ⟨fun hc => ?_, fun hc => ?_⟩
  · replace h := h.1 hc
    exact hq _ _ h
  · replace h := h.2 hc
    refine N_X11_fitting h (fun r8 h => ?_)
    exact hq _ _ h
theorem F_X11_fits  {v : VT} {q : Int → VT → Prop} (h : P_X11_fits  v q) : P_X11_fits  v (fun r w => q r w ∧ ∀ a, ¬ (a = 218 ∨ (224 ≤ a ∧ a ≤ 229)) → w a = v a) := by
  unfold P_X11_fits at h ⊢
  have hf : ∀ a, ¬ (a = 218 ∨ (224 ≤ a ∧ a ≤ 229)) → v a = v a := fun a _ => rfl
  refine N_X11_canFit (F_X11_canFit h) (fun r1 v1 h => ?_)
  obtain ⟨h, hg⟩ := h
  replace hf : ∀ a, ¬ (a = 218 ∨ (224 ≤ a ∧ a ≤ 229)) → v1 a = v a := fun a ha => by rw [hg a (by omega), hf a ha]
  clear hg
  refine ⟨fun hc => ?_, fun hc => ?_⟩
  · replace h := h.1 hc
    exact ⟨h, hf⟩
  · replace h := h.2 hc
    refine N_X11_fitting h (fun r8 h => ?_)
    exact ⟨h, hf⟩
theorem N_X11_mostBy {x1 : Int} {x2 : Int} {v : VT} {q q' : Int → Prop} (h : P_X11_mostBy x1 x2 v q) (hq : ∀ r, q r → q' r) : P_X11_mostBy x1 x2 v q' := by
  unfold P_X11_mostBy at h ⊢
  intro X5 hKX5
  refine n_cut (h X5) ?_ ?_
  · intro i3 i4 h
    refine hKX5 i3 i4 ?_
    refine ⟨fun hc => ?_, fun hc => ?_⟩
    · replace h := h.1 hc
      exact hq _ h
    · replace h := h.2 hc
      intro X18 hKX18
      refine n_cut (h X18) ?_ ?_
      · intro i5 i6 h
        refine hKX18 i5 i6 ?_
        refine ⟨fun hc => ?_, fun hc => ?_⟩
        · replace h := h.1 hc
          refine ⟨fun hc => ?_, fun hc => ?_⟩
          · replace h := h.1 hc
            obtain ⟨ho1, h⟩ := h
            refine ⟨ho1, ?_⟩
            exact h
          · replace h := h.2 hc
            obtain ⟨ho2, h⟩ := h
            refine ⟨ho2, ?_⟩
            exact h
        · replace h := h.2 hc
          refine N_X11_isOf h (fun r34 h => ?_)
          refine ⟨fun hc => ?_, fun hc => ?_⟩
          · replace h := h.1 hc
            refine N_X11_flag h (fun r57 h => ?_)
            obtain ⟨ho3, h⟩ := h
            refine ⟨ho3, ?_⟩
            obtain ⟨ho4, h⟩ := h
            refine ⟨ho4, ?_⟩
            exact h
          · replace h := h.2 hc
            refine N_X11_farOf h (fun r44 h => ?_)
            refine ⟨fun hc => ?_, fun hc => ?_⟩
            · replace h := h.1 hc
              refine N_X11_flag h (fun r57_1 h => ?_)
              obtain ⟨ho5, h⟩ := h
              refine ⟨ho5, ?_⟩
              obtain ⟨ho6, h⟩ := h
              refine ⟨ho6, ?_⟩
              exact h
            · replace h := h.2 hc
              refine N_X11_flag h (fun r57_2 h => ?_)
              obtain ⟨ho7, h⟩ := h
              refine ⟨ho7, ?_⟩
              obtain ⟨ho8, h⟩ := h
              refine ⟨ho8, ?_⟩
              exact h
      · intro h
        exact h
  · intro h
    exact h
theorem N_X11_tells {x1 : Int} {v : VT} {q q' : Int → VT → Prop} (h : P_X11_tells x1 v q) (hq : ∀ r w, q r w → q' r w) : P_X11_tells x1 v q' := by
  unfold P_X11_tells at h ⊢
  refine N_X11_canFit h (fun r1 v1 h => ?_)
  refine ⟨fun hc => ?_, fun hc => ?_⟩
  · replace h := h.1 hc
    exact hq _ _ h
  · replace h := h.2 hc
    refine N_X11_isIn h (fun r11 h => ?_)
    refine ⟨fun hc => ?_, fun hc => ?_⟩
    · replace h := h.1 hc
      refine N_X11_fitting h (fun r20 h => ?_)
      refine ⟨fun hc => ?_, fun hc => ?_⟩
      · replace h := h.1 hc
        intro X35 hKX35
        refine n_cut (h X35) ?_ ?_
        · intro i3 i4 h
          refine hKX35 i3 i4 ?_
          refine ⟨fun hc => ?_, fun hc => ?_⟩
          · replace h := h.1 hc
            refine ⟨fun hc => ?_, fun hc => ?_⟩
            · replace h := h.1 hc
              refine N_X11_mostBy h (fun r82 h => ?_)
              exact hq _ _ h
            · replace h := h.2 hc
              exact hq _ _ h
          · replace h := h.2 hc
            refine N_X11_mostBy h (fun r50 h => ?_)
            refine N_X11_mostBy h (fun r56 h => ?_)
            refine ⟨fun hc => ?_, fun hc => ?_⟩
            · replace h := h.1 hc
              obtain ⟨ho1, h⟩ := h
              refine ⟨ho1, ?_⟩
              exact h
            · replace h := h.2 hc
              obtain ⟨ho2, h⟩ := h
              refine ⟨ho2, ?_⟩
              exact h
        · intro h
          exact h
      · replace h := h.2 hc
        exact hq _ _ h
    · replace h := h.2 hc
      exact hq _ _ h
theorem F_X11_tells {x1 : Int} {v : VT} {q : Int → VT → Prop} (h : P_X11_tells x1 v q) : P_X11_tells x1 v (fun r w => q r w ∧ ∀ a, ¬ (a = 218 ∨ (224 ≤ a ∧ a ≤ 229)) → w a = v a) := by
  unfold P_X11_tells at h ⊢
  have hf : ∀ a, ¬ (a = 218 ∨ (224 ≤ a ∧ a ≤ 229)) → v a = v a := fun a _ => rfl
  refine N_X11_canFit (F_X11_canFit h) (fun r1 v1 h => ?_)
  obtain ⟨h, hg⟩ := h
  replace hf : ∀ a, ¬ (a = 218 ∨ (224 ≤ a ∧ a ≤ 229)) → v1 a = v a := fun a ha => by rw [hg a (by omega), hf a ha]
  clear hg
  refine ⟨fun hc => ?_, fun hc => ?_⟩
  · replace h := h.1 hc
    exact ⟨h, hf⟩
  · replace h := h.2 hc
    refine N_X11_isIn h (fun r11 h => ?_)
    refine ⟨fun hc => ?_, fun hc => ?_⟩
    · replace h := h.1 hc
      refine N_X11_fitting h (fun r20 h => ?_)
      refine ⟨fun hc => ?_, fun hc => ?_⟩
      · replace h := h.1 hc
        intro X35 hKX35
        refine n_cut (h X35) ?_ ?_
        · intro i3 i4 h
          refine hKX35 i3 i4 ?_
          refine ⟨fun hc => ?_, fun hc => ?_⟩
          · replace h := h.1 hc
            refine ⟨fun hc => ?_, fun hc => ?_⟩
            · replace h := h.1 hc
              refine N_X11_mostBy h (fun r82 h => ?_)
              exact ⟨h, hf⟩
            · replace h := h.2 hc
              exact ⟨h, hf⟩
          · replace h := h.2 hc
            refine N_X11_mostBy h (fun r50 h => ?_)
            refine N_X11_mostBy h (fun r56 h => ?_)
            refine ⟨fun hc => ?_, fun hc => ?_⟩
            · replace h := h.1 hc
              obtain ⟨ho1, h⟩ := h
              refine ⟨ho1, ?_⟩
              exact h
            · replace h := h.2 hc
              obtain ⟨ho2, h⟩ := h
              refine ⟨ho2, ?_⟩
              exact h
        · intro h
          exact h
      · replace h := h.2 hc
        exact ⟨h, hf⟩
    · replace h := h.2 hc
      exact ⟨h, hf⟩
theorem N_X11_keeps  {v : VT} {q q' : VT → Prop} (h : P_X11_keeps  v q) (hq : ∀ w, q w → q' w) : P_X11_keeps  v q' := by
  unfold P_X11_keeps at h ⊢
  obtain ⟨ho1, h⟩ := h
  refine ⟨ho1, ?_⟩
  intro v10 ev10
  replace h := h v10 ev10
  intro K49 hKK49
  refine n_cut (h K49) ?_ ?_
  · intro v49 h
    refine hKK49 v49 ?_
    refine ⟨fun hc => ?_, fun hc => ?_⟩
    · replace h := h.1 hc
      exact hq _ h
    · replace h := h.2 hc
      obtain ⟨ho2, h⟩ := h
      refine ⟨ho2, ?_⟩
      intro v65 ev65
      replace h := h v65 ev65
      exact hq _ h
  · intro h
    intro X15 hKX15
    refine n_cut (h X15) ?_ ?_
    · intro i1 v15 h
      refine hKX15 i1 v15 ?_
      refine ⟨fun hc => ?_, fun hc => ?_⟩
      · replace h := h.1 hc
        exact h
      · replace h := h.2 hc
        obtain ⟨ho3, h⟩ := h
        refine ⟨ho3, ?_⟩
        obtain ⟨ho4, h⟩ := h
        refine ⟨ho4, ?_⟩
        obtain ⟨ho5, h⟩ := h
        refine ⟨ho5, ?_⟩
        obtain ⟨ho6, h⟩ := h
        refine ⟨ho6, ?_⟩
        intro v42 ev42
        replace h := h v42 ev42
        obtain ⟨ho7, h⟩ := h
        refine ⟨ho7, ?_⟩
        exact h
    · intro h
      exact h
theorem F_X11_keeps  {v : VT} {q : VT → Prop} (h : P_X11_keeps  v q) : P_X11_keeps  v (fun w => q w ∧ ∀ a, ¬ (a = 218 ∨ a = 239) → w a = v a) := by
  unfold P_X11_keeps at h ⊢
  have hf : ∀ a, ¬ (a = 218 ∨ a = 239) → v a = v a := fun a _ => rfl
  obtain ⟨ho1, h⟩ := h
  refine ⟨ho1, ?_⟩
  intro v10 ev10
  replace h := h v10 ev10
  replace hf : ∀ a, ¬ (a = 218 ∨ a = 239) → v10 a = v a := fun a ha => by rw [ev10, upd2_off _ _ _ (by omega), hf a ha]
  intro K49 hKK49
  refine n_cut (h (fun (v49 : VT) => (∀ a, ¬ (a = 218 ∨ a = 239) → v49 a = v a) → K49 v49)) ?_ ?_
  · intro v49 h hf
    refine hKK49 v49 ?_
    refine ⟨fun hc => ?_, fun hc => ?_⟩
    · replace h := h.1 hc
      exact ⟨h, hf⟩
    · replace h := h.2 hc
      obtain ⟨ho2, h⟩ := h
      refine ⟨ho2, ?_⟩
      intro v65 ev65
      replace h := h v65 ev65
      replace hf : ∀ a, ¬ (a = 218 ∨ a = 239) → v65 a = v a := fun a ha => by rw [ev65, upd2_off _ _ _ (by omega), hf a ha]
      exact ⟨h, hf⟩
  · intro h
    intro X15 hKX15
    refine n_cut (h (fun (i1 : Int) (v15 : VT) => (∀ a, ¬ (a = 218 ∨ a = 239) → v15 a = v a) → X15 i1 v15)) ?_ ?_
    · intro i1 v15 h hf
      refine hKX15 i1 v15 ?_
      refine ⟨fun hc => ?_, fun hc => ?_⟩
      · replace h := h.1 hc
        exact h hf
      · replace h := h.2 hc
        obtain ⟨ho3, h⟩ := h
        refine ⟨ho3, ?_⟩
        obtain ⟨ho4, h⟩ := h
        refine ⟨ho4, ?_⟩
        obtain ⟨ho5, h⟩ := h
        refine ⟨ho5, ?_⟩
        obtain ⟨ho6, h⟩ := h
        refine ⟨ho6, ?_⟩
        intro v42 ev42
        replace h := h v42 ev42
        replace hf : ∀ a, ¬ (a = 218 ∨ a = 239) → v42 a = v a := fun a ha => by rw [ev42, upd2_off _ _ _ (by omega), hf a ha]
        obtain ⟨ho7, h⟩ := h
        refine ⟨ho7, ?_⟩
        exact h hf
    · intro h
      exact h hf
theorem N_X11_undo  {v : VT} {q q' : Int → VT → Prop} (h : P_X11_undo  v q) (hq : ∀ r w, q r w → q' r w) : P_X11_undo  v q' := by
  unfold P_X11_undo at h ⊢
  refine ⟨fun hc => ?_, fun hc => ?_⟩
  · replace h := h.1 hc
    intro K49 hKK49
    refine n_cut (h K49) ?_ ?_
    · intro v49 h
      refine hKK49 v49 ?_
      obtain ⟨ho1, h⟩ := h
      refine ⟨ho1, ?_⟩
      obtain ⟨ho2, h⟩ := h
      refine ⟨ho2, ?_⟩
      intro v62 ev62
      replace h := h v62 ev62
      obtain ⟨ho3, h⟩ := h
      refine ⟨ho3, ?_⟩
      intro v72 ev72
      replace h := h v72 ev72
      intro v77 ev77
      replace h := h v77 ev77
      exact hq _ _ h
    · intro h
      intro X15 hKX15
      refine n_cut (h X15) ?_ ?_
      · intro i1 v15 h
        refine hKX15 i1 v15 ?_
        refine ⟨fun hc => ?_, fun hc => ?_⟩
        · replace h := h.1 hc
          exact h
        · replace h := h.2 hc
          obtain ⟨ho4, h⟩ := h
          refine ⟨ho4, ?_⟩
          obtain ⟨ho5, h⟩ := h
          refine ⟨ho5, ?_⟩
          obtain ⟨ho6, h⟩ := h
          refine ⟨ho6, ?_⟩
          obtain ⟨ho7, h⟩ := h
          refine ⟨ho7, ?_⟩
          intro v42 ev42
          replace h := h v42 ev42
          obtain ⟨ho8, h⟩ := h
          refine ⟨ho8, ?_⟩
          exact h
      · intro h
        exact h
  · replace h := h.2 hc
    refine N_X11_isRefused h (fun r9 v9 h => ?_)
    obtain ⟨ho9, h⟩ := h
    refine ⟨ho9, ?_⟩
    exact hq _ _ h
theorem F_X11_undo  {v : VT} {q : Int → VT → Prop} (h : P_X11_undo  v q) : P_X11_undo  v (fun r w => q r w ∧ ∀ a, ¬ (a = 218 ∨ a = 220 ∨ a = 222) → w a = v a) := by
  unfold P_X11_undo at h ⊢
  have hf : ∀ a, ¬ (a = 218 ∨ a = 220 ∨ a = 222) → v a = v a := fun a _ => rfl
  refine ⟨fun hc => ?_, fun hc => ?_⟩
  · replace h := h.1 hc
    intro K49 hKK49
    refine n_cut (h (fun (v49 : VT) => (∀ a, ¬ (a = 218 ∨ a = 220 ∨ a = 222) → v49 a = v a) → K49 v49)) ?_ ?_
    · intro v49 h hf
      refine hKK49 v49 ?_
      obtain ⟨ho1, h⟩ := h
      refine ⟨ho1, ?_⟩
      obtain ⟨ho2, h⟩ := h
      refine ⟨ho2, ?_⟩
      intro v62 ev62
      replace h := h v62 ev62
      replace hf : ∀ a, ¬ (a = 218 ∨ a = 220 ∨ a = 222) → v62 a = v a := fun a ha => by rw [ev62, upd2_off _ _ _ (by omega), hf a ha]
      obtain ⟨ho3, h⟩ := h
      refine ⟨ho3, ?_⟩
      intro v72 ev72
      replace h := h v72 ev72
      replace hf : ∀ a, ¬ (a = 218 ∨ a = 220 ∨ a = 222) → v72 a = v a := fun a ha => by rw [ev72, upd2_off _ _ _ (by omega), hf a ha]
      intro v77 ev77
      replace h := h v77 ev77
      replace hf : ∀ a, ¬ (a = 218 ∨ a = 220 ∨ a = 222) → v77 a = v a := fun a ha => by rw [ev77, upd2_off _ _ _ (by omega), hf a ha]
      exact ⟨h, hf⟩
    · intro h
      intro X15 hKX15
      refine n_cut (h (fun (i1 : Int) (v15 : VT) => (∀ a, ¬ (a = 218 ∨ a = 220 ∨ a = 222) → v15 a = v a) → X15 i1 v15)) ?_ ?_
      · intro i1 v15 h hf
        refine hKX15 i1 v15 ?_
        refine ⟨fun hc => ?_, fun hc => ?_⟩
        · replace h := h.1 hc
          exact h hf
        · replace h := h.2 hc
          obtain ⟨ho4, h⟩ := h
          refine ⟨ho4, ?_⟩
          obtain ⟨ho5, h⟩ := h
          refine ⟨ho5, ?_⟩
          obtain ⟨ho6, h⟩ := h
          refine ⟨ho6, ?_⟩
          obtain ⟨ho7, h⟩ := h
          refine ⟨ho7, ?_⟩
          intro v42 ev42
          replace h := h v42 ev42
          replace hf : ∀ a, ¬ (a = 218 ∨ a = 220 ∨ a = 222) → v42 a = v a := fun a ha => by rw [ev42, upd2_off _ _ _ (by omega), hf a ha]
          obtain ⟨ho8, h⟩ := h
          refine ⟨ho8, ?_⟩
          exact h hf
      · intro h
        exact h hf
  · replace h := h.2 hc
    refine N_X11_isRefused (F_X11_isRefused h) (fun r9 v9 h => ?_)
    obtain ⟨h, hg⟩ := h
    replace hf : ∀ a, ¬ (a = 218 ∨ a = 220 ∨ a = 222) → v9 a = v a := fun a ha => by rw [hg a (by omega), hf a ha]
    clear hg
    obtain ⟨ho9, h⟩ := h
    refine ⟨ho9, ?_⟩
    exact ⟨h, hf⟩
theorem N_X11_isNext  {v : VT} {q q' : VT → Prop} (h : P_X11_isNext  v q) (hq : ∀ w, q w → q' w) : P_X11_isNext  v q' := by
  unfold P_X11_isNext at h ⊢
  intro X2 hKX2
  refine n_cut (h X2) ?_ ?_
  · intro i1 v2 h
    refine hKX2 i1 v2 ?_
    refine ⟨fun hc => ?_, fun hc => ?_⟩
    · replace h := h.1 hc
      intro v29 ev29
      replace h := h v29 ev29
      exact hq _ h
    · replace h := h.2 hc
      obtain ⟨ho1, h⟩ := h
      refine ⟨ho1, ?_⟩
      obtain ⟨ho2, h⟩ := h
      refine ⟨ho2, ?_⟩
      intro v20 ev20
      replace h := h v20 ev20
      obtain ⟨ho3, h⟩ := h
      refine ⟨ho3, ?_⟩
      exact h
  · intro h
    exact h
theorem F_X11_isNext  {v : VT} {q : VT → Prop} (h : P_X11_isNext  v q) : P_X11_isNext  v (fun w => q w ∧ ∀ a, ¬ (a = 218 ∨ a = 222) → w a = v a) := by
  unfold P_X11_isNext at h ⊢
  have hf : ∀ a, ¬ (a = 218 ∨ a = 222) → v a = v a := fun a _ => rfl
  intro X2 hKX2
  refine n_cut (h (fun (i1 : Int) (v2 : VT) => (∀ a, ¬ (a = 218 ∨ a = 222) → v2 a = v a) → X2 i1 v2)) ?_ ?_
  · intro i1 v2 h hf
    refine hKX2 i1 v2 ?_
    refine ⟨fun hc => ?_, fun hc => ?_⟩
    · replace h := h.1 hc
      intro v29 ev29
      replace h := h v29 ev29
      replace hf : ∀ a, ¬ (a = 218 ∨ a = 222) → v29 a = v a := fun a ha => by rw [ev29, upd2_off _ _ _ (by omega), hf a ha]
      exact ⟨h, hf⟩
    · replace h := h.2 hc
      obtain ⟨ho1, h⟩ := h
      refine ⟨ho1, ?_⟩
      obtain ⟨ho2, h⟩ := h
      refine ⟨ho2, ?_⟩
      intro v20 ev20
      replace h := h v20 ev20
      replace hf : ∀ a, ¬ (a = 218 ∨ a = 222) → v20 a = v a := fun a ha => by rw [ev20, upd2_off _ _ _ (by omega), hf a ha]
      obtain ⟨ho3, h⟩ := h
      refine ⟨ho3, ?_⟩
      exact h hf
  · intro h
    exact h hf
theorem N_X11_canJoin {x1 : Int} {x2 : Int} {v : VT} {q q' : Int → Prop} (h : P_X11_canJoin x1 x2 v q) (hq : ∀ r, q r → q' r) : P_X11_canJoin x1 x2 v q' := by
  unfold P_X11_canJoin at h ⊢
  refine N_X11_isNode h (fun r2 h => ?_)
  refine ⟨fun hc => ?_, fun hc => ?_⟩
  · replace h := h.1 hc
    exact hq _ h
  · replace h := h.2 hc
    refine N_X11_isNode h (fun r10 h => ?_)
    refine ⟨fun hc => ?_, fun hc => ?_⟩
    · replace h := h.1 hc
      exact hq _ h
    · replace h := h.2 hc
      refine ⟨fun hc => ?_, fun hc => ?_⟩
      · replace h := h.1 hc
        exact hq _ h
      · replace h := h.2 hc
        refine ⟨fun hc => ?_, fun hc => ?_⟩
        · replace h := h.1 hc
          exact hq _ h
        · replace h := h.2 hc
          refine N_X11_lineOf h (fun r38 h => ?_)
          refine ⟨fun hc => ?_, fun hc => ?_⟩
          · replace h := h.1 hc
            exact hq _ h
          · replace h := h.2 hc
            exact hq _ h
theorem N_X11_joins {x1 : Int} {x2 : Int} {v : VT} {q q' : VT → Prop} (h : P_X11_joins x1 x2 v q) (hq : ∀ w, q w → q' w) : P_X11_joins x1 x2 v q' := by
  unfold P_X11_joins at h ⊢
  refine N_X11_adds h (fun v7 h => ?_)
  intro v12 ev12
  replace h := h v12 ev12
  exact hq _ h
theorem F_X11_joins {x1 : Int} {x2 : Int} {v : VT} {q : VT → Prop} (h : P_X11_joins x1 x2 v q) : P_X11_joins x1 x2 v (fun w => q w ∧ ∀ a, ¬ (a = 218 ∨ a = 222) → w a = v a) := by
  unfold P_X11_joins at h ⊢
  have hf : ∀ a, ¬ (a = 218 ∨ a = 222) → v a = v a := fun a _ => rfl
  refine N_X11_adds (F_X11_adds h) (fun v7 h => ?_)
  obtain ⟨h, hg⟩ := h
  replace hf : ∀ a, ¬ (a = 218 ∨ a = 222) → v7 a = v a := fun a ha => by rw [hg a (by omega), hf a ha]
  clear hg
  intro v12 ev12
  replace h := h v12 ev12
  replace hf : ∀ a, ¬ (a = 218 ∨ a = 222) → v12 a = v a := fun a ha => by rw [ev12, upd2_off _ _ _ (by omega), hf a ha]
  exact ⟨h, hf⟩
theorem N_X11_join {x1 : Int} {x2 : Int} {v : VT} {q q' : Int → VT → Prop} (h : P_X11_join x1 x2 v q) (hq : ∀ r w, q r w → q' r w) : P_X11_join x1 x2 v q' := by
  unfold P_X11_join at h ⊢
  refine N_X11_canJoin h (fun r3 h => ?_)
  refine ⟨fun hc => ?_, fun hc => ?_⟩
  · replace h := h.1 hc
    refine N_X11_keeps h (fun v16 h => ?_)
    refine N_X11_joins h (fun v22 h => ?_)
    obtain ⟨ho1, h⟩ := h
    refine ⟨ho1, ?_⟩
    exact hq _ _ h
  · replace h := h.2 hc
    refine N_X11_refuses h (fun r11 v11 h => ?_)
    exact hq _ _ h
theorem F_X11_join {x1 : Int} {x2 : Int} {v : VT} {q : Int → VT → Prop} (h : P_X11_join x1 x2 v q) : P_X11_join x1 x2 v (fun r w => q r w ∧ ∀ a, ¬ (a = 218 ∨ a = 220 ∨ a = 222 ∨ a = 239) → w a = v a) := by
  unfold P_X11_join at h ⊢
  have hf : ∀ a, ¬ (a = 218 ∨ a = 220 ∨ a = 222 ∨ a = 239) → v a = v a := fun a _ => rfl
  refine N_X11_canJoin h (fun r3 h => ?_)
  refine ⟨fun hc => ?_, fun hc => ?_⟩
  · replace h := h.1 hc
    refine N_X11_keeps (F_X11_keeps h) (fun v16 h => ?_)
    obtain ⟨h, hg⟩ := h
    replace hf : ∀ a, ¬ (a = 218 ∨ a = 220 ∨ a = 222 ∨ a = 239) → v16 a = v a := fun a ha => by rw [hg a (by omega), hf a ha]
    clear hg
    refine N_X11_joins (F_X11_joins h) (fun v22 h => ?_)
    obtain ⟨h, hg⟩ := h
    replace hf : ∀ a, ¬ (a = 218 ∨ a = 220 ∨ a = 222 ∨ a = 239) → v22 a = v a := fun a ha => by rw [hg a (by omega), hf a ha]
    clear hg
    obtain ⟨ho1, h⟩ := h
    refine ⟨ho1, ?_⟩
    exact ⟨h, hf⟩
  · replace h := h.2 hc
    refine N_X11_refuses (F_X11_refuses h) (fun r11 v11 h => ?_)
    obtain ⟨h, hg⟩ := h
    replace hf : ∀ a, ¬ (a = 218 ∨ a = 220 ∨ a = 222 ∨ a = 239) → v11 a = v a := fun a ha => by rw [hg a (by omega), hf a ha]
    clear hg
    exact ⟨h, hf⟩
theorem N_X11_cuts {x1 : Int} {v : VT} {q q' : VT → Prop} (h : P_X11_cuts x1 v q) (hq : ∀ w, q w → q' w) : P_X11_cuts x1 v q' := by
  unfold P_X11_cuts at h ⊢
  obtain ⟨ho1, h⟩ := h
  refine ⟨ho1, ?_⟩
  obtain ⟨ho2, h⟩ := h
  refine ⟨ho2, ?_⟩
  intro l2 el2
  replace h := h l2 el2
  intro K44 hKK44
  refine n_cut (h K44) ?_ ?_
  · intro v44 h
    refine hKK44 v44 ?_
    intro K86 hKK86
    refine n_cut (h K86) ?_ ?_
    · intro v86 h
      refine hKK86 v86 ?_
      obtain ⟨ho3, h⟩ := h
      refine ⟨ho3, ?_⟩
      intro v95 ev95
      replace h := h v95 ev95
      intro v98 ev98
      replace h := h v98 ev98
      exact hq _ h
    · intro h
      intro X46 hKX46
      refine n_cut (h X46) ?_ ?_
      · intro i2 v46 h
        refine hKX46 i2 v46 ?_
        obtain ⟨ho4, h⟩ := h
        refine ⟨ho4, ?_⟩
        refine ⟨fun hc => ?_, fun hc => ?_⟩
        · replace h := h.1 hc
          exact h
        · replace h := h.2 hc
          obtain ⟨ho5, h⟩ := h
          refine ⟨ho5, ?_⟩
          obtain ⟨ho6, h⟩ := h
          refine ⟨ho6, ?_⟩
          obtain ⟨ho7, h⟩ := h
          refine ⟨ho7, ?_⟩
          obtain ⟨ho8, h⟩ := h
          refine ⟨ho8, ?_⟩
          obtain ⟨ho9, h⟩ := h
          refine ⟨ho9, ?_⟩
          intro v79 ev79
          replace h := h v79 ev79
          obtain ⟨ho10, h⟩ := h
          refine ⟨ho10, ?_⟩
          exact h
      · intro h
        exact h
  · intro h
    intro X7 hKX7
    refine n_cut (h X7) ?_ ?_
    · intro i2_1 v7 h
      refine hKX7 i2_1 v7 ?_
      obtain ⟨ho11, h⟩ := h
      refine ⟨ho11, ?_⟩
      obtain ⟨ho12, h⟩ := h
      refine ⟨ho12, ?_⟩
      obtain ⟨ho13, h⟩ := h
      refine ⟨ho13, ?_⟩
      refine ⟨fun hc => ?_, fun hc => ?_⟩
      · replace h := h.1 hc
        exact h
      · replace h := h.2 hc
        obtain ⟨ho14, h⟩ := h
        refine ⟨ho14, ?_⟩
        obtain ⟨ho15, h⟩ := h
        refine ⟨ho15, ?_⟩
        obtain ⟨ho16, h⟩ := h
        refine ⟨ho16, ?_⟩
        intro v37 ev37
        replace h := h v37 ev37
        obtain ⟨ho17, h⟩ := h
        refine ⟨ho17, ?_⟩
        exact h
    · intro h
      exact h
theorem F_X11_cuts {x1 : Int} {v : VT} {q : VT → Prop} (h : P_X11_cuts x1 v q) : P_X11_cuts x1 v (fun w => q w ∧ ∀ a, ¬ (a = 218 ∨ a = 222) → w a = v a) := by
  unfold P_X11_cuts at h ⊢
  have hf : ∀ a, ¬ (a = 218 ∨ a = 222) → v a = v a := fun a _ => rfl
  obtain ⟨ho1, h⟩ := h
  refine ⟨ho1, ?_⟩
  obtain ⟨ho2, h⟩ := h
  refine ⟨ho2, ?_⟩
  intro l2 el2
  replace h := h l2 el2
  intro K44 hKK44
  refine n_cut (h (fun (v44 : VT) => (∀ a, ¬ (a = 218 ∨ a = 222) → v44 a = v a) → K44 v44)) ?_ ?_
  · intro v44 h hf
    refine hKK44 v44 ?_
    intro K86 hKK86
    refine n_cut (h (fun (v86 : VT) => (∀ a, ¬ (a = 218 ∨ a = 222) → v86 a = v a) → K86 v86)) ?_ ?_
    · intro v86 h hf
      refine hKK86 v86 ?_
      obtain ⟨ho3, h⟩ := h
      refine ⟨ho3, ?_⟩
      intro v95 ev95
      replace h := h v95 ev95
      replace hf : ∀ a, ¬ (a = 218 ∨ a = 222) → v95 a = v a := fun a ha => by rw [ev95, upd2_off _ _ _ (by omega), hf a ha]
      intro v98 ev98
      replace h := h v98 ev98
      replace hf : ∀ a, ¬ (a = 218 ∨ a = 222) → v98 a = v a := fun a ha => by rw [ev98, upd2_off _ _ _ (by omega), hf a ha]
      exact ⟨h, hf⟩
    · intro h
      intro X46 hKX46
      refine n_cut (h (fun (i2 : Int) (v46 : VT) => (∀ a, ¬ (a = 218 ∨ a = 222) → v46 a = v a) → X46 i2 v46)) ?_ ?_
      · intro i2 v46 h hf
        refine hKX46 i2 v46 ?_
        obtain ⟨ho4, h⟩ := h
        refine ⟨ho4, ?_⟩
        refine ⟨fun hc => ?_, fun hc => ?_⟩
        · replace h := h.1 hc
          exact h hf
        · replace h := h.2 hc
          obtain ⟨ho5, h⟩ := h
          refine ⟨ho5, ?_⟩
          obtain ⟨ho6, h⟩ := h
          refine ⟨ho6, ?_⟩
          obtain ⟨ho7, h⟩ := h
          refine ⟨ho7, ?_⟩
          obtain ⟨ho8, h⟩ := h
          refine ⟨ho8, ?_⟩
          obtain ⟨ho9, h⟩ := h
          refine ⟨ho9, ?_⟩
          intro v79 ev79
          replace h := h v79 ev79
          replace hf : ∀ a, ¬ (a = 218 ∨ a = 222) → v79 a = v a := fun a ha => by rw [ev79, upd2_off _ _ _ (by omega), hf a ha]
          obtain ⟨ho10, h⟩ := h
          refine ⟨ho10, ?_⟩
          exact h hf
      · intro h
        exact h hf
  · intro h
    intro X7 hKX7
    refine n_cut (h (fun (i2_1 : Int) (v7 : VT) => (∀ a, ¬ (a = 218 ∨ a = 222) → v7 a = v a) → X7 i2_1 v7)) ?_ ?_
    · intro i2_1 v7 h hf
      refine hKX7 i2_1 v7 ?_
      obtain ⟨ho11, h⟩ := h
      refine ⟨ho11, ?_⟩
      obtain ⟨ho12, h⟩ := h
      refine ⟨ho12, ?_⟩
      obtain ⟨ho13, h⟩ := h
      refine ⟨ho13, ?_⟩
      refine ⟨fun hc => ?_, fun hc => ?_⟩
      · replace h := h.1 hc
        exact h hf
      · replace h := h.2 hc
        obtain ⟨ho14, h⟩ := h
        refine ⟨ho14, ?_⟩
        obtain ⟨ho15, h⟩ := h
        refine ⟨ho15, ?_⟩
        obtain ⟨ho16, h⟩ := h
        refine ⟨ho16, ?_⟩
        intro v37 ev37
        replace h := h v37 ev37
        replace hf : ∀ a, ¬ (a = 218 ∨ a = 222) → v37 a = v a := fun a ha => by rw [ev37, upd2_off _ _ _ (by omega), hf a ha]
        obtain ⟨ho17, h⟩ := h
        refine ⟨ho17, ?_⟩
        exact h hf
    · intro h
      exact h hf
theorem N_X11_toll {x1 : Int} {x2 : Int} {v : VT} {q q' : Int → VT → Prop} (h : P_X11_toll x1 x2 v q) (hq : ∀ r w, q r w → q' r w) : P_X11_toll x1 x2 v q' := by
  unfold P_X11_toll at h ⊢
  refine N_X11_isLine h (fun r2 h => ?_)
  refine ⟨fun hc => ?_, fun hc => ?_⟩
  · replace h := h.1 hc
    refine N_X11_isRefused h (fun r31 v31 h => ?_)
    obtain ⟨ho1, h⟩ := h
    refine ⟨ho1, ?_⟩
    exact hq _ _ h
  · replace h := h.2 hc
    refine N_X11_isIn h (fun r14 h => ?_)
    refine ⟨fun hc => ?_, fun hc => ?_⟩
    · replace h := h.1 hc
      refine N_X11_isRefused h (fun r31_1 v31_1 h => ?_)
      obtain ⟨ho2, h⟩ := h
      refine ⟨ho2, ?_⟩
      exact hq _ _ h
    · replace h := h.2 hc
      refine N_X11_priceOf h (fun r22 h => ?_)
      refine ⟨fun hc => ?_, fun hc => ?_⟩
      · replace h := h.1 hc
        refine N_X11_keeps h (fun v36 h => ?_)
        obtain ⟨ho3, h⟩ := h
        refine ⟨ho3, ?_⟩
        obtain ⟨ho4, h⟩ := h
        refine ⟨ho4, ?_⟩
        intro v49 ev49
        replace h := h v49 ev49
        exact hq _ _ h
      · replace h := h.2 hc
        refine N_X11_isRefused h (fun r31_2 v31_2 h => ?_)
        obtain ⟨ho5, h⟩ := h
        refine ⟨ho5, ?_⟩
        exact hq _ _ h
theorem F_X11_toll {x1 : Int} {x2 : Int} {v : VT} {q : Int → VT → Prop} (h : P_X11_toll x1 x2 v q) : P_X11_toll x1 x2 v (fun r w => q r w ∧ ∀ a, ¬ (a = 218 ∨ a = 220 ∨ a = 222 ∨ a = 239) → w a = v a) := by
  unfold P_X11_toll at h ⊢
  have hf : ∀ a, ¬ (a = 218 ∨ a = 220 ∨ a = 222 ∨ a = 239) → v a = v a := fun a _ => rfl
  refine N_X11_isLine h (fun r2 h => ?_)
  refine ⟨fun hc => ?_, fun hc => ?_⟩
  · replace h := h.1 hc
    refine N_X11_isRefused (F_X11_isRefused h) (fun r31 v31 h => ?_)
    obtain ⟨h, hg⟩ := h
    replace hf : ∀ a, ¬ (a = 218 ∨ a = 220 ∨ a = 222 ∨ a = 239) → v31 a = v a := fun a ha => by rw [hg a (by omega), hf a ha]
    clear hg
    obtain ⟨ho1, h⟩ := h
    refine ⟨ho1, ?_⟩
    exact ⟨h, hf⟩
  · replace h := h.2 hc
    refine N_X11_isIn h (fun r14 h => ?_)
    refine ⟨fun hc => ?_, fun hc => ?_⟩
    · replace h := h.1 hc
      refine N_X11_isRefused (F_X11_isRefused h) (fun r31_1 v31_1 h => ?_)
      obtain ⟨h, hg⟩ := h
      replace hf : ∀ a, ¬ (a = 218 ∨ a = 220 ∨ a = 222 ∨ a = 239) → v31_1 a = v a := fun a ha => by rw [hg a (by omega), hf a ha]
      clear hg
      obtain ⟨ho2, h⟩ := h
      refine ⟨ho2, ?_⟩
      exact ⟨h, hf⟩
    · replace h := h.2 hc
      refine N_X11_priceOf h (fun r22 h => ?_)
      refine ⟨fun hc => ?_, fun hc => ?_⟩
      · replace h := h.1 hc
        refine N_X11_keeps (F_X11_keeps h) (fun v36 h => ?_)
        obtain ⟨h, hg⟩ := h
        replace hf : ∀ a, ¬ (a = 218 ∨ a = 220 ∨ a = 222 ∨ a = 239) → v36 a = v a := fun a ha => by rw [hg a (by omega), hf a ha]
        clear hg
        obtain ⟨ho3, h⟩ := h
        refine ⟨ho3, ?_⟩
        obtain ⟨ho4, h⟩ := h
        refine ⟨ho4, ?_⟩
        intro v49 ev49
        replace h := h v49 ev49
        replace hf : ∀ a, ¬ (a = 218 ∨ a = 220 ∨ a = 222 ∨ a = 239) → v49 a = v a := fun a ha => by rw [ev49, upd2_off _ _ _ (by omega), hf a ha]
        exact ⟨h, hf⟩
      · replace h := h.2 hc
        refine N_X11_isRefused (F_X11_isRefused h) (fun r31_2 v31_2 h => ?_)
        obtain ⟨h, hg⟩ := h
        replace hf : ∀ a, ¬ (a = 218 ∨ a = 220 ∨ a = 222 ∨ a = 239) → v31_2 a = v a := fun a ha => by rw [hg a (by omega), hf a ha]
        clear hg
        obtain ⟨ho5, h⟩ := h
        refine ⟨ho5, ?_⟩
        exact ⟨h, hf⟩
theorem N_X11_cut {x1 : Int} {v : VT} {q q' : Int → VT → Prop} (h : P_X11_cut x1 v q) (hq : ∀ r w, q r w → q' r w) : P_X11_cut x1 v q' := by
  unfold P_X11_cut at h ⊢
  refine N_X11_isLine h (fun r2 h => ?_)
  refine ⟨fun hc => ?_, fun hc => ?_⟩
  · replace h := h.1 hc
    refine N_X11_keeps h (fun v15 h => ?_)
    refine N_X11_cuts h (fun v20 h => ?_)
    exact hq _ _ h
  · replace h := h.2 hc
    refine N_X11_isRefused h (fun r10 v10 h => ?_)
    obtain ⟨ho1, h⟩ := h
    refine ⟨ho1, ?_⟩
    exact hq _ _ h
theorem F_X11_cut {x1 : Int} {v : VT} {q : Int → VT → Prop} (h : P_X11_cut x1 v q) : P_X11_cut x1 v (fun r w => q r w ∧ ∀ a, ¬ (a = 218 ∨ a = 220 ∨ a = 222 ∨ a = 239) → w a = v a) := by
  unfold P_X11_cut at h ⊢
  have hf : ∀ a, ¬ (a = 218 ∨ a = 220 ∨ a = 222 ∨ a = 239) → v a = v a := fun a _ => rfl
  refine N_X11_isLine h (fun r2 h => ?_)
  refine ⟨fun hc => ?_, fun hc => ?_⟩
  · replace h := h.1 hc
    refine N_X11_keeps (F_X11_keeps h) (fun v15 h => ?_)
    obtain ⟨h, hg⟩ := h
    replace hf : ∀ a, ¬ (a = 218 ∨ a = 220 ∨ a = 222 ∨ a = 239) → v15 a = v a := fun a ha => by rw [hg a (by omega), hf a ha]
    clear hg
    refine N_X11_cuts (F_X11_cuts h) (fun v20 h => ?_)
    obtain ⟨h, hg⟩ := h
    replace hf : ∀ a, ¬ (a = 218 ∨ a = 220 ∨ a = 222 ∨ a = 239) → v20 a = v a := fun a ha => by rw [hg a (by omega), hf a ha]
    clear hg
    exact ⟨h, hf⟩
  · replace h := h.2 hc
    refine N_X11_isRefused (F_X11_isRefused h) (fun r10 v10 h => ?_)
    obtain ⟨h, hg⟩ := h
    replace hf : ∀ a, ¬ (a = 218 ∨ a = 220 ∨ a = 222 ∨ a = 239) → v10 a = v a := fun a ha => by rw [hg a (by omega), hf a ha]
    clear hg
    obtain ⟨ho1, h⟩ := h
    refine ⟨ho1, ?_⟩
    exact ⟨h, hf⟩
theorem N_X11_canGrow {x1 : Int} {v : VT} {q q' : Int → Prop} (h : P_X11_canGrow x1 v q) (hq : ∀ r, q r → q' r) : P_X11_canGrow x1 v q' := by
  unfold P_X11_canGrow at h ⊢
  refine N_X11_isNode h (fun r2 h => ?_)
  refine ⟨fun hc => ?_, fun hc => ?_⟩
  · replace h := h.1 hc
    exact hq _ h
  · replace h := h.2 hc
    refine ⟨fun hc => ?_, fun hc => ?_⟩
    · replace h := h.1 hc
      exact hq _ h
    · replace h := h.2 hc
      refine ⟨fun hc => ?_, fun hc => ?_⟩
      · replace h := h.1 hc
        exact hq _ h
      · replace h := h.2 hc
        exact hq _ h
theorem N_X11_grows {x1 : Int} {v : VT} {q q' : VT → Prop} (h : P_X11_grows x1 v q) (hq : ∀ w, q w → q' w) : P_X11_grows x1 v q' := by
  unfold P_X11_grows at h ⊢
  obtain ⟨ho1, h⟩ := h
  refine ⟨ho1, ?_⟩
  obtain ⟨ho2, h⟩ := h
  refine ⟨ho2, ?_⟩
  intro v13 ev13
  replace h := h v13 ev13
  obtain ⟨ho3, h⟩ := h
  refine ⟨ho3, ?_⟩
  intro v23 ev23
  replace h := h v23 ev23
  obtain ⟨ho4, h⟩ := h
  refine ⟨ho4, ?_⟩
  refine N_X11_joins h (fun v34 h => ?_)
  exact hq _ h
theorem F_X11_grows {x1 : Int} {v : VT} {q : VT → Prop} (h : P_X11_grows x1 v q) : P_X11_grows x1 v (fun w => q w ∧ ∀ a, ¬ (a = 218 ∨ a = 222) → w a = v a) := by
  unfold P_X11_grows at h ⊢
  have hf : ∀ a, ¬ (a = 218 ∨ a = 222) → v a = v a := fun a _ => rfl
  obtain ⟨ho1, h⟩ := h
  refine ⟨ho1, ?_⟩
  obtain ⟨ho2, h⟩ := h
  refine ⟨ho2, ?_⟩
  intro v13 ev13
  replace h := h v13 ev13
  replace hf : ∀ a, ¬ (a = 218 ∨ a = 222) → v13 a = v a := fun a ha => by rw [ev13, upd2_off _ _ _ (by omega), hf a ha]
  obtain ⟨ho3, h⟩ := h
  refine ⟨ho3, ?_⟩
  intro v23 ev23
  replace h := h v23 ev23
  replace hf : ∀ a, ¬ (a = 218 ∨ a = 222) → v23 a = v a := fun a ha => by rw [ev23, upd2_off _ _ _ (by omega), hf a ha]
  obtain ⟨ho4, h⟩ := h
  refine ⟨ho4, ?_⟩
  refine N_X11_joins (F_X11_joins h) (fun v34 h => ?_)
  obtain ⟨h, hg⟩ := h
  replace hf : ∀ a, ¬ (a = 218 ∨ a = 222) → v34 a = v a := fun a ha => by rw [hg a (by omega), hf a ha]
  clear hg
  exact ⟨h, hf⟩
theorem N_X11_grow {x1 : Int} {v : VT} {q q' : Int → VT → Prop} (h : P_X11_grow x1 v q) (hq : ∀ r w, q r w → q' r w) : P_X11_grow x1 v q' := by
  unfold P_X11_grow at h ⊢
  refine N_X11_canGrow h (fun r2 h => ?_)
  refine ⟨fun hc => ?_, fun hc => ?_⟩
  · replace h := h.1 hc
    refine N_X11_keeps h (fun v15 h => ?_)
    refine N_X11_grows h (fun v20 h => ?_)
    obtain ⟨ho1, h⟩ := h
    refine ⟨ho1, ?_⟩
    exact hq _ _ h
  · replace h := h.2 hc
    refine N_X11_refuses h (fun r10 v10 h => ?_)
    exact hq _ _ h
theorem F_X11_grow {x1 : Int} {v : VT} {q : Int → VT → Prop} (h : P_X11_grow x1 v q) : P_X11_grow x1 v (fun r w => q r w ∧ ∀ a, ¬ (a = 218 ∨ a = 220 ∨ a = 222 ∨ a = 239) → w a = v a) := by
  unfold P_X11_grow at h ⊢
  have hf : ∀ a, ¬ (a = 218 ∨ a = 220 ∨ a = 222 ∨ a = 239) → v a = v a := fun a _ => rfl
  refine N_X11_canGrow h (fun r2 h => ?_)
  refine ⟨fun hc => ?_, fun hc => ?_⟩
  · replace h := h.1 hc
    refine N_X11_keeps (F_X11_keeps h) (fun v15 h => ?_)
    obtain ⟨h, hg⟩ := h
    replace hf : ∀ a, ¬ (a = 218 ∨ a = 220 ∨ a = 222 ∨ a = 239) → v15 a = v a := fun a ha => by rw [hg a (by omega), hf a ha]
    clear hg
    refine N_X11_grows (F_X11_grows h) (fun v20 h => ?_)
    obtain ⟨h, hg⟩ := h
    replace hf : ∀ a, ¬ (a = 218 ∨ a = 220 ∨ a = 222 ∨ a = 239) → v20 a = v a := fun a ha => by rw [hg a (by omega), hf a ha]
    clear hg
    obtain ⟨ho1, h⟩ := h
    refine ⟨ho1, ?_⟩
    exact ⟨h, hf⟩
  · replace h := h.2 hc
    refine N_X11_refuses (F_X11_refuses h) (fun r10 v10 h => ?_)
    obtain ⟨h, hg⟩ := h
    replace hf : ∀ a, ¬ (a = 218 ∨ a = 220 ∨ a = 222 ∨ a = 239) → v10 a = v a := fun a ha => by rw [hg a (by omega), hf a ha]
    clear hg
    exact ⟨h, hf⟩
theorem N_X11_turns {x1 : Int} {v : VT} {q q' : VT → Prop} (h : P_X11_turns x1 v q) (hq : ∀ w, q w → q' w) : P_X11_turns x1 v q' := by
  unfold P_X11_turns at h ⊢
  intro v6 ev6
  replace h := h v6 ev6
  intro v13 ev13
  replace h := h v13 ev13
  intro K37 hKK37
  refine n_cut (h K37) ?_ ?_
  · intro v37 h
    refine hKK37 v37 ?_
    obtain ⟨ho1, h⟩ := h
    refine ⟨ho1, ?_⟩
    intro l2 el2
    replace h := h l2 el2
    intro K87 hKK87
    refine n_cut (h K87) ?_ ?_
    · intro v87 h
      refine hKK87 v87 ?_
      intro X89 hKX89
      refine n_cut (h X89) ?_ ?_
      · intro i2 v89 h
        refine hKX89 i2 v89 ?_
        refine ⟨fun hc => ?_, fun hc => ?_⟩
        · replace h := h.1 hc
          refine N_X11_isNext h (fun v175 h => ?_)
          exact hq _ h
        · replace h := h.2 hc
          refine N_X11_low h (fun r105 h => ?_)
          obtain ⟨ho2, h⟩ := h
          refine ⟨ho2, ?_⟩
          intro l3 el3
          replace h := h l3 el3
          refine N_X11_high h (fun r116 h => ?_)
          obtain ⟨ho3, h⟩ := h
          refine ⟨ho3, ?_⟩
          intro l4 el4
          replace h := h l4 el4
          refine ⟨fun hc => ?_, fun hc => ?_⟩
          · replace h := h.1 hc
            obtain ⟨ho4, h⟩ := h
            refine ⟨ho4, ?_⟩
            exact h
          · replace h := h.2 hc
            refine ⟨fun hc => ?_, fun hc => ?_⟩
            · replace h := h.1 hc
              obtain ⟨ho5, h⟩ := h
              refine ⟨ho5, ?_⟩
              exact h
            · replace h := h.2 hc
              refine ⟨fun hc => ?_, fun hc => ?_⟩
              · replace h := h.1 hc
                obtain ⟨ho6, h⟩ := h
                refine ⟨ho6, ?_⟩
                exact h
              · replace h := h.2 hc
                refine N_X11_lineOf h (fun r146 h => ?_)
                refine ⟨fun hc => ?_, fun hc => ?_⟩
                · replace h := h.1 hc
                  obtain ⟨ho7, h⟩ := h
                  refine ⟨ho7, ?_⟩
                  exact h
                · replace h := h.2 hc
                  refine N_X11_priceOf h (fun r162 h => ?_)
                  refine N_X11_adds h (fun v165 h => ?_)
                  obtain ⟨ho8, h⟩ := h
                  refine ⟨ho8, ?_⟩
                  exact h
      · intro h
        exact h
    · intro h
      intro X46 hKX46
      refine n_cut (h X46) ?_ ?_
      · intro i2_1 v46 h
        refine hKX46 i2_1 v46 ?_
        refine ⟨fun hc => ?_, fun hc => ?_⟩
        · replace h := h.1 hc
          exact h
        · replace h := h.2 hc
          obtain ⟨ho9, h⟩ := h
          refine ⟨ho9, ?_⟩
          refine ⟨fun hc => ?_, fun hc => ?_⟩
          · replace h := h.1 hc
            obtain ⟨ho10, h⟩ := h
            refine ⟨ho10, ?_⟩
            exact h
          · replace h := h.2 hc
            obtain ⟨ho11, h⟩ := h
            refine ⟨ho11, ?_⟩
            obtain ⟨ho12, h⟩ := h
            refine ⟨ho12, ?_⟩
            obtain ⟨ho13, h⟩ := h
            refine ⟨ho13, ?_⟩
            obtain ⟨ho14, h⟩ := h
            refine ⟨ho14, ?_⟩
            obtain ⟨ho15, h⟩ := h
            refine ⟨ho15, ?_⟩
            intro v80 ev80
            replace h := h v80 ev80
            obtain ⟨ho16, h⟩ := h
            refine ⟨ho16, ?_⟩
            exact h
      · intro h
        exact h
  · intro h
    intro X16 hKX16
    refine n_cut (h X16) ?_ ?_
    · intro i2_2 v16 h
      refine hKX16 i2_2 v16 ?_
      refine ⟨fun hc => ?_, fun hc => ?_⟩
      · replace h := h.1 hc
        exact h
      · replace h := h.2 hc
        obtain ⟨ho17, h⟩ := h
        refine ⟨ho17, ?_⟩
        obtain ⟨ho18, h⟩ := h
        refine ⟨ho18, ?_⟩
        intro v30 ev30
        replace h := h v30 ev30
        obtain ⟨ho19, h⟩ := h
        refine ⟨ho19, ?_⟩
        exact h
    · intro h
      exact h
theorem F_X11_turns {x1 : Int} {v : VT} {q : VT → Prop} (h : P_X11_turns x1 v q) : P_X11_turns x1 v (fun w => q w ∧ ∀ a, ¬ (a = 218 ∨ (222 ≤ a ∧ a ≤ 223)) → w a = v a) := by
  unfold P_X11_turns at h ⊢
  have hf : ∀ a, ¬ (a = 218 ∨ (222 ≤ a ∧ a ≤ 223)) → v a = v a := fun a _ => rfl
  intro v6 ev6
  replace h := h v6 ev6
  replace hf : ∀ a, ¬ (a = 218 ∨ (222 ≤ a ∧ a ≤ 223)) → v6 a = v a := fun a ha => by rw [ev6, upd2_off _ _ _ (by omega), hf a ha]
  intro v13 ev13
  replace h := h v13 ev13
  replace hf : ∀ a, ¬ (a = 218 ∨ (222 ≤ a ∧ a ≤ 223)) → v13 a = v a := fun a ha => by rw [ev13, upd2_off _ _ _ (by omega), hf a ha]
  intro K37 hKK37
  refine n_cut (h (fun (v37 : VT) => (∀ a, ¬ (a = 218 ∨ (222 ≤ a ∧ a ≤ 223)) → v37 a = v a) → K37 v37)) ?_ ?_
  · intro v37 h hf
    refine hKK37 v37 ?_
    obtain ⟨ho1, h⟩ := h
    refine ⟨ho1, ?_⟩
    intro l2 el2
    replace h := h l2 el2
    intro K87 hKK87
    refine n_cut (h (fun (v87 : VT) => (∀ a, ¬ (a = 218 ∨ (222 ≤ a ∧ a ≤ 223)) → v87 a = v a) → K87 v87)) ?_ ?_
    · intro v87 h hf
      refine hKK87 v87 ?_
      intro X89 hKX89
      refine n_cut (h (fun (i2 : Int) (v89 : VT) => (∀ a, ¬ (a = 218 ∨ (222 ≤ a ∧ a ≤ 223)) → v89 a = v a) → X89 i2 v89)) ?_ ?_
      · intro i2 v89 h hf
        refine hKX89 i2 v89 ?_
        refine ⟨fun hc => ?_, fun hc => ?_⟩
        · replace h := h.1 hc
          refine N_X11_isNext (F_X11_isNext h) (fun v175 h => ?_)
          obtain ⟨h, hg⟩ := h
          replace hf : ∀ a, ¬ (a = 218 ∨ (222 ≤ a ∧ a ≤ 223)) → v175 a = v a := fun a ha => by rw [hg a (by omega), hf a ha]
          clear hg
          exact ⟨h, hf⟩
        · replace h := h.2 hc
          refine N_X11_low h (fun r105 h => ?_)
          obtain ⟨ho2, h⟩ := h
          refine ⟨ho2, ?_⟩
          intro l3 el3
          replace h := h l3 el3
          refine N_X11_high h (fun r116 h => ?_)
          obtain ⟨ho3, h⟩ := h
          refine ⟨ho3, ?_⟩
          intro l4 el4
          replace h := h l4 el4
          refine ⟨fun hc => ?_, fun hc => ?_⟩
          · replace h := h.1 hc
            obtain ⟨ho4, h⟩ := h
            refine ⟨ho4, ?_⟩
            exact h hf
          · replace h := h.2 hc
            refine ⟨fun hc => ?_, fun hc => ?_⟩
            · replace h := h.1 hc
              obtain ⟨ho5, h⟩ := h
              refine ⟨ho5, ?_⟩
              exact h hf
            · replace h := h.2 hc
              refine ⟨fun hc => ?_, fun hc => ?_⟩
              · replace h := h.1 hc
                obtain ⟨ho6, h⟩ := h
                refine ⟨ho6, ?_⟩
                exact h hf
              · replace h := h.2 hc
                refine N_X11_lineOf h (fun r146 h => ?_)
                refine ⟨fun hc => ?_, fun hc => ?_⟩
                · replace h := h.1 hc
                  obtain ⟨ho7, h⟩ := h
                  refine ⟨ho7, ?_⟩
                  exact h hf
                · replace h := h.2 hc
                  refine N_X11_priceOf h (fun r162 h => ?_)
                  refine N_X11_adds (F_X11_adds h) (fun v165 h => ?_)
                  obtain ⟨h, hg⟩ := h
                  replace hf : ∀ a, ¬ (a = 218 ∨ (222 ≤ a ∧ a ≤ 223)) → v165 a = v a := fun a ha => by rw [hg a (by omega), hf a ha]
                  clear hg
                  obtain ⟨ho8, h⟩ := h
                  refine ⟨ho8, ?_⟩
                  exact h hf
      · intro h
        exact h hf
    · intro h
      intro X46 hKX46
      refine n_cut (h (fun (i2_1 : Int) (v46 : VT) => (∀ a, ¬ (a = 218 ∨ (222 ≤ a ∧ a ≤ 223)) → v46 a = v a) → X46 i2_1 v46)) ?_ ?_
      · intro i2_1 v46 h hf
        refine hKX46 i2_1 v46 ?_
        refine ⟨fun hc => ?_, fun hc => ?_⟩
        · replace h := h.1 hc
          exact h hf
        · replace h := h.2 hc
          obtain ⟨ho9, h⟩ := h
          refine ⟨ho9, ?_⟩
          refine ⟨fun hc => ?_, fun hc => ?_⟩
          · replace h := h.1 hc
            obtain ⟨ho10, h⟩ := h
            refine ⟨ho10, ?_⟩
            exact h hf
          · replace h := h.2 hc
            obtain ⟨ho11, h⟩ := h
            refine ⟨ho11, ?_⟩
            obtain ⟨ho12, h⟩ := h
            refine ⟨ho12, ?_⟩
            obtain ⟨ho13, h⟩ := h
            refine ⟨ho13, ?_⟩
            obtain ⟨ho14, h⟩ := h
            refine ⟨ho14, ?_⟩
            obtain ⟨ho15, h⟩ := h
            refine ⟨ho15, ?_⟩
            intro v80 ev80
            replace h := h v80 ev80
            replace hf : ∀ a, ¬ (a = 218 ∨ (222 ≤ a ∧ a ≤ 223)) → v80 a = v a := fun a ha => by rw [ev80, upd2_off _ _ _ (by omega), hf a ha]
            obtain ⟨ho16, h⟩ := h
            refine ⟨ho16, ?_⟩
            exact h hf
      · intro h
        exact h hf
  · intro h
    intro X16 hKX16
    refine n_cut (h (fun (i2_2 : Int) (v16 : VT) => (∀ a, ¬ (a = 218 ∨ (222 ≤ a ∧ a ≤ 223)) → v16 a = v a) → X16 i2_2 v16)) ?_ ?_
    · intro i2_2 v16 h hf
      refine hKX16 i2_2 v16 ?_
      refine ⟨fun hc => ?_, fun hc => ?_⟩
      · replace h := h.1 hc
        exact h hf
      · replace h := h.2 hc
        obtain ⟨ho17, h⟩ := h
        refine ⟨ho17, ?_⟩
        obtain ⟨ho18, h⟩ := h
        refine ⟨ho18, ?_⟩
        intro v30 ev30
        replace h := h v30 ev30
        replace hf : ∀ a, ¬ (a = 218 ∨ (222 ≤ a ∧ a ≤ 223)) → v30 a = v a := fun a ha => by rw [ev30, upd2_off _ _ _ (by omega), hf a ha]
        obtain ⟨ho19, h⟩ := h
        refine ⟨ho19, ?_⟩
        exact h hf
    · intro h
      exact h hf
theorem N_X11_drop {x1 : Int} {v : VT} {q q' : Int → VT → Prop} (h : P_X11_drop x1 v q) (hq : ∀ r w, q r w → q' r w) : P_X11_drop x1 v q' := by
  unfold P_X11_drop at h ⊢
  refine N_X11_isNode h (fun r2 h => ?_)
  refine ⟨fun hc => ?_, fun hc => ?_⟩
  · replace h := h.1 hc
    refine N_X11_isRefused h (fun r20 v20 h => ?_)
    obtain ⟨ho1, h⟩ := h
    refine ⟨ho1, ?_⟩
    exact hq _ _ h
  · replace h := h.2 hc
    refine ⟨fun hc => ?_, fun hc => ?_⟩
    · replace h := h.1 hc
      refine N_X11_keeps h (fun v25 h => ?_)
      intro K73 hKK73
      refine n_cut (h K73) ?_ ?_
      · intro v73 h
        refine hKK73 v73 ?_
        obtain ⟨ho2, h⟩ := h
        refine ⟨ho2, ?_⟩
        refine N_X11_turns h (fun v82 h => ?_)
        exact hq _ _ h
      · intro h
        intro X30 hKX30
        refine n_cut (h X30) ?_ ?_
        · intro i2 v30 h
          refine hKX30 i2 v30 ?_
          refine ⟨fun hc => ?_, fun hc => ?_⟩
          · replace h := h.1 hc
            exact h
          · replace h := h.2 hc
            refine ⟨fun hc => ?_, fun hc => ?_⟩
            · replace h := h.1 hc
              refine ⟨fun hc => ?_, fun hc => ?_⟩
              · replace h := h.1 hc
                obtain ⟨ho3, h⟩ := h
                refine ⟨ho3, ?_⟩
                intro v66 ev66
                replace h := h v66 ev66
                obtain ⟨ho4, h⟩ := h
                refine ⟨ho4, ?_⟩
                exact h
              · replace h := h.2 hc
                obtain ⟨ho5, h⟩ := h
                refine ⟨ho5, ?_⟩
                obtain ⟨ho6, h⟩ := h
                refine ⟨ho6, ?_⟩
                intro v66_1 ev66_1
                replace h := h v66_1 ev66_1
                obtain ⟨ho7, h⟩ := h
                refine ⟨ho7, ?_⟩
                exact h
            · replace h := h.2 hc
              obtain ⟨ho8, h⟩ := h
              refine ⟨ho8, ?_⟩
              intro v66_2 ev66_2
              replace h := h v66_2 ev66_2
              obtain ⟨ho9, h⟩ := h
              refine ⟨ho9, ?_⟩
              exact h
        · intro h
          exact h
    · replace h := h.2 hc
      refine N_X11_isRefused h (fun r20_1 v20_1 h => ?_)
      obtain ⟨ho10, h⟩ := h
      refine ⟨ho10, ?_⟩
      exact hq _ _ h
theorem F_X11_drop {x1 : Int} {v : VT} {q : Int → VT → Prop} (h : P_X11_drop x1 v q) : P_X11_drop x1 v (fun r w => q r w ∧ ∀ a, ¬ (a = 218 ∨ a = 220 ∨ (222 ≤ a ∧ a ≤ 223) ∨ (239 ≤ a ∧ a ≤ 240)) → w a = v a) := by
  unfold P_X11_drop at h ⊢
  have hf : ∀ a, ¬ (a = 218 ∨ a = 220 ∨ (222 ≤ a ∧ a ≤ 223) ∨ (239 ≤ a ∧ a ≤ 240)) → v a = v a := fun a _ => rfl
  refine N_X11_isNode h (fun r2 h => ?_)
  refine ⟨fun hc => ?_, fun hc => ?_⟩
  · replace h := h.1 hc
    refine N_X11_isRefused (F_X11_isRefused h) (fun r20 v20 h => ?_)
    obtain ⟨h, hg⟩ := h
    replace hf : ∀ a, ¬ (a = 218 ∨ a = 220 ∨ (222 ≤ a ∧ a ≤ 223) ∨ (239 ≤ a ∧ a ≤ 240)) → v20 a = v a := fun a ha => by rw [hg a (by omega), hf a ha]
    clear hg
    obtain ⟨ho1, h⟩ := h
    refine ⟨ho1, ?_⟩
    exact ⟨h, hf⟩
  · replace h := h.2 hc
    refine ⟨fun hc => ?_, fun hc => ?_⟩
    · replace h := h.1 hc
      refine N_X11_keeps (F_X11_keeps h) (fun v25 h => ?_)
      obtain ⟨h, hg⟩ := h
      replace hf : ∀ a, ¬ (a = 218 ∨ a = 220 ∨ (222 ≤ a ∧ a ≤ 223) ∨ (239 ≤ a ∧ a ≤ 240)) → v25 a = v a := fun a ha => by rw [hg a (by omega), hf a ha]
      clear hg
      intro K73 hKK73
      refine n_cut (h (fun (v73 : VT) => (∀ a, ¬ (a = 218 ∨ a = 220 ∨ (222 ≤ a ∧ a ≤ 223) ∨ (239 ≤ a ∧ a ≤ 240)) → v73 a = v a) → K73 v73)) ?_ ?_
      · intro v73 h hf
        refine hKK73 v73 ?_
        obtain ⟨ho2, h⟩ := h
        refine ⟨ho2, ?_⟩
        refine N_X11_turns (F_X11_turns h) (fun v82 h => ?_)
        obtain ⟨h, hg⟩ := h
        replace hf : ∀ a, ¬ (a = 218 ∨ a = 220 ∨ (222 ≤ a ∧ a ≤ 223) ∨ (239 ≤ a ∧ a ≤ 240)) → v82 a = v a := fun a ha => by rw [hg a (by omega), hf a ha]
        clear hg
        exact ⟨h, hf⟩
      · intro h
        intro X30 hKX30
        refine n_cut (h (fun (i2 : Int) (v30 : VT) => (∀ a, ¬ (a = 218 ∨ a = 220 ∨ (222 ≤ a ∧ a ≤ 223) ∨ (239 ≤ a ∧ a ≤ 240)) → v30 a = v a) → X30 i2 v30)) ?_ ?_
        · intro i2 v30 h hf
          refine hKX30 i2 v30 ?_
          refine ⟨fun hc => ?_, fun hc => ?_⟩
          · replace h := h.1 hc
            exact h hf
          · replace h := h.2 hc
            refine ⟨fun hc => ?_, fun hc => ?_⟩
            · replace h := h.1 hc
              refine ⟨fun hc => ?_, fun hc => ?_⟩
              · replace h := h.1 hc
                obtain ⟨ho3, h⟩ := h
                refine ⟨ho3, ?_⟩
                intro v66 ev66
                replace h := h v66 ev66
                replace hf : ∀ a, ¬ (a = 218 ∨ a = 220 ∨ (222 ≤ a ∧ a ≤ 223) ∨ (239 ≤ a ∧ a ≤ 240)) → v66 a = v a := fun a ha => by rw [ev66, upd2_off _ _ _ (by omega), hf a ha]
                obtain ⟨ho4, h⟩ := h
                refine ⟨ho4, ?_⟩
                exact h hf
              · replace h := h.2 hc
                obtain ⟨ho5, h⟩ := h
                refine ⟨ho5, ?_⟩
                obtain ⟨ho6, h⟩ := h
                refine ⟨ho6, ?_⟩
                intro v66_1 ev66_1
                replace h := h v66_1 ev66_1
                replace hf : ∀ a, ¬ (a = 218 ∨ a = 220 ∨ (222 ≤ a ∧ a ≤ 223) ∨ (239 ≤ a ∧ a ≤ 240)) → v66_1 a = v a := fun a ha => by rw [ev66_1, upd2_off _ _ _ (by omega), hf a ha]
                obtain ⟨ho7, h⟩ := h
                refine ⟨ho7, ?_⟩
                exact h hf
            · replace h := h.2 hc
              obtain ⟨ho8, h⟩ := h
              refine ⟨ho8, ?_⟩
              intro v66_2 ev66_2
              replace h := h v66_2 ev66_2
              replace hf : ∀ a, ¬ (a = 218 ∨ a = 220 ∨ (222 ≤ a ∧ a ≤ 223) ∨ (239 ≤ a ∧ a ≤ 240)) → v66_2 a = v a := fun a ha => by rw [ev66_2, upd2_off _ _ _ (by omega), hf a ha]
              obtain ⟨ho9, h⟩ := h
              refine ⟨ho9, ?_⟩
              exact h hf
        · intro h
          exact h hf
    · replace h := h.2 hc
      refine N_X11_isRefused (F_X11_isRefused h) (fun r20_1 v20_1 h => ?_)
      obtain ⟨h, hg⟩ := h
      replace hf : ∀ a, ¬ (a = 218 ∨ a = 220 ∨ (222 ≤ a ∧ a ≤ 223) ∨ (239 ≤ a ∧ a ≤ 240)) → v20_1 a = v a := fun a ha => by rw [hg a (by omega), hf a ha]
      clear hg
      obtain ⟨ho10, h⟩ := h
      refine ⟨ho10, ?_⟩
      exact ⟨h, hf⟩
theorem N_X11_presses {x1 : Int} {v : VT} {q q' : VT → Prop} (h : P_X11_presses x1 v q) (hq : ∀ w, q w → q' w) : P_X11_presses x1 v q' := by
  unfold P_X11_presses at h ⊢
  intro K27 hKK27
  refine n_cut (h K27) ?_ ?_
  · intro v27 h
    refine hKK27 v27 ?_
    intro K172 hKK172
    refine n_cut (h K172) ?_ ?_
    · intro v172 h
      refine hKK172 v172 ?_
      intro X178 hKX178
      refine n_cut (h X178) ?_ ?_
      · intro i4 i5 v178 h
        refine hKX178 i4 i5 v178 ?_
        refine ⟨fun hc => ?_, fun hc => ?_⟩
        · replace h := h.1 hc
          refine N_X11_turns h (fun v254 h => ?_)
          exact hq _ h
        · replace h := h.2 hc
          obtain ⟨ho1, h⟩ := h
          refine ⟨ho1, ?_⟩
          intro K219 hKK219
          refine n_cut (h K219) ?_ ?_
          · intro s0 h
            refine hKK219 s0 ?_
            obtain ⟨ho2, h⟩ := h
            refine ⟨ho2, ?_⟩
            intro v219 ev219
            replace h := h v219 ev219
            obtain ⟨ho3, h⟩ := h
            refine ⟨ho3, ?_⟩
            refine ⟨fun hc => ?_, fun hc => ?_⟩
            · replace h := h.1 hc
              refine N_X11_flag h (fun r239 h => ?_)
              obtain ⟨ho4, h⟩ := h
              refine ⟨ho4, ?_⟩
              obtain ⟨ho5, h⟩ := h
              refine ⟨ho5, ?_⟩
              exact h
            · replace h := h.2 hc
              refine N_X11_flag h (fun r239_1 h => ?_)
              obtain ⟨ho6, h⟩ := h
              refine ⟨ho6, ?_⟩
              obtain ⟨ho7, h⟩ := h
              refine ⟨ho7, ?_⟩
              exact h
          · intro h
            refine ⟨fun hc => ?_, fun hc => ?_⟩
            · replace h := h.1 hc
              obtain ⟨ho8, h⟩ := h
              refine ⟨ho8, ?_⟩
              obtain ⟨ho9, h⟩ := h
              refine ⟨ho9, ?_⟩
              exact h
            · replace h := h.2 hc
              exact h
      · intro h
        exact h
    · intro h
      intro X29 hKX29
      refine n_cut (h X29) ?_ ?_
      · intro i3 v29 h
        refine hKX29 i3 v29 ?_
        refine ⟨fun hc => ?_, fun hc => ?_⟩
        · replace h := h.1 hc
          exact h
        · replace h := h.2 hc
          intro X38 hKX38
          refine n_cut (h X38) ?_ ?_
          · intro i3_1 i4_1 v38 h
            refine hKX38 i3_1 i4_1 v38 ?_
            refine ⟨fun hc => ?_, fun hc => ?_⟩
            · replace h := h.1 hc
              exact h
            · replace h := h.2 hc
              obtain ⟨ho10, h⟩ := h
              refine ⟨ho10, ?_⟩
              refine ⟨fun hc => ?_, fun hc => ?_⟩
              · replace h := h.1 hc
                obtain ⟨ho11, h⟩ := h
                refine ⟨ho11, ?_⟩
                exact h
              · replace h := h.2 hc
                refine N_X11_low h (fun r67 h => ?_)
                obtain ⟨ho12, h⟩ := h
                refine ⟨ho12, ?_⟩
                refine N_X11_high h (fun r78 h => ?_)
                obtain ⟨ho13, h⟩ := h
                refine ⟨ho13, ?_⟩
                refine ⟨fun hc => ?_, fun hc => ?_⟩
                · replace h := h.1 hc
                  obtain ⟨ho14, h⟩ := h
                  refine ⟨ho14, ?_⟩
                  exact h
                · replace h := h.2 hc
                  refine N_X11_low h (fun r92 h => ?_)
                  obtain ⟨ho15, h⟩ := h
                  refine ⟨ho15, ?_⟩
                  intro l5 el5
                  replace h := h l5 el5
                  refine N_X11_high h (fun r105 h => ?_)
                  obtain ⟨ho16, h⟩ := h
                  refine ⟨ho16, ?_⟩
                  intro l6 el6
                  replace h := h l6 el6
                  refine N_X11_low h (fun r118 h => ?_)
                  intro K135 hKK135
                  refine n_cut (h K135) ?_ ?_
                  · intro s0_1 h
                    refine hKK135 s0_1 ?_
                    obtain ⟨ho17, h⟩ := h
                    refine ⟨ho17, ?_⟩
                    intro v135 ev135
                    replace h := h v135 ev135
                    refine N_X11_high h (fun r143 h => ?_)
                    refine ⟨fun hc => ?_, fun hc => ?_⟩
                    · replace h := h.1 hc
                      obtain ⟨ho18, h⟩ := h
                      refine ⟨ho18, ?_⟩
                      intro v160 ev160
                      replace h := h v160 ev160
                      obtain ⟨ho19, h⟩ := h
                      refine ⟨ho19, ?_⟩
                      exact h
                    · replace h := h.2 hc
                      obtain ⟨ho20, h⟩ := h
                      refine ⟨ho20, ?_⟩
                      intro v160_1 ev160_1
                      replace h := h v160_1 ev160_1
                      obtain ⟨ho21, h⟩ := h
                      refine ⟨ho21, ?_⟩
                      exact h
                  · intro h
                    refine ⟨fun hc => ?_, fun hc => ?_⟩
                    · replace h := h.1 hc
                      exact h
                    · replace h := h.2 hc
                      exact h
          · intro h
            exact h
      · intro h
        exact h
  · intro h
    intro X9 hKX9
    refine n_cut (h X9) ?_ ?_
    · intro i3_2 v9 h
      refine hKX9 i3_2 v9 ?_
      refine ⟨fun hc => ?_, fun hc => ?_⟩
      · replace h := h.1 hc
        exact h
      · replace h := h.2 hc
        obtain ⟨ho22, h⟩ := h
        refine ⟨ho22, ?_⟩
        intro v20 ev20
        replace h := h v20 ev20
        obtain ⟨ho23, h⟩ := h
        refine ⟨ho23, ?_⟩
        exact h
    · intro h
      exact h
theorem F_X11_presses {x1 : Int} {v : VT} {q : VT → Prop} (h : P_X11_presses x1 v q) : P_X11_presses x1 v (fun w => q w ∧ ∀ a, ¬ (a = 218 ∨ (222 ≤ a ∧ a ≤ 223) ∨ (240 ≤ a ∧ a ≤ 241)) → w a = v a) := by
  unfold P_X11_presses at h ⊢
  have hf : ∀ a, ¬ (a = 218 ∨ (222 ≤ a ∧ a ≤ 223) ∨ (240 ≤ a ∧ a ≤ 241)) → v a = v a := fun a _ => rfl
  intro K27 hKK27
  refine n_cut (h (fun (v27 : VT) => (∀ a, ¬ (a = 218 ∨ (222 ≤ a ∧ a ≤ 223) ∨ (240 ≤ a ∧ a ≤ 241)) → v27 a = v a) → K27 v27)) ?_ ?_
  · intro v27 h hf
    refine hKK27 v27 ?_
    intro K172 hKK172
    refine n_cut (h (fun (v172 : VT) => (∀ a, ¬ (a = 218 ∨ (222 ≤ a ∧ a ≤ 223) ∨ (240 ≤ a ∧ a ≤ 241)) → v172 a = v a) → K172 v172)) ?_ ?_
    · intro v172 h hf
      refine hKK172 v172 ?_
      intro X178 hKX178
      refine n_cut (h (fun (i4 : Int) (i5 : Int) (v178 : VT) => (∀ a, ¬ (a = 218 ∨ (222 ≤ a ∧ a ≤ 223) ∨ (240 ≤ a ∧ a ≤ 241)) → v178 a = v a) → X178 i4 i5 v178)) ?_ ?_
      · intro i4 i5 v178 h hf
        refine hKX178 i4 i5 v178 ?_
        refine ⟨fun hc => ?_, fun hc => ?_⟩
        · replace h := h.1 hc
          refine N_X11_turns (F_X11_turns h) (fun v254 h => ?_)
          obtain ⟨h, hg⟩ := h
          replace hf : ∀ a, ¬ (a = 218 ∨ (222 ≤ a ∧ a ≤ 223) ∨ (240 ≤ a ∧ a ≤ 241)) → v254 a = v a := fun a ha => by rw [hg a (by omega), hf a ha]
          clear hg
          exact ⟨h, hf⟩
        · replace h := h.2 hc
          obtain ⟨ho1, h⟩ := h
          refine ⟨ho1, ?_⟩
          intro K219 hKK219
          refine n_cut (h K219) ?_ ?_
          · intro s0 h
            refine hKK219 s0 ?_
            obtain ⟨ho2, h⟩ := h
            refine ⟨ho2, ?_⟩
            intro v219 ev219
            replace h := h v219 ev219
            replace hf : ∀ a, ¬ (a = 218 ∨ (222 ≤ a ∧ a ≤ 223) ∨ (240 ≤ a ∧ a ≤ 241)) → v219 a = v a := fun a ha => by rw [ev219, upd2_off _ _ _ (by omega), hf a ha]
            obtain ⟨ho3, h⟩ := h
            refine ⟨ho3, ?_⟩
            refine ⟨fun hc => ?_, fun hc => ?_⟩
            · replace h := h.1 hc
              refine N_X11_flag h (fun r239 h => ?_)
              obtain ⟨ho4, h⟩ := h
              refine ⟨ho4, ?_⟩
              obtain ⟨ho5, h⟩ := h
              refine ⟨ho5, ?_⟩
              exact h hf
            · replace h := h.2 hc
              refine N_X11_flag h (fun r239_1 h => ?_)
              obtain ⟨ho6, h⟩ := h
              refine ⟨ho6, ?_⟩
              obtain ⟨ho7, h⟩ := h
              refine ⟨ho7, ?_⟩
              exact h hf
          · intro h
            refine ⟨fun hc => ?_, fun hc => ?_⟩
            · replace h := h.1 hc
              obtain ⟨ho8, h⟩ := h
              refine ⟨ho8, ?_⟩
              obtain ⟨ho9, h⟩ := h
              refine ⟨ho9, ?_⟩
              exact h
            · replace h := h.2 hc
              exact h
      · intro h
        exact h hf
    · intro h
      intro X29 hKX29
      refine n_cut (h (fun (i3 : Int) (v29 : VT) => (∀ a, ¬ (a = 218 ∨ (222 ≤ a ∧ a ≤ 223) ∨ (240 ≤ a ∧ a ≤ 241)) → v29 a = v a) → X29 i3 v29)) ?_ ?_
      · intro i3 v29 h hf
        refine hKX29 i3 v29 ?_
        refine ⟨fun hc => ?_, fun hc => ?_⟩
        · replace h := h.1 hc
          exact h hf
        · replace h := h.2 hc
          intro X38 hKX38
          refine n_cut (h (fun (i3_1 : Int) (i4_1 : Int) (v38 : VT) => (∀ a, ¬ (a = 218 ∨ (222 ≤ a ∧ a ≤ 223) ∨ (240 ≤ a ∧ a ≤ 241)) → v38 a = v a) → X38 i3_1 i4_1 v38)) ?_ ?_
          · intro i3_1 i4_1 v38 h hf
            refine hKX38 i3_1 i4_1 v38 ?_
            refine ⟨fun hc => ?_, fun hc => ?_⟩
            · replace h := h.1 hc
              exact h hf
            · replace h := h.2 hc
              obtain ⟨ho10, h⟩ := h
              refine ⟨ho10, ?_⟩
              refine ⟨fun hc => ?_, fun hc => ?_⟩
              · replace h := h.1 hc
                obtain ⟨ho11, h⟩ := h
                refine ⟨ho11, ?_⟩
                exact h hf
              · replace h := h.2 hc
                refine N_X11_low h (fun r67 h => ?_)
                obtain ⟨ho12, h⟩ := h
                refine ⟨ho12, ?_⟩
                refine N_X11_high h (fun r78 h => ?_)
                obtain ⟨ho13, h⟩ := h
                refine ⟨ho13, ?_⟩
                refine ⟨fun hc => ?_, fun hc => ?_⟩
                · replace h := h.1 hc
                  obtain ⟨ho14, h⟩ := h
                  refine ⟨ho14, ?_⟩
                  exact h hf
                · replace h := h.2 hc
                  refine N_X11_low h (fun r92 h => ?_)
                  obtain ⟨ho15, h⟩ := h
                  refine ⟨ho15, ?_⟩
                  intro l5 el5
                  replace h := h l5 el5
                  refine N_X11_high h (fun r105 h => ?_)
                  obtain ⟨ho16, h⟩ := h
                  refine ⟨ho16, ?_⟩
                  intro l6 el6
                  replace h := h l6 el6
                  refine N_X11_low h (fun r118 h => ?_)
                  intro K135 hKK135
                  refine n_cut (h K135) ?_ ?_
                  · intro s0_1 h
                    refine hKK135 s0_1 ?_
                    obtain ⟨ho17, h⟩ := h
                    refine ⟨ho17, ?_⟩
                    intro v135 ev135
                    replace h := h v135 ev135
                    replace hf : ∀ a, ¬ (a = 218 ∨ (222 ≤ a ∧ a ≤ 223) ∨ (240 ≤ a ∧ a ≤ 241)) → v135 a = v a := fun a ha => by rw [ev135, upd2_off _ _ _ (by omega), hf a ha]
                    refine N_X11_high h (fun r143 h => ?_)
                    refine ⟨fun hc => ?_, fun hc => ?_⟩
                    · replace h := h.1 hc
                      obtain ⟨ho18, h⟩ := h
                      refine ⟨ho18, ?_⟩
                      intro v160 ev160
                      replace h := h v160 ev160
                      replace hf : ∀ a, ¬ (a = 218 ∨ (222 ≤ a ∧ a ≤ 223) ∨ (240 ≤ a ∧ a ≤ 241)) → v160 a = v a := fun a ha => by rw [ev160, upd2_off _ _ _ (by omega), hf a ha]
                      obtain ⟨ho19, h⟩ := h
                      refine ⟨ho19, ?_⟩
                      exact h hf
                    · replace h := h.2 hc
                      obtain ⟨ho20, h⟩ := h
                      refine ⟨ho20, ?_⟩
                      intro v160_1 ev160_1
                      replace h := h v160_1 ev160_1
                      replace hf : ∀ a, ¬ (a = 218 ∨ (222 ≤ a ∧ a ≤ 223) ∨ (240 ≤ a ∧ a ≤ 241)) → v160_1 a = v a := fun a ha => by rw [ev160_1, upd2_off _ _ _ (by omega), hf a ha]
                      obtain ⟨ho21, h⟩ := h
                      refine ⟨ho21, ?_⟩
                      exact h hf
                  · intro h
                    refine ⟨fun hc => ?_, fun hc => ?_⟩
                    · replace h := h.1 hc
                      exact h
                    · replace h := h.2 hc
                      exact h
          · intro h
            exact h hf
      · intro h
        exact h hf
  · intro h
    intro X9 hKX9
    refine n_cut (h (fun (i3_2 : Int) (v9 : VT) => (∀ a, ¬ (a = 218 ∨ (222 ≤ a ∧ a ≤ 223) ∨ (240 ≤ a ∧ a ≤ 241)) → v9 a = v a) → X9 i3_2 v9)) ?_ ?_
    · intro i3_2 v9 h hf
      refine hKX9 i3_2 v9 ?_
      refine ⟨fun hc => ?_, fun hc => ?_⟩
      · replace h := h.1 hc
        exact h hf
      · replace h := h.2 hc
        obtain ⟨ho22, h⟩ := h
        refine ⟨ho22, ?_⟩
        intro v20 ev20
        replace h := h v20 ev20
        replace hf : ∀ a, ¬ (a = 218 ∨ (222 ≤ a ∧ a ≤ 223) ∨ (240 ≤ a ∧ a ≤ 241)) → v20 a = v a := fun a ha => by rw [ev20, upd2_off _ _ _ (by omega), hf a ha]
        obtain ⟨ho23, h⟩ := h
        refine ⟨ho23, ?_⟩
        exact h hf
    · intro h
      exact h hf
theorem N_X11_press {x1 : Int} {v : VT} {q q' : Int → VT → Prop} (h : P_X11_press x1 v q) (hq : ∀ r w, q r w → q' r w) : P_X11_press x1 v q' := by
  unfold P_X11_press at h ⊢
  refine N_X11_lays h (fun v1 h => ?_)
  obtain ⟨ho1, h⟩ := h
  refine ⟨ho1, ?_⟩
  refine N_X11_isIn h (fun r14 h => ?_)
  refine ⟨fun hc => ?_, fun hc => ?_⟩
  · replace h := h.1 hc
    refine N_X11_keeps h (fun v27 h => ?_)
    refine N_X11_presses h (fun v32 h => ?_)
    exact hq _ _ h
  · replace h := h.2 hc
    refine N_X11_refuses h (fun r22 v22 h => ?_)
    exact hq _ _ h
theorem F_X11_press {x1 : Int} {v : VT} {q : Int → VT → Prop} (h : P_X11_press x1 v q) : P_X11_press x1 v (fun r w => q r w ∧ ∀ a, ¬ (a = 218 ∨ a = 220 ∨ (222 ≤ a ∧ a ≤ 229) ∨ (239 ≤ a ∧ a ≤ 241)) → w a = v a) := by
  unfold P_X11_press at h ⊢
  have hf : ∀ a, ¬ (a = 218 ∨ a = 220 ∨ (222 ≤ a ∧ a ≤ 229) ∨ (239 ≤ a ∧ a ≤ 241)) → v a = v a := fun a _ => rfl
  refine N_X11_lays (F_X11_lays h) (fun v1 h => ?_)
  obtain ⟨h, hg⟩ := h
  replace hf : ∀ a, ¬ (a = 218 ∨ a = 220 ∨ (222 ≤ a ∧ a ≤ 229) ∨ (239 ≤ a ∧ a ≤ 241)) → v1 a = v a := fun a ha => by rw [hg a (by omega), hf a ha]
  clear hg
  obtain ⟨ho1, h⟩ := h
  refine ⟨ho1, ?_⟩
  refine N_X11_isIn h (fun r14 h => ?_)
  refine ⟨fun hc => ?_, fun hc => ?_⟩
  · replace h := h.1 hc
    refine N_X11_keeps (F_X11_keeps h) (fun v27 h => ?_)
    obtain ⟨h, hg⟩ := h
    replace hf : ∀ a, ¬ (a = 218 ∨ a = 220 ∨ (222 ≤ a ∧ a ≤ 229) ∨ (239 ≤ a ∧ a ≤ 241)) → v27 a = v a := fun a ha => by rw [hg a (by omega), hf a ha]
    clear hg
    refine N_X11_presses (F_X11_presses h) (fun v32 h => ?_)
    obtain ⟨h, hg⟩ := h
    replace hf : ∀ a, ¬ (a = 218 ∨ a = 220 ∨ (222 ≤ a ∧ a ≤ 229) ∨ (239 ≤ a ∧ a ≤ 241)) → v32 a = v a := fun a ha => by rw [hg a (by omega), hf a ha]
    clear hg
    exact ⟨h, hf⟩
  · replace h := h.2 hc
    refine N_X11_refuses (F_X11_refuses h) (fun r22 v22 h => ?_)
    obtain ⟨h, hg⟩ := h
    replace hf : ∀ a, ¬ (a = 218 ∨ a = 220 ∨ (222 ≤ a ∧ a ≤ 229) ∨ (239 ≤ a ∧ a ≤ 241)) → v22 a = v a := fun a ha => by rw [hg a (by omega), hf a ha]
    clear hg
    exact ⟨h, hf⟩
theorem N_X11_linesIn {x1 : Int} {v : VT} {q q' : Int → Prop} (h : P_X11_linesIn x1 v q) (hq : ∀ r, q r → q' r) : P_X11_linesIn x1 v q' := by
  unfold P_X11_linesIn at h ⊢
  intro X4 hKX4
  refine n_cut (h X4) ?_ ?_
  · intro i2 i3 h
    refine hKX4 i2 i3 ?_
    refine ⟨fun hc => ?_, fun hc => ?_⟩
    · replace h := h.1 hc
      exact hq _ h
    · replace h := h.2 hc
      refine N_X11_low h (fun r18 h => ?_)
      refine N_X11_isOf h (fun r21 h => ?_)
      refine ⟨fun hc => ?_, fun hc => ?_⟩
      · replace h := h.1 hc
        refine N_X11_flag h (fun r44 h => ?_)
        obtain ⟨ho1, h⟩ := h
        refine ⟨ho1, ?_⟩
        obtain ⟨ho2, h⟩ := h
        refine ⟨ho2, ?_⟩
        exact h
      · replace h := h.2 hc
        refine N_X11_high h (fun r30 h => ?_)
        refine N_X11_isOf h (fun r33 h => ?_)
        refine ⟨fun hc => ?_, fun hc => ?_⟩
        · replace h := h.1 hc
          refine N_X11_flag h (fun r44_1 h => ?_)
          obtain ⟨ho3, h⟩ := h
          refine ⟨ho3, ?_⟩
          obtain ⟨ho4, h⟩ := h
          refine ⟨ho4, ?_⟩
          exact h
        · replace h := h.2 hc
          refine N_X11_flag h (fun r44_2 h => ?_)
          obtain ⟨ho5, h⟩ := h
          refine ⟨ho5, ?_⟩
          obtain ⟨ho6, h⟩ := h
          refine ⟨ho6, ?_⟩
          exact h
  · intro h
    exact h
theorem N_X11_areApart {x1 : Int} {x2 : Int} {v : VT} {q q' : Int → Prop} (h : P_X11_areApart x1 x2 v q) (hq : ∀ r, q r → q' r) : P_X11_areApart x1 x2 v q' := by
  unfold P_X11_areApart at h ⊢
  intro X2 hKX2
  refine n_cut (h X2) ?_ ?_
  · intro i3 h
    refine hKX2 i3 ?_
    refine ⟨fun hc => ?_, fun hc => ?_⟩
    · replace h := h.1 hc
      exact hq _ h
    · replace h := h.2 hc
      refine N_X11_low h (fun r15 h => ?_)
      refine N_X11_isOf h (fun r18 h => ?_)
      intro K36 hKK36
      refine n_cut (h K36) ?_ ?_
      · intro h
        refine hKK36  ?_
        refine N_X11_low h (fun r39 h => ?_)
        refine N_X11_isOf h (fun r42 h => ?_)
        refine ⟨fun hc => ?_, fun hc => ?_⟩
        · replace h := h.1 hc
          obtain ⟨ho1, h⟩ := h
          refine ⟨ho1, ?_⟩
          exact h
        · replace h := h.2 hc
          refine N_X11_high h (fun r51 h => ?_)
          refine N_X11_isOf h (fun r54 h => ?_)
          refine ⟨fun hc => ?_, fun hc => ?_⟩
          · replace h := h.1 hc
            obtain ⟨ho2, h⟩ := h
            refine ⟨ho2, ?_⟩
            exact h
          · replace h := h.2 hc
            exact hq _ h
      · intro h
        refine ⟨fun hc => ?_, fun hc => ?_⟩
        · replace h := h.1 hc
          exact h
        · replace h := h.2 hc
          refine N_X11_high h (fun r27 h => ?_)
          refine N_X11_isOf h (fun r30 h => ?_)
          refine ⟨fun hc => ?_, fun hc => ?_⟩
          · replace h := h.1 hc
            exact hq _ h
          · replace h := h.2 hc
            exact h
  · intro h
    exact h
theorem N_X11_canOpen {x1 : Int} {x2 : Int} {v : VT} {q q' : Int → Prop} (h : P_X11_canOpen x1 x2 v q) (hq : ∀ r, q r → q' r) : P_X11_canOpen x1 x2 v q' := by
  unfold P_X11_canOpen at h ⊢
  refine ⟨fun hc => ?_, fun hc => ?_⟩
  · replace h := h.1 hc
    exact hq _ h
  · replace h := h.2 hc
    refine ⟨fun hc => ?_, fun hc => ?_⟩
    · replace h := h.1 hc
      exact hq _ h
    · replace h := h.2 hc
      refine N_X11_all h (fun r16 h => ?_)
      refine ⟨fun hc => ?_, fun hc => ?_⟩
      · replace h := h.1 hc
        exact hq _ h
      · replace h := h.2 hc
        refine ⟨fun hc => ?_, fun hc => ?_⟩
        · replace h := h.1 hc
          exact hq _ h
        · replace h := h.2 hc
          refine N_X11_areApart h (fun r37 h => ?_)
          refine ⟨fun hc => ?_, fun hc => ?_⟩
          · replace h := h.1 hc
            refine N_X11_count h (fun r52 h => ?_)
            obtain ⟨ho1, h⟩ := h
            refine ⟨ho1, ?_⟩
            refine ⟨fun hc => ?_, fun hc => ?_⟩
            · replace h := h.1 hc
              exact hq _ h
            · replace h := h.2 hc
              refine N_X11_linesIn h (fun r69 h => ?_)
              obtain ⟨ho2, h⟩ := h
              refine ⟨ho2, ?_⟩
              refine N_X11_count h (fun r74 h => ?_)
              obtain ⟨ho3, h⟩ := h
              refine ⟨ho3, ?_⟩
              refine ⟨fun hc => ?_, fun hc => ?_⟩
              · replace h := h.1 hc
                exact hq _ h
              · replace h := h.2 hc
                exact hq _ h
          · replace h := h.2 hc
            exact hq _ h
theorem N_X11_endOf {x1 : Int} {x2 : Int} {x3 : Int} {x4 : Int} {v : VT} {q q' : Int → Prop} (h : P_X11_endOf x1 x2 x3 x4 v q) (hq : ∀ r, q r → q' r) : P_X11_endOf x1 x2 x3 x4 v q' := by
  unfold P_X11_endOf at h ⊢
  refine N_X11_isOf h (fun r2 h => ?_)
  refine ⟨fun hc => ?_, fun hc => ?_⟩
  · replace h := h.1 hc
    exact hq _ h
  · replace h := h.2 hc
    refine N_X11_isOf h (fun r11 h => ?_)
    refine ⟨fun hc => ?_, fun hc => ?_⟩
    · replace h := h.1 hc
      exact hq _ h
    · replace h := h.2 hc
      obtain ⟨ho1, h⟩ := h
      refine ⟨ho1, ?_⟩
      exact hq _ h
theorem N_X11_opens {x1 : Int} {x2 : Int} {v : VT} {q q' : VT → Prop} (h : P_X11_opens x1 x2 v q) (hq : ∀ w, q w → q' w) : P_X11_opens x1 x2 v q' := by
  unfold P_X11_opens at h ⊢
  intro K38 hKK38
  refine n_cut (h K38) ?_ ?_
  · intro v38 h
    refine hKK38 v38 ?_
    intro K87 hKK87
    refine n_cut (h K87) ?_ ?_
    · intro i3 v87 h
      refine hKK87 i3 v87 ?_
      intro v93 ev93
      replace h := h v93 ev93
      intro v100 ev100
      replace h := h v100 ev100
      intro K170 hKK170
      refine n_cut (h K170) ?_ ?_
      · intro v170 h
        refine hKK170 v170 ?_
        intro K251 hKK251
        refine n_cut (h K251) ?_ ?_
        · intro v251 h
          refine hKK251 v251 ?_
          intro X254 hKX254
          refine n_cut (h X254) ?_ ?_
          · intro i4 v254 h
            refine hKX254 i4 v254 ?_
            refine ⟨fun hc => ?_, fun hc => ?_⟩
            · replace h := h.1 hc
              refine N_X11_isNext h (fun v298 h => ?_)
              exact hq _ h
            · replace h := h.2 hc
              refine N_X11_isOf h (fun r268 h => ?_)
              refine ⟨fun hc => ?_, fun hc => ?_⟩
              · replace h := h.1 hc
                obtain ⟨ho1, h⟩ := h
                refine ⟨ho1, ?_⟩
                exact h
              · replace h := h.2 hc
                obtain ⟨ho2, h⟩ := h
                refine ⟨ho2, ?_⟩
                refine N_X11_adds h (fun v288 h => ?_)
                obtain ⟨ho3, h⟩ := h
                refine ⟨ho3, ?_⟩
                exact h
          · intro h
            exact h
        · intro h
          intro X173 hKX173
          refine n_cut (h X173) ?_ ?_
          · intro i4_1 v173 h
            refine hKX173 i4_1 v173 ?_
            refine ⟨fun hc => ?_, fun hc => ?_⟩
            · replace h := h.1 hc
              exact h
            · replace h := h.2 hc
              refine N_X11_low h (fun r188 h => ?_)
              refine N_X11_isOf h (fun r191 h => ?_)
              refine ⟨fun hc => ?_, fun hc => ?_⟩
              · replace h := h.1 hc
                obtain ⟨ho4, h⟩ := h
                refine ⟨ho4, ?_⟩
                exact h
              · replace h := h.2 hc
                refine N_X11_high h (fun r201 h => ?_)
                refine N_X11_isOf h (fun r204 h => ?_)
                refine ⟨fun hc => ?_, fun hc => ?_⟩
                · replace h := h.1 hc
                  obtain ⟨ho5, h⟩ := h
                  refine ⟨ho5, ?_⟩
                  exact h
                · replace h := h.2 hc
                  refine N_X11_low h (fun r221 h => ?_)
                  obtain ⟨ho6, h⟩ := h
                  refine ⟨ho6, ?_⟩
                  refine N_X11_high h (fun r232 h => ?_)
                  obtain ⟨ho7, h⟩ := h
                  refine ⟨ho7, ?_⟩
                  refine N_X11_priceOf h (fun r239 h => ?_)
                  refine N_X11_adds h (fun v242 h => ?_)
                  obtain ⟨ho8, h⟩ := h
                  refine ⟨ho8, ?_⟩
                  exact h
          · intro h
            exact h
      · intro h
        intro X104 hKX104
        refine n_cut (h X104) ?_ ?_
        · intro i4_2 v104 h
          refine hKX104 i4_2 v104 ?_
          refine ⟨fun hc => ?_, fun hc => ?_⟩
          · replace h := h.1 hc
            exact h
          · replace h := h.2 hc
            refine N_X11_low h (fun r123 h => ?_)
            refine N_X11_high h (fun r129 h => ?_)
            refine N_X11_endOf h (fun r134 h => ?_)
            refine N_X11_high h (fun r141 h => ?_)
            refine N_X11_low h (fun r147 h => ?_)
            refine N_X11_endOf h (fun r152 h => ?_)
            refine N_X11_priceOf h (fun r158 h => ?_)
            refine N_X11_adds h (fun v161 h => ?_)
            obtain ⟨ho9, h⟩ := h
            refine ⟨ho9, ?_⟩
            exact h
        · intro h
          exact h
    · intro h
      intro X41 hKX41
      refine n_cut (h X41) ?_ ?_
      · intro i3_1 i4_3 v41 h
        refine hKX41 i3_1 i4_3 v41 ?_
        refine ⟨fun hc => ?_, fun hc => ?_⟩
        · replace h := h.1 hc
          exact h
        · replace h := h.2 hc
          refine N_X11_isOf h (fun r55 h => ?_)
          refine ⟨fun hc => ?_, fun hc => ?_⟩
          · replace h := h.1 hc
            obtain ⟨ho10, h⟩ := h
            refine ⟨ho10, ?_⟩
            exact h
          · replace h := h.2 hc
            obtain ⟨ho11, h⟩ := h
            refine ⟨ho11, ?_⟩
            intro v68 ev68
            replace h := h v68 ev68
            obtain ⟨ho12, h⟩ := h
            refine ⟨ho12, ?_⟩
            obtain ⟨ho13, h⟩ := h
            refine ⟨ho13, ?_⟩
            intro v77 ev77
            replace h := h v77 ev77
            obtain ⟨ho14, h⟩ := h
            refine ⟨ho14, ?_⟩
            obtain ⟨ho15, h⟩ := h
            refine ⟨ho15, ?_⟩
            exact h
      · intro h
        exact h
  · intro h
    intro X10 hKX10
    refine n_cut (h X10) ?_ ?_
    · intro i4_4 v10 h
      refine hKX10 i4_4 v10 ?_
      refine ⟨fun hc => ?_, fun hc => ?_⟩
      · replace h := h.1 hc
        exact h
      · replace h := h.2 hc
        obtain ⟨ho16, h⟩ := h
        refine ⟨ho16, ?_⟩
        obtain ⟨ho17, h⟩ := h
        refine ⟨ho17, ?_⟩
        intro v31 ev31
        replace h := h v31 ev31
        obtain ⟨ho18, h⟩ := h
        refine ⟨ho18, ?_⟩
        exact h
    · intro h
      exact h
theorem F_X11_opens {x1 : Int} {x2 : Int} {v : VT} {q : VT → Prop} (h : P_X11_opens x1 x2 v q) : P_X11_opens x1 x2 v (fun w => q w ∧ ∀ a, ¬ (a = 218 ∨ (222 ≤ a ∧ a ≤ 223) ∨ a = 242) → w a = v a) := by
  unfold P_X11_opens at h ⊢
  have hf : ∀ a, ¬ (a = 218 ∨ (222 ≤ a ∧ a ≤ 223) ∨ a = 242) → v a = v a := fun a _ => rfl
  intro K38 hKK38
  refine n_cut (h (fun (v38 : VT) => (∀ a, ¬ (a = 218 ∨ (222 ≤ a ∧ a ≤ 223) ∨ a = 242) → v38 a = v a) → K38 v38)) ?_ ?_
  · intro v38 h hf
    refine hKK38 v38 ?_
    intro K87 hKK87
    refine n_cut (h (fun (i3 : Int) (v87 : VT) => (∀ a, ¬ (a = 218 ∨ (222 ≤ a ∧ a ≤ 223) ∨ a = 242) → v87 a = v a) → K87 i3 v87)) ?_ ?_
    · intro i3 v87 h hf
      refine hKK87 i3 v87 ?_
      intro v93 ev93
      replace h := h v93 ev93
      replace hf : ∀ a, ¬ (a = 218 ∨ (222 ≤ a ∧ a ≤ 223) ∨ a = 242) → v93 a = v a := fun a ha => by rw [ev93, upd2_off _ _ _ (by omega), hf a ha]
      intro v100 ev100
      replace h := h v100 ev100
      replace hf : ∀ a, ¬ (a = 218 ∨ (222 ≤ a ∧ a ≤ 223) ∨ a = 242) → v100 a = v a := fun a ha => by rw [ev100, upd2_off _ _ _ (by omega), hf a ha]
      intro K170 hKK170
      refine n_cut (h (fun (v170 : VT) => (∀ a, ¬ (a = 218 ∨ (222 ≤ a ∧ a ≤ 223) ∨ a = 242) → v170 a = v a) → K170 v170)) ?_ ?_
      · intro v170 h hf
        refine hKK170 v170 ?_
        intro K251 hKK251
        refine n_cut (h (fun (v251 : VT) => (∀ a, ¬ (a = 218 ∨ (222 ≤ a ∧ a ≤ 223) ∨ a = 242) → v251 a = v a) → K251 v251)) ?_ ?_
        · intro v251 h hf
          refine hKK251 v251 ?_
          intro X254 hKX254
          refine n_cut (h (fun (i4 : Int) (v254 : VT) => (∀ a, ¬ (a = 218 ∨ (222 ≤ a ∧ a ≤ 223) ∨ a = 242) → v254 a = v a) → X254 i4 v254)) ?_ ?_
          · intro i4 v254 h hf
            refine hKX254 i4 v254 ?_
            refine ⟨fun hc => ?_, fun hc => ?_⟩
            · replace h := h.1 hc
              refine N_X11_isNext (F_X11_isNext h) (fun v298 h => ?_)
              obtain ⟨h, hg⟩ := h
              replace hf : ∀ a, ¬ (a = 218 ∨ (222 ≤ a ∧ a ≤ 223) ∨ a = 242) → v298 a = v a := fun a ha => by rw [hg a (by omega), hf a ha]
              clear hg
              exact ⟨h, hf⟩
            · replace h := h.2 hc
              refine N_X11_isOf h (fun r268 h => ?_)
              refine ⟨fun hc => ?_, fun hc => ?_⟩
              · replace h := h.1 hc
                obtain ⟨ho1, h⟩ := h
                refine ⟨ho1, ?_⟩
                exact h hf
              · replace h := h.2 hc
                obtain ⟨ho2, h⟩ := h
                refine ⟨ho2, ?_⟩
                refine N_X11_adds (F_X11_adds h) (fun v288 h => ?_)
                obtain ⟨h, hg⟩ := h
                replace hf : ∀ a, ¬ (a = 218 ∨ (222 ≤ a ∧ a ≤ 223) ∨ a = 242) → v288 a = v a := fun a ha => by rw [hg a (by omega), hf a ha]
                clear hg
                obtain ⟨ho3, h⟩ := h
                refine ⟨ho3, ?_⟩
                exact h hf
          · intro h
            exact h hf
        · intro h
          intro X173 hKX173
          refine n_cut (h (fun (i4_1 : Int) (v173 : VT) => (∀ a, ¬ (a = 218 ∨ (222 ≤ a ∧ a ≤ 223) ∨ a = 242) → v173 a = v a) → X173 i4_1 v173)) ?_ ?_
          · intro i4_1 v173 h hf
            refine hKX173 i4_1 v173 ?_
            refine ⟨fun hc => ?_, fun hc => ?_⟩
            · replace h := h.1 hc
              exact h hf
            · replace h := h.2 hc
              refine N_X11_low h (fun r188 h => ?_)
              refine N_X11_isOf h (fun r191 h => ?_)
              refine ⟨fun hc => ?_, fun hc => ?_⟩
              · replace h := h.1 hc
                obtain ⟨ho4, h⟩ := h
                refine ⟨ho4, ?_⟩
                exact h hf
              · replace h := h.2 hc
                refine N_X11_high h (fun r201 h => ?_)
                refine N_X11_isOf h (fun r204 h => ?_)
                refine ⟨fun hc => ?_, fun hc => ?_⟩
                · replace h := h.1 hc
                  obtain ⟨ho5, h⟩ := h
                  refine ⟨ho5, ?_⟩
                  exact h hf
                · replace h := h.2 hc
                  refine N_X11_low h (fun r221 h => ?_)
                  obtain ⟨ho6, h⟩ := h
                  refine ⟨ho6, ?_⟩
                  refine N_X11_high h (fun r232 h => ?_)
                  obtain ⟨ho7, h⟩ := h
                  refine ⟨ho7, ?_⟩
                  refine N_X11_priceOf h (fun r239 h => ?_)
                  refine N_X11_adds (F_X11_adds h) (fun v242 h => ?_)
                  obtain ⟨h, hg⟩ := h
                  replace hf : ∀ a, ¬ (a = 218 ∨ (222 ≤ a ∧ a ≤ 223) ∨ a = 242) → v242 a = v a := fun a ha => by rw [hg a (by omega), hf a ha]
                  clear hg
                  obtain ⟨ho8, h⟩ := h
                  refine ⟨ho8, ?_⟩
                  exact h hf
          · intro h
            exact h hf
      · intro h
        intro X104 hKX104
        refine n_cut (h (fun (i4_2 : Int) (v104 : VT) => (∀ a, ¬ (a = 218 ∨ (222 ≤ a ∧ a ≤ 223) ∨ a = 242) → v104 a = v a) → X104 i4_2 v104)) ?_ ?_
        · intro i4_2 v104 h hf
          refine hKX104 i4_2 v104 ?_
          refine ⟨fun hc => ?_, fun hc => ?_⟩
          · replace h := h.1 hc
            exact h hf
          · replace h := h.2 hc
            refine N_X11_low h (fun r123 h => ?_)
            refine N_X11_high h (fun r129 h => ?_)
            refine N_X11_endOf h (fun r134 h => ?_)
            refine N_X11_high h (fun r141 h => ?_)
            refine N_X11_low h (fun r147 h => ?_)
            refine N_X11_endOf h (fun r152 h => ?_)
            refine N_X11_priceOf h (fun r158 h => ?_)
            refine N_X11_adds (F_X11_adds h) (fun v161 h => ?_)
            obtain ⟨h, hg⟩ := h
            replace hf : ∀ a, ¬ (a = 218 ∨ (222 ≤ a ∧ a ≤ 223) ∨ a = 242) → v161 a = v a := fun a ha => by rw [hg a (by omega), hf a ha]
            clear hg
            obtain ⟨ho9, h⟩ := h
            refine ⟨ho9, ?_⟩
            exact h hf
        · intro h
          exact h hf
    · intro h
      intro X41 hKX41
      refine n_cut (h (fun (i3_1 : Int) (i4_3 : Int) (v41 : VT) => (∀ a, ¬ (a = 218 ∨ (222 ≤ a ∧ a ≤ 223) ∨ a = 242) → v41 a = v a) → X41 i3_1 i4_3 v41)) ?_ ?_
      · intro i3_1 i4_3 v41 h hf
        refine hKX41 i3_1 i4_3 v41 ?_
        refine ⟨fun hc => ?_, fun hc => ?_⟩
        · replace h := h.1 hc
          exact h hf
        · replace h := h.2 hc
          refine N_X11_isOf h (fun r55 h => ?_)
          refine ⟨fun hc => ?_, fun hc => ?_⟩
          · replace h := h.1 hc
            obtain ⟨ho10, h⟩ := h
            refine ⟨ho10, ?_⟩
            exact h hf
          · replace h := h.2 hc
            obtain ⟨ho11, h⟩ := h
            refine ⟨ho11, ?_⟩
            intro v68 ev68
            replace h := h v68 ev68
            replace hf : ∀ a, ¬ (a = 218 ∨ (222 ≤ a ∧ a ≤ 223) ∨ a = 242) → v68 a = v a := fun a ha => by rw [ev68, upd2_off _ _ _ (by omega), hf a ha]
            obtain ⟨ho12, h⟩ := h
            refine ⟨ho12, ?_⟩
            obtain ⟨ho13, h⟩ := h
            refine ⟨ho13, ?_⟩
            intro v77 ev77
            replace h := h v77 ev77
            replace hf : ∀ a, ¬ (a = 218 ∨ (222 ≤ a ∧ a ≤ 223) ∨ a = 242) → v77 a = v a := fun a ha => by rw [ev77, upd2_off _ _ _ (by omega), hf a ha]
            obtain ⟨ho14, h⟩ := h
            refine ⟨ho14, ?_⟩
            obtain ⟨ho15, h⟩ := h
            refine ⟨ho15, ?_⟩
            exact h hf
      · intro h
        exact h hf
  · intro h
    intro X10 hKX10
    refine n_cut (h (fun (i4_4 : Int) (v10 : VT) => (∀ a, ¬ (a = 218 ∨ (222 ≤ a ∧ a ≤ 223) ∨ a = 242) → v10 a = v a) → X10 i4_4 v10)) ?_ ?_
    · intro i4_4 v10 h hf
      refine hKX10 i4_4 v10 ?_
      refine ⟨fun hc => ?_, fun hc => ?_⟩
      · replace h := h.1 hc
        exact h hf
      · replace h := h.2 hc
        obtain ⟨ho16, h⟩ := h
        refine ⟨ho16, ?_⟩
        obtain ⟨ho17, h⟩ := h
        refine ⟨ho17, ?_⟩
        intro v31 ev31
        replace h := h v31 ev31
        replace hf : ∀ a, ¬ (a = 218 ∨ (222 ≤ a ∧ a ≤ 223) ∨ a = 242) → v31 a = v a := fun a ha => by rw [ev31, upd2_off _ _ _ (by omega), hf a ha]
        obtain ⟨ho18, h⟩ := h
        refine ⟨ho18, ?_⟩
        exact h hf
    · intro h
      exact h hf
theorem N_X11_open {x1 : Int} {x2 : Int} {v : VT} {q q' : Int → VT → Prop} (h : P_X11_open x1 x2 v q) (hq : ∀ r w, q r w → q' r w) : P_X11_open x1 x2 v q' := by
  unfold P_X11_open at h ⊢
  refine N_X11_canOpen h (fun r3 h => ?_)
  refine ⟨fun hc => ?_, fun hc => ?_⟩
  · replace h := h.1 hc
    refine N_X11_keeps h (fun v16 h => ?_)
    refine N_X11_opens h (fun v28 h => ?_)
    exact hq _ _ h
  · replace h := h.2 hc
    refine N_X11_refuses h (fun r11 v11 h => ?_)
    exact hq _ _ h
theorem F_X11_open {x1 : Int} {x2 : Int} {v : VT} {q : Int → VT → Prop} (h : P_X11_open x1 x2 v q) : P_X11_open x1 x2 v (fun r w => q r w ∧ ∀ a, ¬ (a = 218 ∨ a = 220 ∨ (222 ≤ a ∧ a ≤ 223) ∨ a = 239 ∨ a = 242) → w a = v a) := by
  unfold P_X11_open at h ⊢
  have hf : ∀ a, ¬ (a = 218 ∨ a = 220 ∨ (222 ≤ a ∧ a ≤ 223) ∨ a = 239 ∨ a = 242) → v a = v a := fun a _ => rfl
  refine N_X11_canOpen h (fun r3 h => ?_)
  refine ⟨fun hc => ?_, fun hc => ?_⟩
  · replace h := h.1 hc
    refine N_X11_keeps (F_X11_keeps h) (fun v16 h => ?_)
    obtain ⟨h, hg⟩ := h
    replace hf : ∀ a, ¬ (a = 218 ∨ a = 220 ∨ (222 ≤ a ∧ a ≤ 223) ∨ a = 239 ∨ a = 242) → v16 a = v a := fun a ha => by rw [hg a (by omega), hf a ha]
    clear hg
    refine N_X11_opens (F_X11_opens h) (fun v28 h => ?_)
    obtain ⟨h, hg⟩ := h
    replace hf : ∀ a, ¬ (a = 218 ∨ a = 220 ∨ (222 ≤ a ∧ a ≤ 223) ∨ a = 239 ∨ a = 242) → v28 a = v a := fun a ha => by rw [hg a (by omega), hf a ha]
    clear hg
    exact ⟨h, hf⟩
  · replace h := h.2 hc
    refine N_X11_refuses (F_X11_refuses h) (fun r11 v11 h => ?_)
    obtain ⟨h, hg⟩ := h
    replace hf : ∀ a, ¬ (a = 218 ∨ a = 220 ∨ (222 ≤ a ∧ a ≤ 223) ∨ a = 239 ∨ a = 242) → v11 a = v a := fun a ha => by rw [hg a (by omega), hf a ha]
    clear hg
    exact ⟨h, hf⟩
theorem N_X11_seed {x1 : Int} {v : VT} {q q' : Int → VT → Prop} (h : P_X11_seed x1 v q) (hq : ∀ r w, q r w → q' r w) : P_X11_seed x1 v q' := by
  unfold P_X11_seed at h ⊢
  refine ⟨fun hc => ?_, fun hc => ?_⟩
  · replace h := h.1 hc
    intro v13 ev13
    replace h := h v13 ev13
    exact hq _ _ h
  · replace h := h.2 hc
    refine N_X11_isRefused h (fun r6 v6 h => ?_)
    obtain ⟨ho1, h⟩ := h
    refine ⟨ho1, ?_⟩
    exact hq _ _ h
theorem F_X11_seed {x1 : Int} {v : VT} {q : Int → VT → Prop} (h : P_X11_seed x1 v q) : P_X11_seed x1 v (fun r w => q r w ∧ ∀ a, ¬ (a = 218 ∨ a = 220) → w a = v a) := by
  unfold P_X11_seed at h ⊢
  have hf : ∀ a, ¬ (a = 218 ∨ a = 220) → v a = v a := fun a _ => rfl
  refine ⟨fun hc => ?_, fun hc => ?_⟩
  · replace h := h.1 hc
    intro v13 ev13
    replace h := h v13 ev13
    replace hf : ∀ a, ¬ (a = 218 ∨ a = 220) → v13 a = v a := fun a ha => by rw [ev13, upd2_off _ _ _ (by omega), hf a ha]
    exact ⟨h, hf⟩
  · replace h := h.2 hc
    refine N_X11_isRefused (F_X11_isRefused h) (fun r6 v6 h => ?_)
    obtain ⟨h, hg⟩ := h
    replace hf : ∀ a, ¬ (a = 218 ∨ a = 220) → v6 a = v a := fun a ha => by rw [hg a (by omega), hf a ha]
    clear hg
    obtain ⟨ho1, h⟩ := h
    refine ⟨ho1, ?_⟩
    exact ⟨h, hf⟩
theorem N_X11_drawOf {x1 : Int} {v : VT} {q q' : Int → VT → Prop} (h : P_X11_drawOf x1 v q) (hq : ∀ r w, q r w → q' r w) : P_X11_drawOf x1 v q' := by
  unfold P_X11_drawOf at h ⊢
  obtain ⟨ho1, h⟩ := h
  refine ⟨ho1, ?_⟩
  obtain ⟨ho2, h⟩ := h
  refine ⟨ho2, ?_⟩
  intro v17 ev17
  replace h := h v17 ev17
  obtain ⟨ho3, h⟩ := h
  refine ⟨ho3, ?_⟩
  obtain ⟨ho4, h⟩ := h
  refine ⟨ho4, ?_⟩
  exact hq _ _ h
theorem F_X11_drawOf {x1 : Int} {v : VT} {q : Int → VT → Prop} (h : P_X11_drawOf x1 v q) : P_X11_drawOf x1 v (fun r w => q r w ∧ ∀ a, ¬ (a = 218) → w a = v a) := by
  unfold P_X11_drawOf at h ⊢
  have hf : ∀ a, ¬ (a = 218) → v a = v a := fun a _ => rfl
  obtain ⟨ho1, h⟩ := h
  refine ⟨ho1, ?_⟩
  obtain ⟨ho2, h⟩ := h
  refine ⟨ho2, ?_⟩
  intro v17 ev17
  replace h := h v17 ev17
  replace hf : ∀ a, ¬ (a = 218) → v17 a = v a := fun a ha => by rw [ev17, upd2_off _ _ _ (by omega), hf a ha]
  obtain ⟨ho3, h⟩ := h
  refine ⟨ho3, ?_⟩
  obtain ⟨ho4, h⟩ := h
  refine ⟨ho4, ?_⟩
  exact ⟨h, hf⟩
theorem N_X11_stirs  {v : VT} {q q' : VT → Prop} (h : P_X11_stirs  v q) (hq : ∀ w, q w → q' w) : P_X11_stirs  v q' := by
  unfold P_X11_stirs at h ⊢
  refine N_X11_drawOf h (fun r2 v2 h => ?_)
  refine ⟨fun hc => ?_, fun hc => ?_⟩
  · replace h := h.1 hc
    refine N_X11_drawOf h (fun r56 v56 h => ?_)
    refine ⟨fun hc => ?_, fun hc => ?_⟩
    · replace h := h.1 hc
      refine N_X11_drawOf h (fun r86 v86 h => ?_)
      intro K108 hKK108
      refine n_cut (h K108) ?_ ?_
      · intro s0 h
        refine hKK108 s0 ?_
        refine ⟨fun hc => ?_, fun hc => ?_⟩
        · replace h := h.1 hc
          refine N_X11_canJoin h (fun r128 h => ?_)
          refine ⟨fun hc => ?_, fun hc => ?_⟩
          · replace h := h.1 hc
            exact hq _ h
          · replace h := h.2 hc
            refine N_X11_joins h (fun v137 h => ?_)
            exact hq _ h
        · replace h := h.2 hc
          refine N_X11_cuts h (fun v119 h => ?_)
          exact hq _ h
      · intro h
        refine ⟨fun hc => ?_, fun hc => ?_⟩
        · replace h := h.1 hc
          refine N_X11_lineOf h (fun r105 h => ?_)
          exact h
        · replace h := h.2 hc
          exact h
    · replace h := h.2 hc
      refine N_X11_canGrow h (fun r67 h => ?_)
      refine ⟨fun hc => ?_, fun hc => ?_⟩
      · replace h := h.1 hc
        exact hq _ h
      · replace h := h.2 hc
        refine N_X11_grows h (fun v75 h => ?_)
        exact hq _ h
  · replace h := h.2 hc
    refine N_X11_lays h (fun v12 h => ?_)
    intro K31 hKK31
    refine n_cut (h K31) ?_ ?_
    · intro s0_1 h
      refine hKK31 s0_1 ?_
      refine N_X11_drawOf h (fun r31 v31 h => ?_)
      refine ⟨fun hc => ?_, fun hc => ?_⟩
      · replace h := h.1 hc
        exact hq _ h
      · replace h := h.2 hc
        refine N_X11_presses h (fun v45 h => ?_)
        exact hq _ h
    · intro h
      refine ⟨fun hc => ?_, fun hc => ?_⟩
      · replace h := h.1 hc
        exact h
      · replace h := h.2 hc
        exact h
theorem F_X11_stirs  {v : VT} {q : VT → Prop} (h : P_X11_stirs  v q) : P_X11_stirs  v (fun w => q w ∧ ∀ a, ¬ (a = 218 ∨ (222 ≤ a ∧ a ≤ 229) ∨ (240 ≤ a ∧ a ≤ 241)) → w a = v a) := by
  unfold P_X11_stirs at h ⊢
  have hf : ∀ a, ¬ (a = 218 ∨ (222 ≤ a ∧ a ≤ 229) ∨ (240 ≤ a ∧ a ≤ 241)) → v a = v a := fun a _ => rfl
  refine N_X11_drawOf (F_X11_drawOf h) (fun r2 v2 h => ?_)
  obtain ⟨h, hg⟩ := h
  replace hf : ∀ a, ¬ (a = 218 ∨ (222 ≤ a ∧ a ≤ 229) ∨ (240 ≤ a ∧ a ≤ 241)) → v2 a = v a := fun a ha => by rw [hg a (by omega), hf a ha]
  clear hg
  refine ⟨fun hc => ?_, fun hc => ?_⟩
  · replace h := h.1 hc
    refine N_X11_drawOf (F_X11_drawOf h) (fun r56 v56 h => ?_)
    obtain ⟨h, hg⟩ := h
    replace hf : ∀ a, ¬ (a = 218 ∨ (222 ≤ a ∧ a ≤ 229) ∨ (240 ≤ a ∧ a ≤ 241)) → v56 a = v a := fun a ha => by rw [hg a (by omega), hf a ha]
    clear hg
    refine ⟨fun hc => ?_, fun hc => ?_⟩
    · replace h := h.1 hc
      refine N_X11_drawOf (F_X11_drawOf h) (fun r86 v86 h => ?_)
      obtain ⟨h, hg⟩ := h
      replace hf : ∀ a, ¬ (a = 218 ∨ (222 ≤ a ∧ a ≤ 229) ∨ (240 ≤ a ∧ a ≤ 241)) → v86 a = v a := fun a ha => by rw [hg a (by omega), hf a ha]
      clear hg
      intro K108 hKK108
      refine n_cut (h K108) ?_ ?_
      · intro s0 h
        refine hKK108 s0 ?_
        refine ⟨fun hc => ?_, fun hc => ?_⟩
        · replace h := h.1 hc
          refine N_X11_canJoin h (fun r128 h => ?_)
          refine ⟨fun hc => ?_, fun hc => ?_⟩
          · replace h := h.1 hc
            exact ⟨h, hf⟩
          · replace h := h.2 hc
            refine N_X11_joins (F_X11_joins h) (fun v137 h => ?_)
            obtain ⟨h, hg⟩ := h
            replace hf : ∀ a, ¬ (a = 218 ∨ (222 ≤ a ∧ a ≤ 229) ∨ (240 ≤ a ∧ a ≤ 241)) → v137 a = v a := fun a ha => by rw [hg a (by omega), hf a ha]
            clear hg
            exact ⟨h, hf⟩
        · replace h := h.2 hc
          refine N_X11_cuts (F_X11_cuts h) (fun v119 h => ?_)
          obtain ⟨h, hg⟩ := h
          replace hf : ∀ a, ¬ (a = 218 ∨ (222 ≤ a ∧ a ≤ 229) ∨ (240 ≤ a ∧ a ≤ 241)) → v119 a = v a := fun a ha => by rw [hg a (by omega), hf a ha]
          clear hg
          exact ⟨h, hf⟩
      · intro h
        refine ⟨fun hc => ?_, fun hc => ?_⟩
        · replace h := h.1 hc
          refine N_X11_lineOf h (fun r105 h => ?_)
          exact h
        · replace h := h.2 hc
          exact h
    · replace h := h.2 hc
      refine N_X11_canGrow h (fun r67 h => ?_)
      refine ⟨fun hc => ?_, fun hc => ?_⟩
      · replace h := h.1 hc
        exact ⟨h, hf⟩
      · replace h := h.2 hc
        refine N_X11_grows (F_X11_grows h) (fun v75 h => ?_)
        obtain ⟨h, hg⟩ := h
        replace hf : ∀ a, ¬ (a = 218 ∨ (222 ≤ a ∧ a ≤ 229) ∨ (240 ≤ a ∧ a ≤ 241)) → v75 a = v a := fun a ha => by rw [hg a (by omega), hf a ha]
        clear hg
        exact ⟨h, hf⟩
  · replace h := h.2 hc
    refine N_X11_lays (F_X11_lays h) (fun v12 h => ?_)
    obtain ⟨h, hg⟩ := h
    replace hf : ∀ a, ¬ (a = 218 ∨ (222 ≤ a ∧ a ≤ 229) ∨ (240 ≤ a ∧ a ≤ 241)) → v12 a = v a := fun a ha => by rw [hg a (by omega), hf a ha]
    clear hg
    intro K31 hKK31
    refine n_cut (h K31) ?_ ?_
    · intro s0_1 h
      refine hKK31 s0_1 ?_
      refine N_X11_drawOf (F_X11_drawOf h) (fun r31 v31 h => ?_)
      obtain ⟨h, hg⟩ := h
      replace hf : ∀ a, ¬ (a = 218 ∨ (222 ≤ a ∧ a ≤ 229) ∨ (240 ≤ a ∧ a ≤ 241)) → v31 a = v a := fun a ha => by rw [hg a (by omega), hf a ha]
      clear hg
      refine ⟨fun hc => ?_, fun hc => ?_⟩
      · replace h := h.1 hc
        exact ⟨h, hf⟩
      · replace h := h.2 hc
        refine N_X11_presses (F_X11_presses h) (fun v45 h => ?_)
        obtain ⟨h, hg⟩ := h
        replace hf : ∀ a, ¬ (a = 218 ∨ (222 ≤ a ∧ a ≤ 229) ∨ (240 ≤ a ∧ a ≤ 241)) → v45 a = v a := fun a ha => by rw [hg a (by omega), hf a ha]
        clear hg
        exact ⟨h, hf⟩
    · intro h
      refine ⟨fun hc => ?_, fun hc => ?_⟩
      · replace h := h.1 hc
        exact h
      · replace h := h.2 hc
        exact h
theorem N_X11_chance {x1 : Int} {v : VT} {q q' : Int → VT → Prop} (h : P_X11_chance x1 v q) (hq : ∀ r w, q r w → q' r w) : P_X11_chance x1 v q' := by
  unfold P_X11_chance at h ⊢
  refine N_X11_isIn h (fun r6 h => ?_)
  refine ⟨fun hc => ?_, fun hc => ?_⟩
  · replace h := h.1 hc
    refine N_X11_refuses h (fun r23 v23 h => ?_)
    exact hq _ _ h
  · replace h := h.2 hc
    refine ⟨fun hc => ?_, fun hc => ?_⟩
    · replace h := h.1 hc
      refine N_X11_keeps h (fun v28 h => ?_)
      intro X33 hKX33
      refine n_cut (h X33) ?_ ?_
      · intro i2 v33 h
        refine hKX33 i2 v33 ?_
        refine ⟨fun hc => ?_, fun hc => ?_⟩
        · replace h := h.1 hc
          exact hq _ _ h
        · replace h := h.2 hc
          refine N_X11_stirs h (fun v39 h => ?_)
          obtain ⟨ho1, h⟩ := h
          refine ⟨ho1, ?_⟩
          exact h
      · intro h
        exact h
    · replace h := h.2 hc
      refine N_X11_refuses h (fun r23_1 v23_1 h => ?_)
      exact hq _ _ h
theorem F_X11_chance {x1 : Int} {v : VT} {q : Int → VT → Prop} (h : P_X11_chance x1 v q) : P_X11_chance x1 v (fun r w => q r w ∧ ∀ a, ¬ (a = 218 ∨ a = 220 ∨ (222 ≤ a ∧ a ≤ 229) ∨ (239 ≤ a ∧ a ≤ 241)) → w a = v a) := by
  unfold P_X11_chance at h ⊢
  have hf : ∀ a, ¬ (a = 218 ∨ a = 220 ∨ (222 ≤ a ∧ a ≤ 229) ∨ (239 ≤ a ∧ a ≤ 241)) → v a = v a := fun a _ => rfl
  refine N_X11_isIn h (fun r6 h => ?_)
  refine ⟨fun hc => ?_, fun hc => ?_⟩
  · replace h := h.1 hc
    refine N_X11_refuses (F_X11_refuses h) (fun r23 v23 h => ?_)
    obtain ⟨h, hg⟩ := h
    replace hf : ∀ a, ¬ (a = 218 ∨ a = 220 ∨ (222 ≤ a ∧ a ≤ 229) ∨ (239 ≤ a ∧ a ≤ 241)) → v23 a = v a := fun a ha => by rw [hg a (by omega), hf a ha]
    clear hg
    exact ⟨h, hf⟩
  · replace h := h.2 hc
    refine ⟨fun hc => ?_, fun hc => ?_⟩
    · replace h := h.1 hc
      refine N_X11_keeps (F_X11_keeps h) (fun v28 h => ?_)
      obtain ⟨h, hg⟩ := h
      replace hf : ∀ a, ¬ (a = 218 ∨ a = 220 ∨ (222 ≤ a ∧ a ≤ 229) ∨ (239 ≤ a ∧ a ≤ 241)) → v28 a = v a := fun a ha => by rw [hg a (by omega), hf a ha]
      clear hg
      intro X33 hKX33
      refine n_cut (h (fun (i2 : Int) (v33 : VT) => (∀ a, ¬ (a = 218 ∨ a = 220 ∨ (222 ≤ a ∧ a ≤ 229) ∨ (239 ≤ a ∧ a ≤ 241)) → v33 a = v a) → X33 i2 v33)) ?_ ?_
      · intro i2 v33 h hf
        refine hKX33 i2 v33 ?_
        refine ⟨fun hc => ?_, fun hc => ?_⟩
        · replace h := h.1 hc
          exact ⟨h, hf⟩
        · replace h := h.2 hc
          refine N_X11_stirs (F_X11_stirs h) (fun v39 h => ?_)
          obtain ⟨h, hg⟩ := h
          replace hf : ∀ a, ¬ (a = 218 ∨ a = 220 ∨ (222 ≤ a ∧ a ≤ 229) ∨ (239 ≤ a ∧ a ≤ 241)) → v39 a = v a := fun a ha => by rw [hg a (by omega), hf a ha]
          clear hg
          obtain ⟨ho1, h⟩ := h
          refine ⟨ho1, ?_⟩
          exact h hf
      · intro h
        exact h hf
    · replace h := h.2 hc
      refine N_X11_refuses (F_X11_refuses h) (fun r23_1 v23_1 h => ?_)
      obtain ⟨h, hg⟩ := h
      replace hf : ∀ a, ¬ (a = 218 ∨ a = 220 ∨ (222 ≤ a ∧ a ≤ 229) ∨ (239 ≤ a ∧ a ≤ 241)) → v23_1 a = v a := fun a ha => by rw [hg a (by omega), hf a ha]
      clear hg
      exact ⟨h, hf⟩
theorem N_X11_last {a0 : Nat} {n0 : Nat} {x1 : Int} {v : VT} {q q' : Int → Prop} (h : P_X11_last a0 n0 x1 v q) (hq : ∀ r, q r → q' r) : P_X11_last a0 n0 x1 v q' := by
  unfold P_X11_last at h ⊢
  intro X6 hKX6
  refine n_cut (h X6) ?_ ?_
  · intro i2 i3 h
    refine hKX6 i2 i3 ?_
    refine ⟨fun hc => ?_, fun hc => ?_⟩
    · replace h := h.1 hc
      exact hq _ h
    · replace h := h.2 hc
      obtain ⟨ho1, h⟩ := h
      refine ⟨ho1, ?_⟩
      obtain ⟨ho2, h⟩ := h
      refine ⟨ho2, ?_⟩
      obtain ⟨ho3, h⟩ := h
      refine ⟨ho3, ?_⟩
      intro l2 el2
      replace h := h l2 el2
      obtain ⟨ho4, h⟩ := h
      refine ⟨ho4, ?_⟩
      exact h
  · intro h
    exact h
theorem N_X11_image  {v : VT} {q q' : Int → VT → Prop} (h : P_X11_image  v q) (hq : ∀ r w, q r w → q' r w) : P_X11_image  v q' := by
  unfold P_X11_image at h ⊢
  intro v11 ev11
  replace h := h v11 ev11
  intro v23 ev23
  replace h := h v23 ev23
  intro K61 hKK61
  refine n_cut (h K61) ?_ ?_
  · intro v61 h
    refine hKK61 v61 ?_
    obtain ⟨ho1, h⟩ := h
    refine ⟨ho1, ?_⟩
    obtain ⟨ho2, h⟩ := h
    refine ⟨ho2, ?_⟩
    intro v72 ev72
    replace h := h v72 ev72
    refine N_X11_last h (fun r91 h => ?_)
    obtain ⟨ho3, h⟩ := h
    refine ⟨ho3, ?_⟩
    intro v94 ev94
    replace h := h v94 ev94
    obtain ⟨ho4, h⟩ := h
    refine ⟨ho4, ?_⟩
    intro v102 ev102
    replace h := h v102 ev102
    exact hq _ _ h
  · intro h
    intro X26 hKX26
    refine n_cut (h X26) ?_ ?_
    · intro i1 v26 h
      refine hKX26 i1 v26 ?_
      obtain ⟨ho5, h⟩ := h
      refine ⟨ho5, ?_⟩
      refine ⟨fun hc => ?_, fun hc => ?_⟩
      · replace h := h.1 hc
        exact h
      · replace h := h.2 hc
        obtain ⟨ho6, h⟩ := h
        refine ⟨ho6, ?_⟩
        obtain ⟨ho7, h⟩ := h
        refine ⟨ho7, ?_⟩
        obtain ⟨ho8, h⟩ := h
        refine ⟨ho8, ?_⟩
        obtain ⟨ho9, h⟩ := h
        refine ⟨ho9, ?_⟩
        intro v54 ev54
        replace h := h v54 ev54
        obtain ⟨ho10, h⟩ := h
        refine ⟨ho10, ?_⟩
        exact h
    · intro h
      exact h
theorem F_X11_image  {v : VT} {q : Int → VT → Prop} (h : P_X11_image  v q) : P_X11_image  v (fun r w => q r w ∧ ∀ a, ¬ (a = 218 ∨ a = 243) → w a = v a) := by
  unfold P_X11_image at h ⊢
  have hf : ∀ a, ¬ (a = 218 ∨ a = 243) → v a = v a := fun a _ => rfl
  intro v11 ev11
  replace h := h v11 ev11
  replace hf : ∀ a, ¬ (a = 218 ∨ a = 243) → v11 a = v a := fun a ha => by rw [ev11, upd2_off _ _ _ (by omega), hf a ha]
  intro v23 ev23
  replace h := h v23 ev23
  replace hf : ∀ a, ¬ (a = 218 ∨ a = 243) → v23 a = v a := fun a ha => by rw [ev23, upd2_off _ _ _ (by omega), hf a ha]
  intro K61 hKK61
  refine n_cut (h (fun (v61 : VT) => (∀ a, ¬ (a = 218 ∨ a = 243) → v61 a = v a) → K61 v61)) ?_ ?_
  · intro v61 h hf
    refine hKK61 v61 ?_
    obtain ⟨ho1, h⟩ := h
    refine ⟨ho1, ?_⟩
    obtain ⟨ho2, h⟩ := h
    refine ⟨ho2, ?_⟩
    intro v72 ev72
    replace h := h v72 ev72
    replace hf : ∀ a, ¬ (a = 218 ∨ a = 243) → v72 a = v a := fun a ha => by rw [ev72, upd2_off _ _ _ (by omega), hf a ha]
    refine N_X11_last h (fun r91 h => ?_)
    obtain ⟨ho3, h⟩ := h
    refine ⟨ho3, ?_⟩
    intro v94 ev94
    replace h := h v94 ev94
    replace hf : ∀ a, ¬ (a = 218 ∨ a = 243) → v94 a = v a := fun a ha => by rw [ev94, upd2_off _ _ _ (by omega), hf a ha]
    obtain ⟨ho4, h⟩ := h
    refine ⟨ho4, ?_⟩
    intro v102 ev102
    replace h := h v102 ev102
    replace hf : ∀ a, ¬ (a = 218 ∨ a = 243) → v102 a = v a := fun a ha => by rw [ev102, upd2_off _ _ _ (by omega), hf a ha]
    exact ⟨h, hf⟩
  · intro h
    intro X26 hKX26
    refine n_cut (h (fun (i1 : Int) (v26 : VT) => (∀ a, ¬ (a = 218 ∨ a = 243) → v26 a = v a) → X26 i1 v26)) ?_ ?_
    · intro i1 v26 h hf
      refine hKX26 i1 v26 ?_
      obtain ⟨ho5, h⟩ := h
      refine ⟨ho5, ?_⟩
      refine ⟨fun hc => ?_, fun hc => ?_⟩
      · replace h := h.1 hc
        exact h hf
      · replace h := h.2 hc
        obtain ⟨ho6, h⟩ := h
        refine ⟨ho6, ?_⟩
        obtain ⟨ho7, h⟩ := h
        refine ⟨ho7, ?_⟩
        obtain ⟨ho8, h⟩ := h
        refine ⟨ho8, ?_⟩
        obtain ⟨ho9, h⟩ := h
        refine ⟨ho9, ?_⟩
        intro v54 ev54
        replace h := h v54 ev54
        replace hf : ∀ a, ¬ (a = 218 ∨ a = 243) → v54 a = v a := fun a ha => by rw [ev54, upd2_off _ _ _ (by omega), hf a ha]
        obtain ⟨ho10, h⟩ := h
        refine ⟨ho10, ?_⟩
        exact h hf
    · intro h
      exact h hf
theorem N_X11_octet {x1 : Int} {v : VT} {q q' : Int → Prop} (h : P_X11_octet x1 v q) (hq : ∀ r, q r → q' r) : P_X11_octet x1 v q' := by
  unfold P_X11_octet at h ⊢
  obtain ⟨ho1, h⟩ := h
  refine ⟨ho1, ?_⟩
  refine N_X11_isIn h (fun r10 h => ?_)
  refine ⟨fun hc => ?_, fun hc => ?_⟩
  · replace h := h.1 hc
    exact hq _ h
  · replace h := h.2 hc
    obtain ⟨ho2, h⟩ := h
    refine ⟨ho2, ?_⟩
    exact hq _ h
theorem N_X11_isImage {x1 : Int} {v : VT} {q q' : Int → VT → Prop} (h : P_X11_isImage x1 v q) (hq : ∀ r w, q r w → q' r w) : P_X11_isImage x1 v q' := by
  unfold P_X11_isImage at h ⊢
  refine ⟨fun hc => ?_, fun hc => ?_⟩
  · replace h := h.1 hc
    exact hq _ _ h
  · replace h := h.2 hc
    refine N_X11_isIn h (fun r16 h => ?_)
    refine ⟨fun hc => ?_, fun hc => ?_⟩
    · replace h := h.1 hc
      exact hq _ _ h
    · replace h := h.2 hc
      refine ⟨fun hc => ?_, fun hc => ?_⟩
      · replace h := h.1 hc
        exact hq _ _ h
      · replace h := h.2 hc
        obtain ⟨ho1, h⟩ := h
        refine ⟨ho1, ?_⟩
        obtain ⟨ho2, h⟩ := h
        refine ⟨ho2, ?_⟩
        refine ⟨fun hc => ?_, fun hc => ?_⟩
        · replace h := h.1 hc
          exact hq _ _ h
        · replace h := h.2 hc
          obtain ⟨ho3, h⟩ := h
          refine ⟨ho3, ?_⟩
          obtain ⟨ho4, h⟩ := h
          refine ⟨ho4, ?_⟩
          obtain ⟨ho5, h⟩ := h
          refine ⟨ho5, ?_⟩
          refine N_X11_last h (fun r62 h => ?_)
          refine ⟨fun hc => ?_, fun hc => ?_⟩
          · replace h := h.1 hc
            intro K92 hKK92
            refine n_cut (h K92) ?_ ?_
            · intro v92 h
              refine hKK92 v92 ?_
              intro v103 ev103
              replace h := h v103 ev103
              intro X106 hKX106
              refine n_cut (h X106) ?_ ?_
              · intro i2 v106 h
                refine hKX106 i2 v106 ?_
                obtain ⟨ho6, h⟩ := h
                refine ⟨ho6, ?_⟩
                refine ⟨fun hc => ?_, fun hc => ?_⟩
                · replace h := h.1 hc
                  exact hq _ _ h
                · replace h := h.2 hc
                  obtain ⟨ho7, h⟩ := h
                  refine ⟨ho7, ?_⟩
                  obtain ⟨ho8, h⟩ := h
                  refine ⟨ho8, ?_⟩
                  obtain ⟨ho9, h⟩ := h
                  refine ⟨ho9, ?_⟩
                  refine ⟨fun hc => ?_, fun hc => ?_⟩
                  · replace h := h.1 hc
                    exact hq _ _ h
                  · replace h := h.2 hc
                    obtain ⟨ho10, h⟩ := h
                    refine ⟨ho10, ?_⟩
                    obtain ⟨ho11, h⟩ := h
                    refine ⟨ho11, ?_⟩
                    refine ⟨fun hc => ?_, fun hc => ?_⟩
                    · replace h := h.1 hc
                      exact hq _ _ h
                    · replace h := h.2 hc
                      obtain ⟨ho12, h⟩ := h
                      refine ⟨ho12, ?_⟩
                      obtain ⟨ho13, h⟩ := h
                      refine ⟨ho13, ?_⟩
                      obtain ⟨ho14, h⟩ := h
                      refine ⟨ho14, ?_⟩
                      refine N_X11_lineOf h (fun r165 h => ?_)
                      refine ⟨fun hc => ?_, fun hc => ?_⟩
                      · replace h := h.1 hc
                        obtain ⟨ho15, h⟩ := h
                        refine ⟨ho15, ?_⟩
                        obtain ⟨ho16, h⟩ := h
                        refine ⟨ho16, ?_⟩
                        obtain ⟨ho17, h⟩ := h
                        refine ⟨ho17, ?_⟩
                        refine N_X11_adds h (fun v193 h => ?_)
                        obtain ⟨ho18, h⟩ := h
                        refine ⟨ho18, ?_⟩
                        exact h
                      · replace h := h.2 hc
                        exact hq _ _ h
              · intro h
                exact h
            · intro h
              intro X72 hKX72
              refine n_cut (h X72) ?_ ?_
              · intro i2_1 v72 h
                refine hKX72 i2_1 v72 ?_
                refine ⟨fun hc => ?_, fun hc => ?_⟩
                · replace h := h.1 hc
                  exact h
                · replace h := h.2 hc
                  obtain ⟨ho19, h⟩ := h
                  refine ⟨ho19, ?_⟩
                  intro v85 ev85
                  replace h := h v85 ev85
                  obtain ⟨ho20, h⟩ := h
                  refine ⟨ho20, ?_⟩
                  exact h
              · intro h
                exact h
          · replace h := h.2 hc
            exact hq _ _ h
theorem F_X11_isImage {x1 : Int} {v : VT} {q : Int → VT → Prop} (h : P_X11_isImage x1 v q) : P_X11_isImage x1 v (fun r w => q r w ∧ ∀ a, ¬ (a = 223) → w a = v a) := by
  unfold P_X11_isImage at h ⊢
  have hf : ∀ a, ¬ (a = 223) → v a = v a := fun a _ => rfl
  refine ⟨fun hc => ?_, fun hc => ?_⟩
  · replace h := h.1 hc
    exact ⟨h, hf⟩
  · replace h := h.2 hc
    refine N_X11_isIn h (fun r16 h => ?_)
    refine ⟨fun hc => ?_, fun hc => ?_⟩
    · replace h := h.1 hc
      exact ⟨h, hf⟩
    · replace h := h.2 hc
      refine ⟨fun hc => ?_, fun hc => ?_⟩
      · replace h := h.1 hc
        exact ⟨h, hf⟩
      · replace h := h.2 hc
        obtain ⟨ho1, h⟩ := h
        refine ⟨ho1, ?_⟩
        obtain ⟨ho2, h⟩ := h
        refine ⟨ho2, ?_⟩
        refine ⟨fun hc => ?_, fun hc => ?_⟩
        · replace h := h.1 hc
          exact ⟨h, hf⟩
        · replace h := h.2 hc
          obtain ⟨ho3, h⟩ := h
          refine ⟨ho3, ?_⟩
          obtain ⟨ho4, h⟩ := h
          refine ⟨ho4, ?_⟩
          obtain ⟨ho5, h⟩ := h
          refine ⟨ho5, ?_⟩
          refine N_X11_last h (fun r62 h => ?_)
          refine ⟨fun hc => ?_, fun hc => ?_⟩
          · replace h := h.1 hc
            intro K92 hKK92
            refine n_cut (h (fun (v92 : VT) => (∀ a, ¬ (a = 223) → v92 a = v a) → K92 v92)) ?_ ?_
            · intro v92 h hf
              refine hKK92 v92 ?_
              intro v103 ev103
              replace h := h v103 ev103
              replace hf : ∀ a, ¬ (a = 223) → v103 a = v a := fun a ha => by rw [ev103, upd2_off _ _ _ (by omega), hf a ha]
              intro X106 hKX106
              refine n_cut (h (fun (i2 : Int) (v106 : VT) => (∀ a, ¬ (a = 223) → v106 a = v a) → X106 i2 v106)) ?_ ?_
              · intro i2 v106 h hf
                refine hKX106 i2 v106 ?_
                obtain ⟨ho6, h⟩ := h
                refine ⟨ho6, ?_⟩
                refine ⟨fun hc => ?_, fun hc => ?_⟩
                · replace h := h.1 hc
                  exact ⟨h, hf⟩
                · replace h := h.2 hc
                  obtain ⟨ho7, h⟩ := h
                  refine ⟨ho7, ?_⟩
                  obtain ⟨ho8, h⟩ := h
                  refine ⟨ho8, ?_⟩
                  obtain ⟨ho9, h⟩ := h
                  refine ⟨ho9, ?_⟩
                  refine ⟨fun hc => ?_, fun hc => ?_⟩
                  · replace h := h.1 hc
                    exact ⟨h, hf⟩
                  · replace h := h.2 hc
                    obtain ⟨ho10, h⟩ := h
                    refine ⟨ho10, ?_⟩
                    obtain ⟨ho11, h⟩ := h
                    refine ⟨ho11, ?_⟩
                    refine ⟨fun hc => ?_, fun hc => ?_⟩
                    · replace h := h.1 hc
                      exact ⟨h, hf⟩
                    · replace h := h.2 hc
                      obtain ⟨ho12, h⟩ := h
                      refine ⟨ho12, ?_⟩
                      obtain ⟨ho13, h⟩ := h
                      refine ⟨ho13, ?_⟩
                      obtain ⟨ho14, h⟩ := h
                      refine ⟨ho14, ?_⟩
                      refine N_X11_lineOf h (fun r165 h => ?_)
                      refine ⟨fun hc => ?_, fun hc => ?_⟩
                      · replace h := h.1 hc
                        obtain ⟨ho15, h⟩ := h
                        refine ⟨ho15, ?_⟩
                        obtain ⟨ho16, h⟩ := h
                        refine ⟨ho16, ?_⟩
                        obtain ⟨ho17, h⟩ := h
                        refine ⟨ho17, ?_⟩
                        refine N_X11_adds (F_X11_adds h) (fun v193 h => ?_)
                        obtain ⟨h, hg⟩ := h
                        replace hf : ∀ a, ¬ (a = 223) → v193 a = v a := fun a ha => by rw [hg a (by omega), hf a ha]
                        clear hg
                        obtain ⟨ho18, h⟩ := h
                        refine ⟨ho18, ?_⟩
                        exact h hf
                      · replace h := h.2 hc
                        exact ⟨h, hf⟩
              · intro h
                exact h hf
            · intro h
              intro X72 hKX72
              refine n_cut (h (fun (i2_1 : Int) (v72 : VT) => (∀ a, ¬ (a = 223) → v72 a = v a) → X72 i2_1 v72)) ?_ ?_
              · intro i2_1 v72 h hf
                refine hKX72 i2_1 v72 ?_
                refine ⟨fun hc => ?_, fun hc => ?_⟩
                · replace h := h.1 hc
                  exact h hf
                · replace h := h.2 hc
                  obtain ⟨ho19, h⟩ := h
                  refine ⟨ho19, ?_⟩
                  intro v85 ev85
                  replace h := h v85 ev85
                  replace hf : ∀ a, ¬ (a = 223) → v85 a = v a := fun a ha => by rw [ev85, upd2_off _ _ _ (by omega), hf a ha]
                  obtain ⟨ho20, h⟩ := h
                  refine ⟨ho20, ?_⟩
                  exact h hf
              · intro h
                exact h hf
          · replace h := h.2 hc
            exact ⟨h, hf⟩
theorem N_X11_on  {v : VT} {q q' : Int → VT → Prop} (h : P_X11_on  v q) (hq : ∀ r w, q r w → q' r w) : P_X11_on  v q' := by
  unfold P_X11_on at h ⊢
  intro v7 ev7
  replace h := h v7 ev7
  refine N_X11_isImage h (fun r12 v12 h => ?_)
  refine ⟨fun hc => ?_, fun hc => ?_⟩
  · replace h := h.1 hc
    refine N_X11_isNext h (fun v25 h => ?_)
    intro v30 ev30
    replace h := h v30 ev30
    exact hq _ _ h
  · replace h := h.2 hc
    refine N_X11_isRefused h (fun r20 v20 h => ?_)
    obtain ⟨ho1, h⟩ := h
    refine ⟨ho1, ?_⟩
    exact hq _ _ h
theorem F_X11_on  {v : VT} {q : Int → VT → Prop} (h : P_X11_on  v q) : P_X11_on  v (fun r w => q r w ∧ ∀ a, ¬ (a = 218 ∨ a = 220 ∨ (222 ≤ a ∧ a ≤ 223)) → w a = v a) := by
  unfold P_X11_on at h ⊢
  have hf : ∀ a, ¬ (a = 218 ∨ a = 220 ∨ (222 ≤ a ∧ a ≤ 223)) → v a = v a := fun a _ => rfl
  intro v7 ev7
  replace h := h v7 ev7
  replace hf : ∀ a, ¬ (a = 218 ∨ a = 220 ∨ (222 ≤ a ∧ a ≤ 223)) → v7 a = v a := fun a ha => by rw [ev7, upd2_off _ _ _ (by omega), hf a ha]
  refine N_X11_isImage (F_X11_isImage h) (fun r12 v12 h => ?_)
  obtain ⟨h, hg⟩ := h
  replace hf : ∀ a, ¬ (a = 218 ∨ a = 220 ∨ (222 ≤ a ∧ a ≤ 223)) → v12 a = v a := fun a ha => by rw [hg a (by omega), hf a ha]
  clear hg
  refine ⟨fun hc => ?_, fun hc => ?_⟩
  · replace h := h.1 hc
    refine N_X11_isNext (F_X11_isNext h) (fun v25 h => ?_)
    obtain ⟨h, hg⟩ := h
    replace hf : ∀ a, ¬ (a = 218 ∨ a = 220 ∨ (222 ≤ a ∧ a ≤ 223)) → v25 a = v a := fun a ha => by rw [hg a (by omega), hf a ha]
    clear hg
    intro v30 ev30
    replace h := h v30 ev30
    replace hf : ∀ a, ¬ (a = 218 ∨ a = 220 ∨ (222 ≤ a ∧ a ≤ 223)) → v30 a = v a := fun a ha => by rw [ev30, upd2_off _ _ _ (by omega), hf a ha]
    exact ⟨h, hf⟩
  · replace h := h.2 hc
    refine N_X11_isRefused (F_X11_isRefused h) (fun r20 v20 h => ?_)
    obtain ⟨h, hg⟩ := h
    replace hf : ∀ a, ¬ (a = 218 ∨ a = 220 ∨ (222 ≤ a ∧ a ≤ 223)) → v20 a = v a := fun a ha => by rw [hg a (by omega), hf a ha]
    clear hg
    obtain ⟨ho1, h⟩ := h
    refine ⟨ho1, ?_⟩
    exact ⟨h, hf⟩

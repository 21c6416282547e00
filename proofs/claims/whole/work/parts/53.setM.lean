/-! ===== the reference: a set that keeps its distances ===== -/
theorem far7_at (v : VT) {a b c d : Int} (x : Int) (ha : 0 ≤ a) (hb : 0 ≤ b ∧ b < 24) (hc : 0 ≤ c) (hd : 0 ≤ d ∧ d < 24) : upd2 v 237 ((24 * a) + b).toNat x 237 ((24 * c) + d).toNat = if c = a ∧ d = b then x else v 237 ((24 * c) + d).toNat := by
  rw [upd2_at _ _ _ (by omega) (by omega)]
  by_cases h : c = a ∧ d = b
  · rw [if_pos h, if_pos (by omega)]
  · rw [if_neg h, if_neg (by omega)]
section Q10
variable {n : Int} {L : List Ln} {v : VT} {q : Int → VT → Prop}
theorem S_isTrueM {x : Int} {q : Int → VT → Prop} (w : wfL n L) (hn : 0 ≤ n ∧ n ≤ 24) (hcn : conn n L) (hx : okS n x) (hg : mG v 222 n L) (hfr : frOK v n L)
    (h0 : ∀ v', (∀ a, a ≠ 237 → v' a = v a) → ¬ isT n L x → q 0 v') (h1 : ∀ v', (∀ a, a ≠ 237 → v' a = v a) → isT n L x → q 1 v') : P_X11_isTrue x v q := by
  have w' := wi w x
  unfold P_X11_isTrue
  rw [hg.1]
  intro K91 hK91 X9 hX9
  have frf : ∀ {v' : VT}, (∀ a, a ≠ 237 → v' a = v a) → frOK v' n L := fun {v'} hf => by unfold frOK; rw [hf 224 (by omega)]; exact hfr
  have s1 : ∀ v91 : VT, (∀ a, a ≠ 237 → v91 a = v a) → (∀ a b : Int, 0 ≤ a → a < n → 0 ≤ b → b < n → v91 237 ((24 * a) + b).toNat = fw (ind L x) 0 a b) → K91 v91 := by
    intro v91 hf hz
    apply hK91
    intro K194 hK194 X93 hX93
    have s2 : ∀ v194 : VT, (∀ a, a ≠ 237 → v194 a = v a) → (∀ a b : Int, 0 ≤ a → a < n → 0 ≤ b → b < n → v194 237 ((24 * a) + b).toNat = fw (ind L x) n.toNat a b) → K194 v194 := by
      intro v194 hf hz
      apply hK194
      intro X196 hX196
      refine up1 (X := X196) n (fun i => 0 ≤ i ∧ ∀ a b : Int, 0 ≤ a → a < i → 0 ≤ b → b < n → tb x a.toNat = true → tb x b.toNat = true → dd (ind L x) a b = dd L a b) ?_ (by omega) ⟨by omega, fun a b a0 a1 => by omega⟩
      intro i hle ⟨i0, hd⟩ hnext
      apply hX196
      refine ⟨fun hc => h1 v194 hf (fun a b a0 a1 b0 b1 => hd a b a0 (by omega) b0 b1), fun hc => ?_⟩
      intro X204 hX204
      refine up1 (X := X204) n (fun j => 0 ≤ j ∧ ∀ b : Int, 0 ≤ b → b < j → tb x i.toNat = true → tb x b.toNat = true → dd (ind L x) i b = dd L i b) ?_ (by omega) ⟨by omega, fun b b0 b1 => by omega⟩
      intro j hle2 ⟨j0, hd2⟩ hnext2
      apply hX204
      refine ⟨fun hc2 => ⟨by omega, hnext hc ⟨by omega, fun a b a0 a1 b0 b1 b2 b3 => ?_⟩⟩, fun hc2 => S_isOf ⟨i0, by omega⟩ (fun hif => ⟨fun _ => ⟨by omega, hnext2 hc2 ⟨by omega, fun b b0 b1 b2 b3 => ?_⟩⟩, fun h => absurd rfl h⟩) (fun hit => ⟨fun h => absurd h (by decide), fun _ => S_isOf ⟨j0, by omega⟩ (fun hjf => ⟨fun _ => ⟨by omega, hnext2 hc2 ⟨by omega, fun b b0 b1 b2 b3 => ?_⟩⟩, fun h => absurd rfl h⟩) (fun hjt => ⟨fun h => absurd h (by decide), fun _ => ⟨by omega, by omega, by omega, ?_⟩⟩)⟩)⟩
      · by_cases e : a = i
        · rw [e] at b2 ⊢; exact hd2 b b0 (by omega) b2 b3
        · exact hd a b a0 (by omega) b0 b1 b2 b3
      · rw [hif] at b2; exact absurd b2 (by decide)
      · by_cases e : b = j
        · rw [e, hjf] at b3; exact absurd b3 (by decide)
        · exact hd2 b b0 (by omega) b2 b3
      · refine S_farOf hn (frf hf) ⟨i0, hc⟩ ⟨j0, hc2⟩ ?_
        rw [hz i j i0 hc j0 hc2]
        have e1 := fw_end w' hn (a := i) (b := j) ⟨i0, hc⟩
        have c1 := hcn i j i0 hc j0 hc2
        have f0 := (f9_r w hn (a := i) (b := j) ⟨i0, hc⟩).2.2.2 c1
        have l1 := dd_lt w (a := i) (b := j) ⟨i0, hc⟩
        have l2 := dd_ge (L := ind L x) (a := i) (b := j)
        rw [f0]
        refine ⟨fun he => ⟨by omega, hnext2 hc2 ⟨by omega, fun b b0 b1 b2 b3 => ?_⟩⟩, fun hne => h0 v194 hf (fun g => ?_)⟩
        · by_cases e : b = j
          · rw [e]
            by_cases h : 0 ≤ dd (ind L x) i j
            · rw [← e1.1 h]; exact he
            · have := e1.2 (by omega); omega
          · exact hd2 b b0 (by omega) b2 b3
        · have := g i j i0 hc j0 hc2 hit hjt
          exact hne (by rw [e1.1 (by omega)]; exact this)
    refine up2 (X := X93) n (fun i v93 => 0 ≤ i ∧ (∀ a, a ≠ 237 → v93 a = v a) ∧ (∀ a b : Int, 0 ≤ a → a < n → 0 ≤ b → b < n → v93 237 ((24 * a) + b).toNat = fw (ind L x) i.toNat a b)) ?_ (by omega) ⟨by omega, hf, hz⟩
    intro i v93 hle ⟨i0, hf1, hz1⟩ hnext
    apply hX93
    refine ⟨fun hc => s2 v93 hf1 (by rw [show n = i by omega]; rw [show n = i by omega] at hz1; exact hz1), fun hc => ?_⟩
    have em : ((i.toNat : Nat) : Int) = i := Int.toNat_of_nonneg i0
    have e1 : (i + 1).toNat = i.toNat + 1 := by omega
    intro X101 hX101
    refine up2 (X := X101) n (fun a v122 => 0 ≤ a ∧ (∀ a, a ≠ 237 → v122 a = v a) ∧ (∀ a' b' : Int, 0 ≤ a' → a' < n → 0 ≤ b' → b' < n → v122 237 ((24 * a') + b').toNat = if a' < a then fw (ind L x) (i.toNat + 1) a' b' else fw (ind L x) i.toNat a' b')) ?_ (by omega) ⟨by omega, hf1, fun a' b' h1 h2 h3 h4 => by rw [if_neg (by omega)]; exact hz1 a' b' h1 h2 h3 h4⟩
    intro a v122 hle2 ⟨a0, hf2, hz2⟩ hnext2
    apply hX101
    refine ⟨fun hc2 => ⟨by omega, hnext hc _ ⟨by omega, hf2, fun a' b' h1 h2 h3 h4 => ?_⟩⟩, fun hc2 => ?_⟩
    · rw [hz2 a' b' h1 h2 h3 h4, if_pos (by omega), e1]
    intro X110 hX110
    refine up2 (X := X110) n (fun b v130 => 0 ≤ b ∧ (∀ a, a ≠ 237 → v130 a = v a) ∧ (∀ a' b' : Int, 0 ≤ a' → a' < n → 0 ≤ b' → b' < n → v130 237 ((24 * a') + b').toNat = if a' < a ∨ (a' = a ∧ b' < b) then fw (ind L x) (i.toNat + 1) a' b' else fw (ind L x) i.toNat a' b')) ?_ (by omega) ⟨by omega, hf2, fun a' b' h1 h2 h3 h4 => ?_⟩
    · intro b v130 hle3 ⟨b0, hf3, hz3⟩ hnext3
      apply hX110
      refine ⟨fun hc3 => ⟨by omega, hnext2 hc2 _ ⟨by omega, hf3, fun a' b' h1 h2 h3 h4 => ?_⟩⟩, fun hc3 => ?_⟩
      · rw [hz3 a' b' h1 h2 h3 h4]
        by_cases h : a' < a + 1
        · rw [if_pos h, if_pos (by omega)]
        · rw [if_neg h, if_neg (by omega)]
      have r1 : v130 237 ((24 * a) + i).toNat = fw (ind L x) i.toNat a i := by
        rw [hz3 a i a0 hc2 i0 hc]
        have := fw_col (L := ind L x) i.toNat a
        rw [em] at this
        split
        · exact this
        · rfl
      have r2 : v130 237 ((24 * i) + b).toNat = fw (ind L x) i.toNat i b := by
        rw [hz3 i b i0 hc b0 hc3]
        have := fw_row (L := ind L x) i.toNat b
        rw [em] at this
        split
        · exact this
        · rfl
      have r3 : v130 237 ((24 * a) + b).toNat = fw (ind L x) i.toNat a b := by
        rw [hz3 a b a0 hc2 b0 hc3, if_neg (by omega)]
      have hb1 := fw_r (L := ind L x) i.toNat a i
      have hb2 := fw_r (L := ind L x) i.toNat i b
      have em1 : fw (ind L x) (i.toNat + 1) a b = min (fw (ind L x) i.toNat a b) (fw (ind L x) i.toNat a i + fw (ind L x) i.toNat i b) := by
        show min _ _ = _
        rw [em]
      rw [r1, r2, r3]
      refine ⟨by omega, by omega, by omega, by omega, by omega, by omega, by omega, fun l6 e6 => ⟨by omega, by omega, by omega, fun hc4 => ⟨by omega, hnext3 hc3 _ ⟨by omega, hf3, fun a' b' h1 h2 h3 h4 => ?_⟩⟩, fun hc4 => ⟨by omega, by omega, by omega, fun v177 e177 => ⟨by omega, hnext3 hc3 _ ⟨by omega, fun a' ha => ?_, fun a' b' h1 h2 h3 h4 => ?_⟩⟩⟩⟩⟩
      · rw [hz3 a' b' h1 h2 h3 h4]
        by_cases e : a' = a ∧ b' = b
        · obtain ⟨rfl, rfl⟩ := e
          rw [if_neg (by omega), if_pos (by omega), em1]; omega
        · by_cases h : a' < a ∨ (a' = a ∧ b' < b)
          · rw [if_pos h, if_pos (by omega)]
          · rw [if_neg h, if_neg (by omega)]
      · rw [e177, upd2_off _ _ _ ha]; exact hf3 a' ha
      · rw [e177, far7_at _ _ a0 (by omega) h1 (by omega)]
        by_cases e : a' = a ∧ b' = b
        · rw [if_pos e]
          obtain ⟨rfl, rfl⟩ := e
          rw [if_pos (by omega), em1]; omega
        · rw [if_neg e, hz3 a' b' h1 h2 h3 h4]
          by_cases h : a' < a ∨ (a' = a ∧ b' < b)
          · rw [if_pos h, if_pos (by omega)]
          · rw [if_neg h, if_neg (by omega)]
    · rw [hz2 a' b' h1 h2 h3 h4]
      by_cases h : a' < a
      · rw [if_pos h, if_pos (by omega)]
      · rw [if_neg h, if_neg (by omega)]
  refine up2 (X := X9) n (fun i v9 => 0 ≤ i ∧ (∀ a, a ≠ 237 → v9 a = v a) ∧ (∀ a b : Int, 0 ≤ a → a < i → 0 ≤ b → b < n → v9 237 ((24 * a) + b).toNat = fw (ind L x) 0 a b)) ?_ (by omega) ⟨by omega, fun a _ => rfl, fun a b a0 a1 => by omega⟩
  intro i v9 hle ⟨i0, hf1, hz1⟩ hnext
  apply hX9
  refine ⟨fun hc => s1 v9 hf1 (fun a b a0 a1 => hz1 a b a0 (by omega)), fun hc => ?_⟩
  intro X17 hX17
  refine up2 (X := X17) n (fun j v17 => 0 ≤ j ∧ (∀ a, a ≠ 237 → v17 a = v a) ∧ (∀ a b : Int, 0 ≤ a → (a < i ∨ (a = i ∧ b < j)) → 0 ≤ b → b < n → v17 237 ((24 * a) + b).toNat = fw (ind L x) 0 a b)) ?_ (by omega) ⟨by omega, hf1, fun a b a0 a1 b0 b1 => hz1 a b a0 (by omega) b0 b1⟩
  intro j v17 hle2 ⟨j0, hf2, hz2⟩ hnext2
  apply hX17
  have put : ∀ y : Int, y = fw (ind L x) 0 i j → j < n → ∀ v78 : VT, v78 = upd2 v17 237 ((24 * i) + j).toNat y → X17 (j + 1) v78 := by
    intro y hy hc2 v78 e78
    refine hnext2 hc2 _ ⟨by omega, fun a ha => by rw [e78, upd2_off _ _ _ ha]; exact hf2 a ha, fun a b a0 a1 b0 b1 => ?_⟩
    rw [e78, far7_at _ _ i0 (by omega) a0 (by omega)]
    by_cases e : a = i ∧ b = j
    · rw [if_pos e, hy, e.1, e.2]
    · rw [if_neg e]; exact hz2 a b a0 (by omega) b0 b1
  refine ⟨fun hc2 => ⟨by omega, hnext hc _ ⟨by omega, hf2, fun a b a0 a1 b0 b1 => hz2 a b a0 (by omega) b0 b1⟩⟩, fun hc2 => ⟨by omega, by omega, fun hne => S_farOf hn (frf hf2) ⟨i0, hc⟩ ⟨j0, hc2⟩ ?_, fun he => ⟨by omega, fun v78 e78 => ⟨by omega, put 0 ?_ hc2 v78 e78⟩⟩⟩⟩
  · have c1 := hcn i j i0 hc j0 hc2
    have f0 := (f9_r w hn (a := i) (b := j) ⟨i0, hc⟩).2.2.2 c1
    rw [f0]
    have hno : ¬ adj (ind L x) i j → fw (ind L x) 0 i j = 99 := fun h => by
      unfold fw; rw [if_neg hne, if_neg h]
    refine ⟨fun h => ⟨by omega, fun v78 e78 => ⟨by omega, put 99 (hno (fun g => h ((dd_one w).mpr (ind_adj.mp g).1))).symm hc2 v78 e78⟩⟩, fun h => ?_⟩
    refine S_isOf ⟨i0, by omega⟩ (fun hif => ⟨fun _ => ⟨by omega, fun v78 e78 => ⟨by omega, put 99 (hno (fun g => ?_)).symm hc2 v78 e78⟩⟩, fun h => absurd rfl h⟩) (fun hit => ⟨fun h => absurd h (by decide), fun _ => S_isOf ⟨j0, by omega⟩ (fun hjf => ⟨fun _ => ⟨by omega, fun v78 e78 => ⟨by omega, put 99 (hno (fun g => ?_)).symm hc2 v78 e78⟩⟩, fun h => absurd rfl h⟩) (fun hjt => ⟨fun h => absurd h (by decide), fun _ => ⟨by omega, fun v78 e78 => ⟨by omega, put 1 ?_ hc2 v78 e78⟩⟩⟩)⟩)
    · have := (ind_adj.mp g).2.1; rw [hif] at this; exact absurd this (by decide)
    · have := (ind_adj.mp g).2.2; rw [hjf] at this; exact absurd this (by decide)
    · unfold fw; rw [if_neg hne, if_pos (ind_adj.mpr ⟨(dd_one w).mp h, hit, hjt⟩)]
  · unfold fw; rw [if_pos he]
noncomputable def sp_set (n : Int) (L : List Ln) (x y : Int) : Int := @ite _ ((0 ≤ y ∧ y ≤ 1) ∧ isS n L x) (Classical.propDecidable _) (if y = 0 then @ite _ (isT n L x) (Classical.propDecidable _) 1 0 else if wd n L x = x then 1 else 0) (-1)
theorem SX_set {x y : Int} (w : wfL n L) (hn : 0 ≤ n ∧ n ≤ 24) (hx : r32 x) (h : XC v n L) (hq : ∀ v', XF v v' → XC v' n L → q (sp_set n L x y) v') : P_X10_set x y v q := by
  unfold P_X10_set
  have no : ∀ v', XF v v' → XC v' n L → ¬ ((0 ≤ y ∧ y ≤ 1) ∧ isS n L x) → q (-1) v' := fun v' f c hc => by
    have := hq v' f c
    unfold sp_set at this; rwa [if_neg hc] at this
  refine ⟨fun h1 => no v (XF_rf v) h (by omega), fun h1 => ⟨fun h2 => no v (XF_rf v) h (by omega), fun h2 => S_isSet w hn h (fun v' f c => ⟨fun hs => ⟨fun h => absurd rfl h, fun _ => no v' f c (fun g => hs g.2)⟩, fun b hs => ⟨fun _ => ?_, fun h => absurd h (by decide)⟩⟩)⟩⟩
  have hok : okS n x := ⟨hx, isS_tb hn hs.2.2⟩
  refine ⟨fun h3 => S_widen w hn hx b (fun v2 b2 => ?_), fun h3 => ?_⟩
  · have this := hq v2 b2.1 b2.2.1
    unfold sp_set at this; rw [if_pos ⟨⟨h1, h2⟩, hs⟩, if_neg h3] at this
    exact ⟨fun g => by rwa [if_neg g] at this, fun g => by rwa [if_pos g] at this⟩
  · have this := hq v' f c
    unfold sp_set at this; rw [if_pos ⟨⟨h1, h2⟩, hs⟩, if_pos h3] at this
    exact S_isTrue w hn hs.2.1 hok b.2.2.2.1 (fun g => ⟨fun _ => by rwa [if_neg g] at this, fun h => absurd rfl h⟩) (fun g => ⟨fun h => absurd h (by decide), fun _ => by rwa [if_pos g] at this⟩)
theorem SM_set {x y : Int} (w : wfL n L) (hn : 0 ≤ n ∧ n ≤ 24) (hx : r32 x) (h : MC v n L) (hq : ∀ v', MF v v' → MC v' n L → q (sp_set n L x y) v') : P_X11_set x y v q := by
  unfold P_X11_set
  have no : ∀ v', MF v v' → MC v' n L → ¬ ((0 ≤ y ∧ y ≤ 1) ∧ isS n L x) → q (-1) v' := fun v' f c hc => by
    have := hq v' f c
    unfold sp_set at this; rwa [if_neg hc] at this
  refine S_isSetM w hn hx h (fun v' f c => ⟨fun hs => ⟨fun _ => no v' f c (fun g => hs g.2), fun h => absurd rfl h⟩, fun l hs => ⟨fun h => absurd h (by decide), fun _ => S_isIn (fun hc => ⟨fun h => absurd rfl h, fun _ => no v' f c (fun g => hc g.1)⟩) (fun hy => ⟨fun _ => ?_, fun h => absurd h (by decide)⟩)⟩⟩)
  have hok : okS n x := ⟨hx, isS_tb hn hs.2.2⟩
  refine ⟨fun h3 => S_spread_ w hn hx c.1 l.1 ?_, fun h3 => ?_⟩
  · have this := hq v' f c
    unfold sp_set at this; rw [if_pos ⟨hy, hs⟩, if_neg h3] at this
    exact ⟨fun g => S_flag (fun _ => by rwa [if_neg g] at this) (fun h => absurd rfl h), fun g => S_flag (fun h => absurd h (by decide)) (fun _ => by rwa [if_pos g] at this)⟩
  · have fr : ∀ v2 : VT, (∀ a, a ≠ 237 → v2 a = v' a) → q (sp_set n L x y) v2 := fun v2 f2 => hq v2 (MF_trans f ⟨fun a ha => f2 a (by omega), fun j _ _ _ => by rw [f2 218 (by omega)]⟩) (MC_frame c (f2 222 (by omega)) (fun a ha => f2 a (by omega)) (fun j _ => by rw [f2 218 (by omega)]))
    unfold sp_set at fr
    rw [if_pos ⟨hy, hs⟩, if_pos h3] at fr
    exact S_isTrueM w hn hs.2.1 hok c.1 l.1 (fun v2 f2 g => S_flag (fun _ => by have := fr v2 f2; rwa [if_neg g] at this) (fun h => absurd rfl h)) (fun v2 f2 g => S_flag (fun h => absurd h (by decide)) (fun _ => by have := fr v2 f2; rwa [if_pos g] at this))
end Q10

/-! ===== median, medians, sets, gate ===== -/
def mB (v0 v : VT) (n : Int) (L : List Ln) : Prop := XF v0 v ∧ XC v n L ∧ v 138 0 = 1 ∧ mt v n L ∧ md v n L
section Q6
variable {n : Int} {L : List Ln} {v : VT} {q : Int → VT → Prop}
theorem S_amB {v0 : VT} {a b : Int} {q : Int → VT → Prop} (w : wfL n L) (hn : 0 ≤ n ∧ n ≤ 24) (h : mB v0 v n L) (ha : 0 ≤ a ∧ a < n) (hb : 0 ≤ b ∧ b < n) (hq : ∀ v', mB v0 v' n L → q (am n L a b) v') : P_X2_amid a b v q :=
  S_amid w hn h.2.1 h.2.2.1 h.2.2.2.1 h.2.2.2.2 ha hb (fun v' f j c k0 m d _ => hq v' ⟨fun x hx => by rw [f x (by omega)]; exact h.1 x hx, c, k0, m, d⟩)
theorem S_measB {q : VT → Prop} (w : wfL n L) (hn : 0 ≤ n ∧ n ≤ 24) (h : XC v n L) (hq : ∀ v', mB v v' n L → q v') : P_X10_measured v q :=
  S_measured w hn h (fun v' f c k0 m d => hq v' ⟨f, c, k0, m, d⟩)
noncomputable def mdn (n : Int) (L : List Ln) (a b c : Int) : Int := i_and (i_and (am n L a b) (am n L b c)) (am n L a c)
theorem mdn_small (hn : n ≤ 24) (a b c : Int) : 0 ≤ mdn n L a b c ∧ mdn n L a b c < 16777216 := by
  unfold mdn am
  rw [bs_and (by omega), bs_and (by omega)]
  exact bs_small hn _
noncomputable def sp_median (n : Int) (L : List Ln) (a b c : Int) : Int := if ((0 ≤ a ∧ a < n) ∧ (0 ≤ b ∧ b < n)) ∧ (0 ≤ c ∧ c < n) then mdn n L a b c else -1
theorem SX_median {a b c : Int} (w : wfL n L) (hn : 0 ≤ n ∧ n ≤ 24) (h : XC v n L) (hq : ∀ v', XF v v' → XC v' n L → q (sp_median n L a b c) v') : P_X10_median a b c v q := by
  unfold P_X10_median
  have no : ¬ (((0 ≤ a ∧ a < n) ∧ (0 ≤ b ∧ b < n)) ∧ (0 ≤ c ∧ c < n)) → q (-1) v := fun hc => by
    have := hq v (XF_rf v) h
    unfold sp_median at this; rwa [if_neg hc] at this
  refine S_areNodes h.1 (fun hc => ⟨fun _ => no (fun g => hc g.1), fun h => absurd rfl h⟩) (fun ha hb => ⟨fun h => absurd h (by decide), fun _ => ?_⟩)
  refine S_isNode h.1 (fun hc => ⟨fun h => absurd rfl h, fun _ => no (fun g => hc g.2)⟩) (fun hc => ⟨fun _ => ?_, fun h => absurd h (by decide)⟩)
  refine S_measB w hn h (fun v1 b1 => S_amB w hn b1 ha hb (fun v2 b2 => S_amB w hn b2 hb hc (fun v3 b3 => S_amB w hn b3 ha hc (fun v4 b4 => ?_))))
  have := hq v4 b4.1 b4.2.1
  unfold sp_median at this; rwa [if_pos ⟨⟨ha, hb⟩, hc⟩] at this
theorem S_medianOf {a b c : Int} {q : Int → Prop} (w : wfL n L) (hn : 0 ≤ n ∧ n ≤ 24) (hg : mG v 222 n L) (hf : frOK v n L) (ha : 0 ≤ a ∧ a < n) (hb : 0 ≤ b ∧ b < n) (hc : 0 ≤ c ∧ c < n) (hq : q (mdn n L a b c)) : P_X11_medianOf a b c v q :=
  S_betweenOf w hn hg hf ha hb (S_betweenOf w hn hg hf hb hc (S_betweenOf w hn hg hf ha hc hq))
theorem SM_median {a b c : Int} (w : wfL n L) (hn : 0 ≤ n ∧ n ≤ 24) (h : MC v n L) (hq : ∀ v', MF v v' → MC v' n L → q (sp_median n L a b c) v') : P_X11_median a b c v q := by
  unfold P_X11_median
  refine S_areNodesM w hn h (fun v' f c' l => ?_)
  have no : ¬ (((0 ≤ a ∧ a < n) ∧ (0 ≤ b ∧ b < n)) ∧ (0 ≤ c ∧ c < n)) → q (-1) v' := fun hc => by
    have := hq v' f c'
    unfold sp_median at this; rwa [if_neg hc] at this
  refine ⟨fun hc => ⟨fun _ => no (fun g => hc g.1), fun h => absurd rfl h⟩, fun ha hb => ⟨fun h => absurd h (by decide), fun _ => ?_⟩⟩
  refine S_isNodeM hn c'.1 (fun hc => ⟨fun _ => no (fun g => hc g.2), fun h => absurd rfl h⟩) (fun hc => ⟨fun h => absurd h (by decide), fun _ => ?_⟩)
  refine S_medianOf w hn c'.1 l.1 ha hb hc ?_
  have := hq v' f c'
  unfold sp_median at this; rwa [if_pos ⟨⟨ha, hb⟩, hc⟩] at this
/-! medians -/
def lt3 (a b c i j k : Int) : Prop := a < i ∨ (a = i ∧ (b < j ∨ (b = j ∧ c < k)))
def g3 (n : Int) (L : List Ln) (i j k : Int) : Prop := ∀ a b c : Int, 0 ≤ a → a < b → b < c → c < n → lt3 a b c i j k → pc (mdn n L a b c) = 1
def R3 (n : Int) (L : List Ln) (t : Int × Int × Int) : Prop := (t.1 = -1 ∧ g3 n L n n n) ∨ (0 ≤ t.1 ∧ t.1 < t.2.1 ∧ t.2.1 < t.2.2 ∧ t.2.2 < n ∧ pc (mdn n L t.1 t.2.1 t.2.2) ≠ 1 ∧ g3 n L t.1 t.2.1 t.2.2)
theorem R3_ex (n : Int) (L : List Ln) : ∃ t : Int × Int × Int, (∃ t', R3 n L t') → R3 n L t := by
  by_cases h : ∃ t', R3 n L t'
  · obtain ⟨t, h⟩ := h; exact ⟨t, fun _ => h⟩
  · exact ⟨(0, 0, 0), fun g => absurd g h⟩
noncomputable def m3 (n : Int) (L : List Ln) : Int × Int × Int := Classical.choose (R3_ex n L)
theorem m3_is {t : Int × Int × Int} (h : R3 n L t) : t.1 = (m3 n L).1 ∧ (t.1 ≠ -1 → t.2.1 = (m3 n L).2.1 ∧ t.2.2 = (m3 n L).2.2) := by
  have h2 : R3 n L (m3 n L) := Classical.choose_spec (R3_ex n L) ⟨t, h⟩
  rcases h with ⟨e, g⟩ | ⟨a1, a2, a3, a4, a5, a6⟩ <;> rcases h2 with ⟨e', g'⟩ | ⟨b1, b2, b3, b4, b5, b6⟩
  · exact ⟨by omega, fun h => absurd e h⟩
  · exact absurd (g _ _ _ b1 b2 b3 b4 (by unfold lt3; omega)) b5
  · exact absurd (g' _ _ _ a1 a2 a3 a4 (by unfold lt3; omega)) a5
  · have h1 : ¬ lt3 t.1 t.2.1 t.2.2 (m3 n L).1 (m3 n L).2.1 (m3 n L).2.2 := fun hl => a5 (b6 _ _ _ a1 a2 a3 a4 hl)
    have h2 : ¬ lt3 (m3 n L).1 (m3 n L).2.1 (m3 n L).2.2 t.1 t.2.1 t.2.2 := fun hl => b5 (a6 _ _ _ b1 b2 b3 b4 hl)
    unfold lt3 at h1 h2
    exact ⟨by omega, fun _ => by omega⟩
noncomputable def sp_medians (n : Int) (L : List Ln) (x : Int) : Int := if 0 ≤ x ∧ x ≤ 3 then (if x = 0 then (if (m3 n L).1 = -1 then 1 else 0) else if (m3 n L).1 = -1 then -1 else if x = 1 then (m3 n L).1 else if x = 2 then (m3 n L).2.1 else (m3 n L).2.2) else -1
theorem pack3 : ∀ a ∈ List.range 24, ∀ b ∈ List.range 24, ∀ c ∈ List.range 24, ¬ i_or (i_or (i_shl (a : Int) 16) (i_shl (b : Int) 8)) (c : Int) = -1 ∧ i_and (i_shr (i_or (i_or (i_shl (a : Int) 16) (i_shl (b : Int) 8)) (c : Int)) 16) 255 = a ∧ i_and (i_shr (i_or (i_or (i_shl (a : Int) 16) (i_shl (b : Int) 8)) (c : Int)) 8) 255 = b ∧ i_and (i_shr (i_or (i_or (i_shl (a : Int) 16) (i_shl (b : Int) 8)) (c : Int)) 0) 255 = c := by decide +kernel
theorem pack3' {a b c : Int} (ha : 0 ≤ a ∧ a < 24) (hb : 0 ≤ b ∧ b < 24) (hc : 0 ≤ c ∧ c < 24) : ¬ i_or (i_or (i_shl a 16) (i_shl b 8)) c = -1 ∧ i_and (i_shr (i_or (i_or (i_shl a 16) (i_shl b 8)) c) 16) 255 = a ∧ i_and (i_shr (i_or (i_or (i_shl a 16) (i_shl b 8)) c) 8) 255 = b ∧ i_and (i_shr (i_or (i_or (i_shl a 16) (i_shl b 8)) c) 0) 255 = c := by
  have := pack3 a.toNat (List.mem_range.mpr (by omega)) b.toNat (List.mem_range.mpr (by omega)) c.toNat (List.mem_range.mpr (by omega))
  rw [Int.toNat_of_nonneg ha.1, Int.toNat_of_nonneg hb.1, Int.toNat_of_nonneg hc.1] at this
  exact this
theorem S_firstWithout {v0 : VT} {q : Int → VT → Prop} (w : wfL n L) (hn : 0 ≤ n ∧ n ≤ 24) (h : mB v0 v n L)
    (h0 : ∀ v', mB v0 v' n L → g3 n L n n n → q (-1) v') (h1 : ∀ a b c v', mB v0 v' n L → 0 ≤ a → a < b → b < c → c < n → pc (mdn n L a b c) ≠ 1 → g3 n L a b c → q (i_or (i_or (i_shl a 16) (i_shl b 8)) c) v') : P_X2_firstWithoutMedian v q := by
  unfold P_X2_firstWithoutMedian
  intro K65 hK65 X2 hX2
  refine up2 (X := X2) n (fun i v2 => 0 ≤ i ∧ mB v0 v2 n L ∧ g3 n L i 0 0) ?_ (by omega) ⟨by omega, h, fun a b c a1 a2 a3 a4 hl => by unfold lt3 at hl; omega⟩
  intro i v2 hle ⟨i0, hb2, hg2⟩ hnext
  apply hX2
  rw [hb2.2.2.2.1.1]
  refine ⟨fun hc => h0 v2 hb2 (fun a b c a1 a2 a3 a4 hl => hg2 a b c a1 a2 a3 a4 (by unfold lt3 at *; omega)), fun hc => ⟨by omega, ?_⟩⟩
  intro X14 hX14
  refine up2 (X := X14) n (fun j v14 => i + 1 ≤ j ∧ mB v0 v14 n L ∧ g3 n L i j 0) ?_ (by omega) ⟨by omega, hb2, fun a b c a1 a2 a3 a4 hl => hg2 a b c a1 a2 a3 a4 (by unfold lt3 at *; omega)⟩
  intro j v14 hle2 ⟨j0, hb14, hg14⟩ hnext2
  apply hX14
  rw [hb14.2.2.2.1.1]
  refine ⟨fun hc2 => ⟨by omega, hnext hc _ ⟨by omega, hb14, fun a b c a1 a2 a3 a4 hl => hg14 a b c a1 a2 a3 a4 (by unfold lt3 at *; omega)⟩⟩, fun hc2 => ⟨by omega, ?_⟩⟩
  intro X26 hX26
  refine up2 (X := X26) n (fun k v26 => j + 1 ≤ k ∧ mB v0 v26 n L ∧ g3 n L i j k) ?_ (by omega) ⟨by omega, hb14, fun a b c a1 a2 a3 a4 hl => hg14 a b c a1 a2 a3 a4 (by unfold lt3 at *; omega)⟩
  intro k v26 hle3 ⟨k0, hb26, hg26⟩ hnext3
  apply hX26
  rw [hb26.2.2.2.1.1]
  refine ⟨fun hc3 => ⟨by omega, hnext2 hc2 _ ⟨by omega, hb26, fun a b c a1 a2 a3 a4 hl => hg26 a b c a1 a2 a3 a4 (by unfold lt3 at *; omega)⟩⟩, fun hc3 => ?_⟩
  refine S_amB w hn hb26 ⟨i0, hc⟩ ⟨by omega, hc2⟩ (fun v37 b37 => S_amB w hn b37 ⟨by omega, hc2⟩ ⟨by omega, hc3⟩ (fun v43 b43 => S_amB w hn b43 ⟨i0, hc⟩ ⟨by omega, hc3⟩ (fun v50 b50 l4 e4 => ?_)))
  have e4 : l4 = mdn n L i j k := e4
  rw [e4]
  refine S_bitCount (mdn_small hn.2 _ _ _) ⟨fun h => ⟨by omega, hnext3 hc3 _ ⟨by omega, b50, fun a b c a1 a2 a3 a4 hl => ?_⟩⟩, fun h => hK65 _ _ _ _ (h1 i j k v50 b50 i0 (by omega) (by omega) hc3 h hg26)⟩
  by_cases e : a = i ∧ b = j ∧ c = k
  · rw [e.1, e.2.1, e.2.2]; exact h
  · exact hg26 a b c a1 a2 a3 a4 (by unfold lt3 at *; omega)
theorem SX_medians {x : Int} (w : wfL n L) (hn : 0 ≤ n ∧ n ≤ 24) (h : XC v n L) (hq : ∀ v', XF v v' → XC v' n L → q (sp_medians n L x) v') : P_X10_medians x v q := by
  unfold P_X10_medians
  have no : ¬ (0 ≤ x ∧ x ≤ 3) → q (-1) v := fun hc => by
    have := hq v (XF_rf v) h
    unfold sp_medians at this; rwa [if_neg hc] at this
  refine ⟨fun h1 => no (by omega), fun h1 => ⟨fun h2 => S_measB w hn h (fun v1 b1 => S_firstWithout w hn b1 (fun v2 b2 g2 => ?_) (fun a b c v2 b2 a1 a2 a3 a4 a5 a6 => ?_)), fun h2 => no (by omega)⟩⟩
  · have this := hq v2 b2.1 b2.2.1
    have hm := m3_is (t := (-1, 0, 0)) (Or.inl ⟨rfl, g2⟩)
    unfold sp_medians at this
    rw [if_pos ⟨h1, h2⟩] at this
    refine ⟨fun g => ⟨fun g2 => absurd rfl g2, fun _ => ?_⟩, fun g => ⟨fun g2 => absurd rfl g2, fun _ => ?_⟩⟩
    · rwa [if_neg g, if_pos hm.1.symm] at this
    · rwa [if_pos g, if_pos hm.1.symm] at this
  · have this := hq v2 b2.1 b2.2.1
    have hm := m3_is (t := (a, b, c)) (Or.inr ⟨a1, a2, a3, a4, a5, a6⟩)
    have hne : ¬ (m3 n L).1 = -1 := by rw [← hm.1]; show ¬ a = -1; omega
    have hm2 := hm.2 (by show a ≠ -1; omega)
    have m1 : a = (m3 n L).1 := hm.1
    have m2 : b = (m3 n L).2.1 := hm2.1
    have m3' : c = (m3 n L).2.2 := hm2.2
    obtain ⟨p0, p1, p2, p3⟩ := pack3' (a := a) (b := b) (c := c) ⟨a1, by omega⟩ ⟨by omega, by omega⟩ ⟨by omega, by omega⟩
    unfold sp_medians at this
    rw [if_pos ⟨h1, h2⟩] at this
    refine ⟨fun g => ⟨fun _ => ⟨by omega, by omega, ?_⟩, fun g2 => absurd g2 p0⟩, fun g => ⟨fun _ => ?_, fun g2 => absurd g2 p0⟩⟩
    · rw [if_neg g, if_neg hne] at this
      by_cases e1 : x = 1
      · rw [if_pos e1] at this; rw [e1, show (8 * (3 - 1) : Int) = 16 by decide, p1, m1]; exact this
      · by_cases e2 : x = 2
        · rw [if_neg e1, if_pos e2] at this; rw [e2, show (8 * (3 - 2) : Int) = 8 by decide, p2, m2]; exact this
        · rw [if_neg e1, if_neg e2] at this; rw [show x = 3 by omega, show (8 * (3 - 3) : Int) = 0 by decide, p3, m3']; exact this
    · rwa [if_pos g, if_neg hne] at this
theorem SM_medians {x : Int} (w : wfL n L) (hn : 0 ≤ n ∧ n ≤ 24) (h : MC v n L) (hq : ∀ v', MF v v' → MC v' n L → q (sp_medians n L x) v') : P_X11_medians x v q := by
  unfold P_X11_medians
  refine S_isIn (fun hc => ⟨fun h => absurd rfl h, fun _ => ?_⟩) (fun hx => ⟨fun _ => ?_, fun h => absurd h (by decide)⟩)
  · have := hq v (MF_rf v) h
    unfold sp_medians at this; rwa [if_neg hc] at this
  refine S_lays w hn h (fun v' f c' l => ?_)
  have this := hq v' f c'
  unfold sp_medians at this
  rw [if_pos hx] at this
  rw [c'.1.1]
  intro K71 hK71 X27 hX27
  refine up1 (X := X27) n (fun i => 0 ≤ i ∧ g3 n L i 0 0) ?_ (by omega) ⟨by omega, fun a b c a1 a2 a3 a4 hl => by unfold lt3 at hl; omega⟩
  intro i hle ⟨i0, hg2⟩ hnext
  apply hX27
  refine ⟨fun hc => ?_, fun hc => ⟨by omega, ?_⟩⟩
  · have hm := m3_is (t := (-1, 0, 0)) (Or.inl ⟨rfl, fun a b c a1 a2 a3 a4 hl => hg2 a b c a1 a2 a3 a4 (by unfold lt3 at *; omega)⟩)
    refine ⟨fun g => ?_, fun g => ?_⟩
    · rwa [if_neg g, if_pos hm.1.symm] at this
    · rwa [if_pos g, if_pos hm.1.symm] at this
  intro X37 hX37
  refine up1 (X := X37) n (fun j => i + 1 ≤ j ∧ g3 n L i j 0) ?_ (by omega) ⟨by omega, fun a b c a1 a2 a3 a4 hl => hg2 a b c a1 a2 a3 a4 (by unfold lt3 at *; omega)⟩
  intro j hle2 ⟨j0, hg14⟩ hnext2
  apply hX37
  refine ⟨fun hc2 => ⟨by omega, hnext hc ⟨by omega, fun a b c a1 a2 a3 a4 hl => hg14 a b c a1 a2 a3 a4 (by unfold lt3 at *; omega)⟩⟩, fun hc2 => ⟨by omega, ?_⟩⟩
  intro X49 hX49
  refine up1 (X := X49) n (fun k => j + 1 ≤ k ∧ g3 n L i j k) ?_ (by omega) ⟨by omega, fun a b c a1 a2 a3 a4 hl => hg14 a b c a1 a2 a3 a4 (by unfold lt3 at *; omega)⟩
  intro k hle3 ⟨k0, hg26⟩ hnext3
  apply hX49
  refine ⟨fun hc3 => ⟨by omega, hnext2 hc2 ⟨by omega, fun a b c a1 a2 a3 a4 hl => hg26 a b c a1 a2 a3 a4 (by unfold lt3 at *; omega)⟩⟩, fun hc3 => ?_⟩
  refine S_medianOf w hn c'.1 l.1 ⟨i0, hc⟩ ⟨by omega, hc2⟩ ⟨by omega, hc3⟩ (S_count ⟨fun h => ⟨by omega, hnext3 hc3 ⟨by omega, fun a b c a1 a2 a3 a4 hl => ?_⟩⟩, fun h => hK71 _ _ _ ?_⟩)
  · by_cases e : a = i ∧ b = j ∧ c = k
    · rw [e.1, e.2.1, e.2.2]; exact h
    · exact hg26 a b c a1 a2 a3 a4 (by unfold lt3 at *; omega)
  · have hm := m3_is (t := (i, j, k)) (Or.inr ⟨i0, by show i < j; omega, by show j < k; omega, hc3, h, hg26⟩)
    have hne : ¬ (m3 n L).1 = -1 := by rw [← hm.1]; show ¬ i = -1; omega
    have hm2 := hm.2 (by show i ≠ -1; omega)
    have m1 : i = (m3 n L).1 := hm.1
    have m2 : j = (m3 n L).2.1 := hm2.1
    have m3' : k = (m3 n L).2.2 := hm2.2
    refine ⟨fun g => ⟨fun g1 => ⟨fun g2 => ?_, fun g2 => ?_⟩, fun g1 => ?_⟩, fun g => ?_⟩
    · rw [if_neg g, if_neg hne, if_neg g1, if_neg g2] at this; rwa [m3']
    · rw [if_neg g, if_neg hne, if_neg g1, if_pos g2] at this; rwa [m2]
    · rw [if_neg g, if_neg hne, if_pos g1] at this; rwa [m1]
    · rwa [if_pos g, if_neg hne] at this
end Q6

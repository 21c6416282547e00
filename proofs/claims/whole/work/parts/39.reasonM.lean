/-! ===== the reference: why a network doesn't sit in a cube ===== -/
def mF (v v' : VT) : Prop := (∀ a, a ≠ 218 → a ≠ 226 → v' a = v a) ∧ ∀ j, j ≠ 19 → v' 218 j = v 218 j
theorem mF_rf (v : VT) : mF v v := ⟨fun _ _ _ => rfl, fun _ _ => rfl⟩
theorem mF_trans {v v' v'' : VT} (h1 : mF v v') (h2 : mF v' v'') : mF v v'' := ⟨fun a ha hb => by rw [h2.1 a ha hb]; exact h1.1 a ha hb, fun j a1 => by rw [h2.2 j a1]; exact h1.2 j a1⟩
theorem S_isWhy {x1 x2 x3 : Int} {v : VT} {q : VT → Prop} (h0 : v 218 19 = 0 → ∀ v', mF v v' → v' 218 19 = x1 → v' 226 0 = x2 → v' 226 1 = x3 → q v') (h1 : ¬ v 218 19 = 0 → q v) : P_X11_isWhy x1 x2 x3 v q := by
  unfold P_X11_isWhy
  refine ⟨fun hc v10 e10 v19 e19 v26 e26 => h0 hc v26 ⟨fun a ha hb => ?_, fun j hj => ?_⟩ ?_ ?_ ?_, h1⟩
  · rw [e26, upd2_off _ _ _ hb, e19, upd2_off _ _ _ hb, e10, upd2_off _ _ _ ha]
  · rw [e26, upd2_off _ _ _ (by omega), e19, upd2_off _ _ _ (by omega), e10, upd2_j, if_neg hj]
  · rw [e26, upd2_off _ _ _ (by omega), e19, upd2_off _ _ _ (by omega), e10, upd2_same]
  · rw [e26, upd2_j, if_neg (by decide), e19, upd2_same]
  · rw [e26, upd2_same]
theorem srch_keep {A E : Int} {S : Int → Int} {p : Int → Int → Prop} {why a b r x y : Int} (h : srch A E S p why a b r x y) (hr : r ≠ 0) (a9 b9 : Int) : srch A E S p why a9 b9 r x y := by
  rcases h with ⟨h1, -⟩ | h
  · exact absurd h1 hr
  · exact Or.inr h
theorem f9_eq {n : Int} {L : List Ln} (w : wfL n L) (hn : 0 ≤ n ∧ n ≤ 24) {a b c d : Int} (ha : 0 ≤ a ∧ a < n) (hc : 0 ≤ c ∧ c < n) : f9 L a b = f9 L c d ↔ dd L a b = dd L c d := by
  have h1 := f9_r w hn (a := a) (b := b) ha
  have h2 := f9_r w hn (a := c) (b := d) hc
  have h3 := dd_ge (L := L) (a := a) (b := b)
  have h4 := dd_ge (L := L) (a := c) (b := d)
  have h5 := dd_lt w ha (b := b)
  have h6 := dd_lt w hc (b := d)
  by_cases c1 : 0 ≤ dd L a b
  · have := h1.2.2.2 c1
    by_cases c2 : 0 ≤ dd L c d
    · have := h2.2.2.2 c2; omega
    · omega
  · by_cases c2 : 0 ≤ dd L c d
    · have := h2.2.2.2 c2; omega
    · omega
theorem S_laysReason {n : Int} {L : List Ln} {v : VT} {q : VT → Prop} (w : wfL n L) (hn : 0 ≤ n ∧ n ≤ 24) (hg : mG v 222 n L) (hfr : frOK v n L) (hk : kOKm v L)
    (hq : ∀ v', mF v v' → rsn n L (v' 218 19) (v' 226 0) (v' 226 1) → q v') : P_X11_laysReason v q := by
  obtain ⟨g0, g1, g2⟩ := id hg
  have hlen := w.2.2
  unfold P_X11_laysReason
  rw [g0, g1]
  intro v16 e16 K69 hK69 X21 hX21
  have z16 : mF v v16 := ⟨fun a ha hb => by rw [e16, upd2_off _ _ _ ha], fun j hj => by rw [e16, upd2_j, if_neg hj]⟩
  have r16 : v16 218 19 = 0 := by rw [e16, upd2_same]
  have tr : ∀ {v' : VT}, mF v v' → mG v' 222 n L ∧ frOK v' n L ∧ v' 225 = v 225 := fun {v'} hz => ⟨mG_frame hg (hz.1 222 (by omega) (by omega)), by unfold frOK; rw [hz.1 224 (by omega) (by omega)]; exact hfr, hz.1 225 (by omega) (by omega)⟩
  have s1 : ∀ v69 : VT, mF v v69 → ((v69 218 19 = 0 ∧ non2 n n (fun a => a + 1) (p1 L)) ∨ (v69 218 19 = 1 ∧ lexf n n (fun a => a + 1) (p1 L) (v69 226 0) (v69 226 1))) → K69 v69 := by
    intro v69 hz hs
    apply hK69
    intro K137 hK137 X71 hX71
    have s2 : ∀ v137 : VT, mF v v137 → ((v137 218 19 = 1 ∧ lexf n n (fun a => a + 1) (p1 L) (v137 226 0) (v137 226 1)) ∨ (non2 n n (fun a => a + 1) (p1 L) ∧ ((v137 218 19 = 0 ∧ non2 L.length n (fun _ => 0) (p2 L)) ∨ (v137 218 19 = 2 ∧ lexf L.length n (fun _ => 0) (p2 L) (v137 226 0) (v137 226 1))))) → K137 v137 := by
      intro v137 hz hs
      apply hK137
      intro X139 hX139
      by_cases hr0 : v137 218 19 = 0
      · have hn1 : non2 n n (fun a => a + 1) (p1 L) := by
          rcases hs with ⟨h1, -⟩ | ⟨h1, -⟩
          · omega
          · exact h1
        have hn2 : non2 L.length n (fun _ => 0) (p2 L) := by
          rcases hs with ⟨h1, -⟩ | ⟨-, ⟨-, h1⟩ | ⟨h1, -⟩⟩
          · omega
          · exact h1
          · omega
        have fin : ∀ v' : VT, mF v v' → ((v' 218 19 = 0 ∧ non2 L.length L.length (fun a => a + 1) (p3 L)) ∨ (v' 218 19 = 3 ∧ lexf L.length L.length (fun a => a + 1) (p3 L) (v' 226 0) (v' 226 1))) → q v' := by
          intro v' hz' h
          rcases h with ⟨c1, c2⟩ | ⟨c1, c2⟩
          · exact hq v' hz' (Or.inr ⟨hn1, Or.inr ⟨hn2, Or.inr ⟨c1, c2⟩⟩⟩)
          · exact hq v' hz' (Or.inr ⟨hn1, Or.inr ⟨hn2, Or.inl ⟨c1, c2⟩⟩⟩)
        refine wh2 (X := X139) (fun i v2 => 0 ≤ i ∧ i ≤ L.length ∧ mF v v2 ∧ srch L.length L.length (fun a => a + 1) (p3 L) 3 i (i + 1) (v2 218 19) (v2 226 0) (v2 226 1)) (fun i _ => (L.length - i).toNat) ?_ ⟨by omega, by omega, hz, by rw [hr0]; exact srch_0⟩
        intro i v2 ⟨i0, i1, hz2, hs2⟩ hnext
        apply hX139
        refine ⟨fun hc => fin v2 hz2 (srch_end hs2 (Or.inl hc)), fun hc => ⟨fun hc2 => fin v2 hz2 (srch_end hs2 (Or.inr hc2)), fun hc2 => ⟨by omega, ?_⟩⟩⟩
        intro X156 hX156
        refine wh2 (X := X156) (fun j v25 => i + 1 ≤ j ∧ j ≤ L.length ∧ mF v v25 ∧ srch L.length L.length (fun a => a + 1) (p3 L) 3 i j (v25 218 19) (v25 226 0) (v25 226 1)) (fun j _ => (L.length - j).toNat) ?_ ⟨by omega, by omega, hz2, hs2⟩
        intro j v25 ⟨j0, j1, hz3, hs3⟩ hnext2
        apply hX156
        refine ⟨fun hc3 => ⟨by omega, hnext (i + 1) v25 ⟨by omega, by omega, hz3, srch_row hs3 (Or.inl hc3)⟩ (by omega)⟩, fun hc3 => ⟨by omega, by omega, ?_⟩⟩
        rw [(tr hz3).2.2, hk.2.1 i i0 hc, hk.2.1 j (by omega) hc3]
        refine ⟨fun hc5 => ⟨by omega, hnext2 (j + 1) v25 ⟨by omega, by omega, hz3, srch_no hs3 (fun h => hc5 h.1)⟩ (by omega)⟩, fun hc5 => ?_⟩
        refine S_areAlikeM w hn (tr hz3).1 (tr hz3).2.1 ⟨i0, hc⟩ ⟨by omega, hc3⟩ (fun hna => ?_) (fun hal => ?_)
        · refine ⟨fun h => absurd rfl h, fun _ => S_isWhy (fun hr v' k1 k2 k3 k4 => ⟨by omega, hnext2 (j + 1) v' ⟨by omega, by omega, mF_trans hz3 k1, ?_⟩ (by omega)⟩) (fun hr => ⟨by omega, hnext2 (j + 1) v25 ⟨by omega, by omega, hz3, srch_keep hs3 hr _ _⟩ (by omega)⟩)⟩
          rw [k2, k3, k4]
          exact srch_yes hs3 hr (by decide) i0 hc (by show i + 1 ≤ j; omega) hc3 ⟨hc5, hna⟩ i (j + 1)
        · exact ⟨fun _ => ⟨by omega, hnext2 (j + 1) v25 ⟨by omega, by omega, hz3, srch_no hs3 (fun h => h.2 hal)⟩ (by omega)⟩, fun h => absurd h (by decide)⟩
      · have fin : q v137 := by
          rcases hs with h | ⟨h1, ⟨h2, -⟩ | h3⟩
          · exact hq v137 hz (Or.inl h)
          · exact absurd h2 hr0
          · exact hq v137 hz (Or.inr ⟨h1, Or.inl h3⟩)
        exact hX139 0 v137 ⟨fun _ => fin, fun _ => ⟨fun _ => fin, fun h => absurd h hr0⟩⟩
    by_cases hr0 : v69 218 19 = 0
    · have hn1 : non2 n n (fun a => a + 1) (p1 L) := by
        rcases hs with ⟨-, h1⟩ | ⟨h1, -⟩
        · exact h1
        · omega
      refine wh2 (X := X71) (fun i v2 => 0 ≤ i ∧ i ≤ L.length ∧ mF v v2 ∧ srch L.length n (fun _ => 0) (p2 L) 2 i 0 (v2 218 19) (v2 226 0) (v2 226 1)) (fun i _ => (L.length - i).toNat) ?_ ⟨by omega, by omega, hz, by rw [hr0]; exact srch_0⟩
      intro i v2 ⟨i0, i1, hz2, hs2⟩ hnext
      apply hX71
      refine ⟨fun hc => s2 v2 hz2 (Or.inr ⟨hn1, srch_end hs2 (Or.inl hc)⟩), fun hc => ⟨fun hc2 => s2 v2 hz2 (Or.inr ⟨hn1, srch_end hs2 (Or.inr hc2)⟩), fun hc2 => ?_⟩⟩
      have hwi := w.1 i i0 hc
      intro X86 hX86
      refine wh2 (X := X86) (fun j v46 => 0 ≤ j ∧ j ≤ n ∧ mF v v46 ∧ srch L.length n (fun _ => 0) (p2 L) 2 i j (v46 218 19) (v46 226 0) (v46 226 1)) (fun j _ => (n - j).toNat) ?_ ⟨by omega, by omega, hz2, hs2⟩
      intro j v46 ⟨j0, j1, hz3, hs3⟩ hnext2
      apply hX86
      refine ⟨fun hc3 => ⟨by omega, hnext (i + 1) v46 ⟨by omega, by omega, hz3, srch_row (S := fun _ => 0) hs3 (Or.inl hc3)⟩ (by omega)⟩, fun hc3 => ?_⟩
      refine S_low w (tr hz3).1 ⟨i0, hc⟩ (S_farOf hn (tr hz3).2.1 ⟨j0, hc3⟩ (by omega) (S_high w (tr hz3).1 ⟨i0, hc⟩ (S_farOf hn (tr hz3).2.1 ⟨j0, hc3⟩ (by omega) ?_)))
      rw [f9_eq w hn ⟨j0, hc3⟩ ⟨j0, hc3⟩, dd_symm (a := j) (b := lo L i), dd_symm (a := j) (b := hi L i)]
      refine ⟨fun hc5 => ⟨by omega, hnext2 (j + 1) v46 ⟨by omega, by omega, hz3, srch_no hs3 hc5⟩ (by omega)⟩, fun hc5 => S_isWhy (fun hr v' k1 k2 k3 k4 => ⟨by omega, hnext2 (j + 1) v' ⟨by omega, by omega, mF_trans hz3 k1, ?_⟩ (by omega)⟩) (fun hr => ⟨by omega, hnext2 (j + 1) v46 ⟨by omega, by omega, hz3, srch_keep hs3 hr _ _⟩ (by omega)⟩)⟩
      rw [k2, k3, k4]
      exact srch_yes hs3 hr (by decide) i0 hc j0 hc3 hc5 i (j + 1)
    · have fin : K137 v69 := by
        rcases hs with ⟨h1, -⟩ | h1
        · exact absurd h1 hr0
        · exact s2 v69 hz (Or.inl h1)
      exact hX71 0 v69 ⟨fun _ => fin, fun _ => ⟨fun _ => fin, fun h => absurd h hr0⟩⟩
  refine wh2 (X := X21) (fun i v2 => 0 ≤ i ∧ i ≤ n ∧ mF v v2 ∧ srch n n (fun a => a + 1) (p1 L) 1 i (i + 1) (v2 218 19) (v2 226 0) (v2 226 1)) (fun i _ => (n - i).toNat) ?_ ⟨by omega, by omega, z16, by rw [r16]; exact srch_0⟩
  intro i v2 ⟨i0, i1, hz, hs⟩ hnext
  apply hX21
  refine ⟨fun hc2 => s1 v2 hz (srch_end hs (Or.inl hc2)), fun hc2 => ⟨by omega, ?_⟩⟩
  intro X31 hX31
  refine wh2 (X := X31) (fun j v21 => i + 1 ≤ j ∧ j ≤ n ∧ mF v v21 ∧ srch n n (fun a => a + 1) (p1 L) 1 i j (v21 218 19) (v21 226 0) (v21 226 1)) (fun j _ => (n - j).toNat) ?_ ⟨by omega, by omega, hz, hs⟩
  intro j v21 ⟨j0, j1, hz3, hs3⟩ hnext2
  apply hX31
  refine ⟨fun hc4 => ⟨by omega, hnext (i + 1) v21 ⟨by omega, by omega, hz3, srch_row hs3 (Or.inl hc4)⟩ (by omega)⟩, fun hc4 => ?_⟩
  refine S_farOf hn (tr hz3).2.1 ⟨i0, hc2⟩ ⟨by omega, hc4⟩ ?_
  have hf := f9_r w hn (a := i) (b := j) ⟨i0, hc2⟩
  have hge := dd_ge (L := L) (a := i) (b := j)
  refine ⟨fun hc5 => ⟨by omega, hnext2 (j + 1) v21 ⟨by omega, by omega, hz3, srch_no hs3 (fun h => by unfold p1 at h; omega)⟩ (by omega)⟩, fun hc5 => S_isWhy (fun hr v' k1 k2 k3 k4 => ⟨by omega, hnext2 (j + 1) v' ⟨by omega, by omega, mF_trans hz3 k1, ?_⟩ (by omega)⟩) (fun hr => ⟨by omega, hnext2 (j + 1) v21 ⟨by omega, by omega, hz3, srch_keep hs3 hr _ _⟩ (by omega)⟩)⟩
  rw [k2, k3, k4]
  exact srch_yes hs3 hr (by decide) i0 hc2 (by show i + 1 ≤ j; omega) hc4 (by unfold p1; omega) i (j + 1)
/-! ===== sides ===== -/
/-- the least line of class d -/
theorem lr_ex (L : List Ln) (d : Int) : ∃ r : Int, 0 ≤ d → d < nr L.length (RA L) L.length → 0 ≤ r ∧ r < L.length ∧ rt L.length (RA L) r = r ∧ nr L.length (RA L) r = d := by
  by_cases h : 0 ≤ d ∧ d < nr L.length (RA L) L.length
  · obtain ⟨r, h1, h2, h3, h4⟩ := nr_find (m := L.length) (R := RA L) L.length d h.1 h.2
    exact ⟨r, fun _ _ => ⟨h1, h2, h3, h4⟩⟩
  · exact ⟨0, fun h1 h2 => absurd ⟨h1, h2⟩ h⟩
noncomputable def lr (L : List Ln) (d : Int) : Int := Classical.choose (lr_ex L d)
theorem lr_spec {L : List Ln} {d : Int} (h : 0 ≤ d ∧ d < nr L.length (RA L) L.length) : 0 ≤ lr L d ∧ lr L d < L.length ∧ rt L.length (RA L) (lr L d) = lr L d ∧ nr L.length (RA L) (lr L d) = d := Classical.choose_spec (lr_ex L d) h.1 h.2
/-- node c is of side 1 in direction d -/
def hs (L : List Ln) (d c : Int) : Prop := dd L (hi L (lr L d)) c < dd L (lo L (lr L d)) c
noncomputable def sd (L : List Ln) (D c : Int) : Int := bsf (fun d => @decide (hs L (d : Int) c) (Classical.propDecidable _)) D.toNat
theorem sd_0 (L : List Ln) (c : Int) : sd L 0 c = 0 := rfl
theorem sd_yes {L : List Ln} {d c : Int} (hd : 0 ≤ d) (h : hs L d c) : sd L (d + 1) c = i_or (sd L d c) (i_shl 1 d) := by
  unfold sd
  rw [show (d + 1).toNat = d.toNat + 1 by omega]
  show (if _ then _ else _) = _
  rw [if_pos (by simp; rw [Int.max_eq_left hd]; exact h), Int.toNat_of_nonneg hd]
theorem sd_no {L : List Ln} {d c : Int} (hd : 0 ≤ d) (h : ¬ hs L d c) : sd L (d + 1) c = sd L d c := by
  unfold sd
  rw [show (d + 1).toNat = d.toNat + 1 by omega]
  show (if _ then _ else _) = _
  rw [if_neg (by simp; rw [Int.max_eq_left hd]; exact h)]
noncomputable def kc (L : List Ln) : Int := nr L.length (RA L) L.length
def sOKm (v : VT) (n : Int) (L : List Ln) : Prop := ∀ c : Int, 0 ≤ c → c < n → (v 218 19 = 0 → v 228 c.toNat = sd L (kc L) c) ∧ (v 218 19 ≠ 0 → v 228 c.toNat = 0)
theorem S_laysSides {n : Int} {L : List Ln} {v : VT} {q : VT → Prop} (w : wfL n L) (hn : 0 ≤ n ∧ n ≤ 24) (hg : mG v 222 n L) (hfr : frOK v n L) (hk : kOKm v L) (hr : rsn n L (v 218 19) (v 226 0) (v 226 1))
    (hq : ∀ v', (∀ a, a ≠ 228 → v' a = v a) → sOKm v' n L → q v') : P_X11_laysSides v q := by
  obtain ⟨g0, g1, g2⟩ := id hg
  have hlen := w.2.2
  unfold P_X11_laysSides
  intro X2 hX2
  refine up2 (X := X2) n (fun i v2 => 0 ≤ i ∧ (∀ a, a ≠ 228 → v2 a = v a) ∧ ∀ c : Int, 0 ≤ c → c < i → (v 218 19 = 0 → v2 228 c.toNat = sd L (kc L) c) ∧ (v 218 19 ≠ 0 → v2 228 c.toNat = 0)) ?_ (by omega) ⟨by omega, fun a _ => rfl, fun c c1 c2 => by omega⟩
  intro i v2 hle ⟨i0, hf, hs'⟩ hnext
  apply hX2
  have e0 : v2 222 0 = n := by rw [hf 222 (by omega)]; exact g0
  rw [e0]
  refine ⟨fun hc => hq v2 hf (fun c c1 c2 => by rw [hf 218 (by omega)]; exact hs' c c1 (by omega)), fun hc => ⟨by omega, fun v18 e18 => ?_⟩⟩
  intro X21 hX21
  have hkc : 0 ≤ kc L := nr_pos
  have hkl : kc L ≤ L.length := nr_le (by omega)
  refine up2 (X := X21) (kc L) (fun d v21 => 0 ≤ d ∧ (∀ a, a ≠ 228 → v21 a = v a) ∧ (∀ c : Int, 0 ≤ c → c < i → v21 228 c.toNat = v2 228 c.toNat) ∧ (v 218 19 = 0 → v21 228 i.toNat = sd L d i) ∧ (v 218 19 ≠ 0 → v21 228 i.toNat = 0)) ?_ hkc ⟨by omega, fun a ha => by rw [e18, upd2_off _ _ _ ha]; exact hf a ha, fun c c1 c2 => by rw [e18, upd2_at _ _ _ i0 c1, if_neg (by omega)], fun _ => by rw [e18, upd2_same, sd_0], fun _ => by rw [e18, upd2_same]⟩
  intro d v21 hle2 ⟨d0, hf2, ho2, hy2, hn2⟩ hnext2
  apply hX21
  have e18' : v21 218 18 = kc L := by rw [hf2 218 (by omega)]; exact hk.1
  have e19 : v21 218 19 = v 218 19 := by rw [hf2 218 (by omega)]
  rw [e18', e19]
  have go : (v 218 19 = 0 → d = kc L) → X2 (i + 1) v21 := fun h => hnext hc v21 ⟨by omega, hf2, fun c c1 c2 => by
    by_cases e : c = i
    · rw [e]; exact ⟨fun hz => by rw [hy2 hz, h hz], hn2⟩
    · rw [ho2 c c1 (by omega)]; exact hs' c c1 (by omega)⟩
  refine ⟨fun hc2 => ⟨by omega, go (fun _ => by omega)⟩, fun hc2 => ⟨fun hc3 => ⟨by omega, go (fun h => absurd h hc3)⟩, fun hc3 => ⟨by omega, ?_⟩⟩⟩
  have hl := lr_spec (L := L) (d := d) ⟨d0, hc2⟩
  have el : v21 227 d.toNat = lr L d := by
    rw [hf2 227 (by omega)]
    have := hk.2.2 (lr L d) hl.1 hl.2.1 hl.2.2.1
    rwa [hl.2.2.2] at this
  rw [el]
  have hwl := w.1 _ hl.1 hl.2.1
  have hg2 : mG v21 222 n L := mG_frame hg (hf2 222 (by omega))
  have hfr2 : frOK v21 n L := by unfold frOK; rw [hf2 224 (by omega)]; exact hfr
  refine S_low w hg2 ⟨hl.1, hl.2.1⟩ (S_farOf hn hfr2 ⟨i0, hc⟩ (by omega) ⟨by omega, S_high w hg2 ⟨hl.1, hl.2.1⟩ (S_farOf hn hfr2 ⟨i0, hc⟩ (by omega) ?_)⟩)
  -- all hang together
  have hcon : ∀ x : Int, 0 ≤ x → x < n → 0 ≤ dd L i x := by
    have h1 : non2 n n (fun a => a + 1) (p1 L) := by
      rcases hr with ⟨h, -⟩ | ⟨h, -⟩
      · omega
      · exact h
    intro x x1 x2
    have hge := dd_ge (L := L) (a := i) (b := x)
    have hge2 := dd_ge (L := L) (a := x) (b := i)
    have hsy := dd_symm (L := L) (a := i) (b := x)
    by_cases e : i = x
    · rw [e, dd_self]; omega
    · by_cases hlt : i < x
      · have := h1 i x i0 (by omega) (by show i + 1 ≤ x; omega) x2
        unfold p1 at this; omega
      · have := h1 x i x1 (by omega) (by show x + 1 ≤ i; omega) hc
        unfold p1 at this; omega
  have a1 := (f9_r w hn (a := i) (b := lo L (lr L d)) ⟨i0, hc⟩).2.2.2 (hcon _ (by omega) (by omega))
  have a2 := (f9_r w hn (a := i) (b := hi L (lr L d)) ⟨i0, hc⟩).2.2.2 (hcon _ (by omega) (by omega))
  rw [a1, a2, dd_symm (a := i) (b := lo L (lr L d)), dd_symm (a := i) (b := hi L (lr L d))]
  refine ⟨fun hc4 => ⟨by omega, hnext2 hc2 _ ⟨by omega, hf2, ho2, fun hz => by rw [hy2 hz, sd_no d0 (fun h => by unfold hs at h; omega)], hn2⟩⟩, fun hc4 => ⟨by omega, by omega, fun v80 e80 => ⟨by omega, hnext2 hc2 _ ⟨by omega, fun a ha => ?_, fun c c1 c2 => ?_, fun hz => ?_, fun hz => absurd hc3 hz⟩⟩⟩⟩
  · rw [e80, upd2_off _ _ _ ha]; exact hf2 a ha
  · rw [e80, upd2_at _ _ _ i0 c1, if_neg (by omega)]; exact ho2 c c1 c2
  · rw [e80, upd2_same, hy2 hz, sd_yes d0 hc4]

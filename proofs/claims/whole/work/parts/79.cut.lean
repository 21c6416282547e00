/-! ===== toll ===== -/
section Toll
variable {v : VT} {t : Int} {A : Net} {T : Vt} {F : Int × Int} {V : Vt} {S : Se} {c : Int} {P : Vt} {R : Nat → Int} {H : Hs}
def setP (L : List Ln) (k p : Int) : List Ln := L.set k.toNat (lo L k, hi L k, p)
theorem setP_at {L : List Ln} {k p : Int} (k0 : 0 ≤ k) (k1 : k < L.length) : lo (setP L k p) = lo L ∧ hi (setP L k p) = hi L ∧ (setP L k p).length = L.length ∧ ∀ j : Int, 0 ≤ j → pr (setP L k p) j = if j = k then p else pr L j := by
  have e : ∀ j : Nat, (setP L k p).getD j (0, 0, 0) = if j = k.toNat then (lo L k, hi L k, p) else L.getD j (0, 0, 0) := by
    intro j
    unfold setP
    rw [List.getD_eq_getElem?_getD, List.getD_eq_getElem?_getD, List.getElem?_set]
    by_cases e : j = k.toNat
    · rw [if_pos e.symm, if_pos e, if_pos (by omega)]; rfl
    · rw [if_neg (fun g => e g.symm), if_neg e]
  refine ⟨?_, ?_, by unfold setP; rw [List.length_set], fun j j0 => ?_⟩
  · funext j
    show ((setP L k p).getD j.toNat (0, 0, 0)).1 = (L.getD j.toNat (0, 0, 0)).1
    rw [e]
    by_cases g : j.toNat = k.toNat
    · rw [if_pos g, g]; rfl
    · rw [if_neg g]
  · funext j
    show ((setP L k p).getD j.toNat (0, 0, 0)).2.1 = (L.getD j.toNat (0, 0, 0)).2.1
    rw [e]
    by_cases g : j.toNat = k.toNat
    · rw [if_pos g, g]; rfl
    · rw [if_neg g]
  · show ((setP L k p).getD j.toNat (0, 0, 0)).2.2 = _
    rw [e]
    by_cases g : j = k
    · rw [if_pos (by rw [g]), if_pos g]
    · rw [if_neg (by omega), if_neg g]; rfl
def ctl (A : Net) (k p : Int) : Prop := (0 ≤ k ∧ k < A.2.1.length) ∧ (1 ≤ p ∧ p ≤ 9) ∧ pr A.2.1 k ≠ p
def netP (A : Net) (k p : Int) : Net := (A.1, setP A.2.1 k p, A.2.2)
theorem okNet_P {k p : Int} (hA : okNet A) (h : ctl A k p) : okNet (netP A k p) := by
  obtain ⟨e1, e2, e3, e4⟩ := setP_at (p := p) h.1.1 h.1.2
  refine ⟨hA.1, ⟨fun j j0 j1 => ?_, fun i j i0 i1 j0 j1 => ?_, ?_⟩, hA.2.2⟩
  · show 0 ≤ lo (setP A.2.1 k p) j ∧ lo (setP A.2.1 k p) j < hi (setP A.2.1 k p) j ∧ hi (setP A.2.1 k p) j < A.1 ∧ 1 ≤ pr (setP A.2.1 k p) j ∧ pr (setP A.2.1 k p) j ≤ 9
    have j1' : j < ((setP A.2.1 k p).length : Int) := j1
    rw [e3] at j1'
    have := hA.2.1.1 j j0 j1'
    have hp := h.2.1
    rw [e1, e2, e4 j j0]
    split <;> omega
  · show lo (setP A.2.1 k p) i = lo (setP A.2.1 k p) j → hi (setP A.2.1 k p) i = hi (setP A.2.1 k p) j → i = j
    have i1' : i < ((setP A.2.1 k p).length : Int) := i1
    have j1' : j < ((setP A.2.1 k p).length : Int) := j1
    rw [e3] at i1' j1'
    rw [e1, e2]
    exact hA.2.1.2.1 i j i0 i1' j0 j1'
  · show (setP A.2.1 k p).length ≤ 60
    rw [e3]; exact hA.2.1.2.2
theorem shp_P {L : List Ln} {k p : Int} (k0 : 0 ≤ k) (k1 : k < L.length) : shp L (setP L k p) := by
  obtain ⟨e1, e2, e3, -⟩ := setP_at (p := p) k0 k1
  exact ⟨e1.symm, e2.symm, e3.symm⟩
theorem XS_toll {k p : Int} (hc : ctl A k p) (hA : okNet A) (hT : okT t V S c P R H) (hX : IX v A T F V S c P R H) : P_X10_toll k p v (fun r v1 => r = 1 ∧ IX v1 (netP A k p) T F V S c P R (push H A)) := by
  have hlen := hA.2.1.2.2
  have hk := hc.1
  have hp := hc.2.1
  have e14 : v 14 k.toNat = pr A.2.1 k := (hX.1.1.2.2 k hk.1 hk.2).2.2
  unfold P_X10_toll
  rw [e14]
  refine S_isLine hX.1.1 (fun g => absurd hk g) (fun _ => ⟨fun g => absurd g (by decide), fun _ => ⟨fun g => by omega, fun _ => ⟨fun g => by omega, fun _ => ⟨by omega, fun _ => ?_, fun g => absurd g hc.2.2⟩⟩⟩⟩)
  refine X_keep hA hT hX (fun v1 x1 _ => ⟨by omega, fun v61 e61 => ⟨rfl, ?_⟩⟩)
  have f : ∀ a, a ≠ 14 → v61 a = v1 a := fun a ha => by rw [e61]; exact upd2_off _ _ _ ha
  obtain ⟨s1, s2, s3, s4⟩ := setP_at (p := p) hk.1 hk.2
  have g61 : xG v61 10 A.1 (setP A.2.1 k p) := ⟨by rw [f 10 (by omega)]; exact x1.1.1.1, by rw [f 10 (by omega), s3]; exact x1.1.1.2.1, fun j j0 j1 => by
    rw [s3] at j1
    have hj := x1.1.1.2.2 j j0 j1
    rw [f 12 (by omega), f 13 (by omega), s1, s2, s4 j j0]
    refine ⟨hj.1, hj.2.1, ?_⟩
    show v61 14 j.toNat = _
    rw [e61, upd2_at _ _ _ hk.1 j0]
    split
    · rfl
    · exact hj.2.2⟩
  refine ⟨XC_shp (shp_P hk.1 hk.2) x1.1 g61 hA.1.2 (fun a ha => f a (by omega)), ?_, OX_fr x1.2.2 (fun a ha => f a (by omega))⟩
  intro i i0 i1
  rw [f 11 (by omega)]; exact x1.2.1 i i0 i1
theorem MS_toll {k p : Int} (hc : ctl A k p) (hA : okNet A) (hT : okT t V S c P R H) (hM : IM v A T F V S c P R H) : P_X11_toll k p v (fun r v1 => r = 1 ∧ IM v1 (netP A k p) T F V S c P R (push H A)) := by
  have hlen := hA.2.1.2.2
  have hk := hc.1
  have hn := hA.1
  unfold P_X11_toll
  refine S_isLineM hA.2.1 hM.1.1 (fun g => absurd hk g) (fun _ => ⟨fun g => absurd g (by decide), fun _ => S_isIn (fun g => absurd hc.2.1 g) (fun _ => ⟨fun g => absurd g (by decide), fun _ => S_priceOf hA.2.1 hM.1.1 hk ⟨fun _ => ?_, fun g => absurd g hc.2.2⟩⟩)⟩)
  refine M_keep hA hT hM (fun v1 m1 _ _ => ⟨by omega, by omega, fun v49 e49 => ⟨rfl, ?_⟩⟩)
  have f : ∀ a, a ≠ 222 → v49 a = v1 a := fun a ha => by rw [e49]; exact upd2_off _ _ _ ha
  have j49 : ∀ j, j ≠ (146 + k).toNat → v49 222 j = v1 222 j := fun j hj => by rw [e49, upd2_j, if_neg hj]
  obtain ⟨s1, s2, s3, s4⟩ := setP_at (p := p) hk.1 hk.2
  have g49 : mG v49 222 A.1 (setP A.2.1 k p) := ⟨by rw [j49 0 (by omega)]; exact m1.1.1.1, by rw [j49 1 (by omega), s3]; exact m1.1.1.2.1, fun j j0 j1 => by
    rw [s3] at j1
    have hj := m1.1.1.2.2 j j0 j1
    rw [j49 _ (by omega), j49 _ (by omega), s1, s2, s4 j j0]
    refine ⟨hj.1, hj.2.1, ?_⟩
    rw [e49, upd2_j]
    by_cases e : j = k
    · rw [if_pos (by omega), if_pos e]
    · rw [if_neg (by omega), if_neg e]; exact hj.2.2⟩
  refine ⟨MC_shp (shp_P hk.1 hk.2) m1.1 g49 (fun a ha => f a (by omega)) (fun j _ => by rw [f 218 (by omega)]), ?_, OM_fr m1.2.2 (fun a ha => f a (by omega)) (fun j _ => by rw [f 218 (by omega)])⟩
  intro i i0 i1
  have i1' : i < A.1 := i1
  rw [j49 _ (by omega)]; exact m1.2.1 i i0 i1
theorem Q_toll {k p : Int} (ht : t < 1000000) (h : Inv t v) : P_X10_toll k p v (fun r v1 => P_X11_toll k p v1 (fun r' v2 => r = r' ∧ Inv (t + 1) v2)) := by
  obtain ⟨A, T, F, V, S, c, P, R, H, hA, hT, hX, hM⟩ := h
  have hlen := hA.2.1.2.2
  by_cases hc : ctl A k p
  · exact N_X10_toll (F_X10_toll (XS_toll hc hA hT hX)) (fun r1 v1 h1 => N_X11_toll (F_X11_toll (MS_toll hc hA hT (IM_high hM (fun a ha => h1.2 a (by omega))))) (fun r2 v2 h2 => ⟨by rw [h1.1.1, h2.1.1], inv_mk (okNet_P hA hc) (okT_push hA hT) h1.1.2 (fun a ha => h2.2 a (by omega)) h2.1.2⟩))
  · have no : P_X10_deny 2 v (fun r v1 => (r = 0 ∨ r = 1) ∧ P_X11_toll k p v1 (fun r' v2 => r = r' ∧ Inv (t + 1) v2)) := by
      refine den_two (k := 2) (fM := fun v q => P_X11_toll k p v q) hA hT ht hX hM (by omega) (fun v1 q m1 hr => ?_)
      unfold P_X11_toll
      refine S_isLineM hA.2.1 m1.1.1 (fun _ => ⟨fun _ => hr, fun g => absurd rfl g⟩) (fun hk => ⟨fun g => absurd g (by decide), fun _ => S_isIn (fun _ => ⟨fun _ => hr, fun g => absurd rfl g⟩) (fun hp => ⟨fun g => absurd g (by decide), fun _ => S_priceOf hA.2.1 m1.1.1 hk ⟨fun g => absurd ⟨hk, hp, g⟩ hc, fun _ => hr⟩⟩)⟩)
    unfold P_X10_toll
    refine S_isLine hX.1.1 (fun _ => ⟨fun _ => no, fun g => absurd rfl g⟩) (fun hk => ⟨fun g => absurd g (by decide), fun _ => ⟨fun _ => no, fun g1 => ⟨fun _ => no, fun g2 => ⟨by omega, fun g3 => absurd ⟨hk, ⟨g1, g2⟩, ?_⟩ hc, fun _ => no⟩⟩⟩⟩)
    rw [← (hX.1.1.2.2 k hk.1 hk.2).2.2]; exact g3
end Toll
/-! ===== cut ===== -/
section Cut
variable {v : VT} {t : Int} {A : Net} {T : Vt} {F : Int × Int} {V : Vt} {S : Se} {c : Int} {P : Vt} {R : Nat → Int} {H : Hs}
theorem erase_getD {L : List Ln} (k j : Nat) : (L.eraseIdx k).getD j (0, 0, 0) = if j < k then L.getD j (0, 0, 0) else L.getD (j + 1) (0, 0, 0) := by
  rw [List.getD_eq_getElem?_getD, List.getElem?_eraseIdx]
  split <;> rw [List.getD_eq_getElem?_getD]
theorem erase_len {L : List Ln} {k : Nat} (h : k < L.length) : (L.eraseIdx k).length = L.length - 1 := List.length_eraseIdx_of_lt h
theorem erase_ln {L : List Ln} {k j : Int} (k0 : 0 ≤ k) (j0 : 0 ≤ j) : lo (L.eraseIdx k.toNat) j = lo L (if j < k then j else j + 1) ∧ hi (L.eraseIdx k.toNat) j = hi L (if j < k then j else j + 1) ∧ pr (L.eraseIdx k.toNat) j = pr L (if j < k then j else j + 1) := by
  unfold lo hi pr
  rw [erase_getD]
  by_cases e : j < k
  · rw [if_pos (by omega), if_pos e]; exact ⟨rfl, rfl, rfl⟩
  · rw [if_neg (by omega), if_neg e, show (j + 1).toNat = j.toNat + 1 by omega]; exact ⟨rfl, rfl, rfl⟩
def netC (A : Net) (k : Int) : Net := (A.1, A.2.1.eraseIdx k.toNat, A.2.2)
theorem wfL_erase {n : Int} {L : List Ln} (w : wfL n L) (k : Nat) : wfL n (L.eraseIdx k) := by
  rw [wfL_iff] at w ⊢
  refine ⟨fun l hl => w.1 l ((List.eraseIdx_sublist L k).subset hl), w.2.1.sublist (List.eraseIdx_sublist L k), ?_⟩
  have := (List.eraseIdx_sublist L k).length_le
  omega
theorem okNet_C {k : Int} (hA : okNet A) : okNet (netC A k) := ⟨hA.1, wfL_erase hA.2.1 _, hA.2.2⟩
theorem ln_snoc {L : List Ln} {m : Nat} (h : m < L.length) : L.take (m + 1) = L.take m ++ [L.getD m (0, 0, 0)] := by
  rw [List.take_succ, List.getD_eq_getElem?_getD, List.getElem?_eq_getElem h]
  rfl
/-- a line as it stands is put behind -/
theorem addL_line {n : Int} {L M : List Ln} (w : wfL n L) {i : Int} (i0 : 0 ≤ i) (i1 : i < L.length) : addL M (lo L i) (hi L i) (pr L i) = M ++ [L.getD i.toNat (0, 0, 0)] := by
  have := w.1 i i0 i1
  unfold addL
  rw [show min (lo L i) (hi L i) = lo L i by omega, show max (lo L i) (hi L i) = hi L i by omega]
  rfl
theorem S_removeLine {n k : Int} {L : List Ln} {q : VT → Prop} (w : wfL n L) (hg : xG v 10 n L) (hk : 0 ≤ k ∧ k < L.length)
    (hq : ∀ v' : VT, (∀ c, c ≠ 10 → c ≠ 12 → c ≠ 13 → c ≠ 14 → v' c = v c) → xG v' 10 n (L.eraseIdx k.toNat) → q v') : P_X0_removeLine 10 k v q := by
  have hlen := w.2.2
  have el := erase_len (L := L) (k := k.toNat) (by omega)
  unfold P_X0_removeLine
  rw [hg.2.1]
  intro v7 e7 X12 hX12
  have f7 : ∀ c, c ≠ 10 → v7 c = v c := fun c hc => by rw [e7]; exact upd2_off _ _ _ hc
  refine up2 (X := X12) (L.length : Int) (fun i v12 => 0 ≤ i ∧ (∀ c, c ≠ 10 → c ≠ 12 → c ≠ 13 → c ≠ 14 → v12 c = v c) ∧ xG v12 10 n ((L.eraseIdx k.toNat).take (if i ≤ k then i.toNat else i.toNat - 1)) ∧ ∀ j : Int, i ≤ j → j < L.length → v12 12 j.toNat = lo L j ∧ v12 13 j.toNat = hi L j ∧ v12 14 j.toNat = pr L j) ?_ (by omega) ⟨by omega, fun c c0 _ _ _ => f7 c c0, ?_, fun j j0 j1 => ?_⟩
  · intro i v12 hle ⟨i0, hf, hx, hr⟩ hnext
    apply hX12
    refine ⟨fun hc => hq v12 hf ?_, fun hc => ⟨fun he => ⟨by omega, hnext hc _ ⟨by omega, hf, ?_, fun j j0 j1 => hr j (by omega) j1⟩⟩, fun hne => ⟨by omega, by omega, by omega, ?_⟩⟩⟩
    · rw [if_neg (by omega), List.take_of_length_le (by rw [el]; omega)] at hx; exact hx
    · rw [if_pos (by omega)] at hx
      rw [if_neg (by omega), show (i + 1).toNat - 1 = i.toNat by omega]; exact hx
    · obtain ⟨r1, r2, r3⟩ := hr i (Int.le_refl _) hc
      show P_X0_addLine 10 (v12 12 i.toNat) (v12 13 i.toNat) (v12 14 i.toNat) v12 _
      rw [r1, r2, r3]
      refine S_addLine hx ?_ (fun v' f' j' g' s' => ⟨by omega, hnext hc _ ⟨by omega, fun c c0 c2 c3 c4 => by rw [f' c c0 c2 c3 c4]; exact hf c c0 c2 c3 c4, ?_, fun j j0 j1 => ?_⟩⟩)
      · rw [List.length_take]; omega
      · rw [addL_line w i0 hc] at g'
        by_cases hik : i < k
        · rw [if_pos (by omega)] at g'
          rw [if_pos (by omega), show (i + 1).toNat = i.toNat + 1 by omega, ln_snoc (by rw [el]; omega), erase_getD, if_pos (by omega)]
          exact g'
        · rw [if_neg (by omega)] at g'
          rw [if_neg (by omega), show (i + 1).toNat - 1 = (i.toNat - 1) + 1 by omega, ln_snoc (by rw [el]; omega), erase_getD, if_neg (by omega), show i.toNat - 1 + 1 = i.toNat by omega]
          exact g'
      · obtain ⟨s1, s2, s3⟩ := s' j.toNat (by rw [List.length_take]; split <;> omega)
        rw [s1, s2, s3]
        exact hr j (by omega) j1
  · rw [if_pos (by omega)]
    refine ⟨by rw [e7, upd2_j, if_neg (by decide)]; exact hg.1, by rw [e7, upd2_same]; rfl, fun j j0 j1 => ?_⟩
    have : j < 0 := j1
    omega
  · rw [f7 12 (by omega), f7 13 (by omega), f7 14 (by omega)]; exact hg.2.2 j j0 j1
theorem X_removeLine {k : Int} {q : VT → Prop} (hA : okNet A) (hX : IX v A T F V S c P R H) (hk : 0 ≤ k ∧ k < A.2.1.length) (hq : ∀ v2, IX v2 (netC A k) T F V S c P R H → q v2) : P_X0_removeLine 10 k v (fun v1 => P_X10_changed v1 q) := by
  refine S_removeLine hA.2.1 hX.1.1 hk (fun v' f' g' => X_new (A' := netC A k) hX (fun d hd => f' d (by omega) (by omega) (by omega) (by omega)) ⟨g', ?_⟩ (fun v2 x2 _ => hq v2 x2))
  intro i i0 i1
  rw [f' 11 (by omega) (by omega) (by omega) (by omega)]; exact hX.2.1 i i0 i1
theorem M_cuts {k : Int} {q : VT → Prop} (hA : okNet A) (hM : IM v A T F V S c P R H) (hk : 0 ≤ k ∧ k < A.2.1.length) (hq : ∀ v2, IM v2 (netC A k) T F V S c P R H → q v2) : P_X11_cuts k v q := by
  have hlen := hA.2.1.2.2
  have hn := hA.1
  have e1 : v 222 1 = (A.2.1.length : Int) := hM.1.1.2.1
  unfold P_X11_cuts
  refine ⟨by omega, by omega, fun l2 el2 => ?_⟩
  intro K44 hK44 X7 hX7
  refine wh2 (X := X7) (fun i v7 => (26 + 2 * k ≤ i ∧ i ≤ 26 + 2 * ((A.2.1.length : Int) - 1)) ∧ (∀ a, a ≠ 222 → v7 a = v a) ∧ ∀ j : Nat, v7 222 j = if 26 + 2 * k ≤ (j : Int) ∧ (j : Int) < i then v 222 (j + 2) else v 222 j) (fun i _ => (200 - i).toNat) ?_ ⟨by omega, fun a _ => rfl, fun j => by rw [if_neg (by omega)]⟩
  intro i v7 ⟨hi', hf, hr⟩ hnext
  apply hX7
  have n7 : v7 222 1 = (A.2.1.length : Int) := by rw [hr 1, if_neg (by omega)]; exact e1
  rw [n7]
  refine ⟨by omega, by omega, by omega, fun hge => ?_, fun hlt => ⟨by omega, by omega, by omega, fun v37 e37 => ⟨by omega, hnext _ _ ⟨by omega, fun a ha => by rw [e37, upd2_off _ _ _ ha]; exact hf a ha, fun j => ?_⟩ (by omega)⟩⟩⟩
  · apply hK44
    intro K86 hK86 X46 hX46
    refine wh2 (X := X46) (fun i2 v46 => (k ≤ i2 ∧ i2 ≤ (A.2.1.length : Int) - 1) ∧ (∀ a, a ≠ 222 → v46 a = v a) ∧ ∀ j : Nat, v46 222 j = if 146 + k ≤ (j : Int) ∧ (j : Int) < 146 + i2 then v7 222 (j + 1) else v7 222 j) (fun i2 _ => (100 - i2).toNat) ?_ ⟨by omega, hf, fun j => by rw [if_neg (by omega)]⟩
    intro i2 v46 ⟨hi2, hf2, hr2⟩ hnext2
    apply hX46
    have n46 : v46 222 1 = (A.2.1.length : Int) := by rw [hr2 1, if_neg (by omega)]; exact n7
    rw [n46]
    refine ⟨by omega, fun hge2 => ?_, fun hlt2 => ⟨by omega, by omega, by omega, by omega, by omega, fun v79 e79 => ⟨by omega, hnext2 _ _ ⟨by omega, fun a ha => by rw [e79, upd2_off _ _ _ ha]; exact hf2 a ha, fun j => ?_⟩ (by omega)⟩⟩⟩
    · apply hK86
      rw [n46]
      refine ⟨by omega, fun v95 e95 v98 e98 => hq v98 ?_⟩
      have f98 : ∀ a, a ≠ 218 → a ≠ 222 → v98 a = v a := fun a a1 a2 => by rw [e98, upd2_off _ _ _ a1, e95, upd2_off _ _ _ a2]; exact hf2 a a2
      have el := erase_len (L := A.2.1) (k := k.toNat) (by omega)
      have c : ∀ j : Nat, j ≠ 1 → v98 222 j = if 146 + k ≤ (j : Int) ∧ (j : Int) < 146 + i2 then v 222 (j + 1) else if 26 + 2 * k ≤ (j : Int) ∧ (j : Int) < i then v 222 (j + 2) else v 222 j := by
        intro j hj
        rw [e98, upd2_off _ _ _ (by omega), e95, upd2_j, if_neg hj, hr2 j]
        by_cases g : 146 + k ≤ (j : Int) ∧ (j : Int) < 146 + i2
        · rw [if_pos g, if_pos g, hr (j + 1), if_neg (by omega)]
        · rw [if_neg g, if_neg g, hr j]
      refine M_new (A' := netC A k) hM (fun d hd => f98 d (by omega) (by omega)) (fun j hj => by rw [e98, upd2_j, if_neg (by omega), e95, upd2_off _ _ _ (by omega), hf2 218 (by omega)]) ⟨⟨?_, ?_, fun j j0 j1 => ?_⟩, fun j j0 j1 => ?_⟩ (by rw [e98, upd2_same])
      · rw [c 0 (by decide), if_neg (by omega), if_neg (by omega)]; exact hM.1.1.1
      · rw [e98, upd2_off _ _ _ (by omega), e95, upd2_same]
        show (A.2.1.length : Int) - 1 = ((A.2.1.eraseIdx k.toNat).length : Int)
        rw [el]; omega
      · have j1' : j < ((A.2.1.eraseIdx k.toNat).length : Int) := j1
        rw [el] at j1'
        obtain ⟨l1, l2', l3⟩ := erase_ln (L := A.2.1) hk.1 j0
        show v98 222 (26 + 2 * j).toNat = lo (A.2.1.eraseIdx k.toNat) j ∧ v98 222 (26 + 2 * j + 1).toNat = hi (A.2.1.eraseIdx k.toNat) j ∧ v98 222 (146 + j).toNat = pr (A.2.1.eraseIdx k.toNat) j
        rw [l1, l2', l3]
        by_cases g : j < k
        · have hj := hM.1.1.2.2 j j0 (by omega)
          rw [if_pos g, c _ (by omega), if_neg (by omega), if_neg (by omega), c _ (by omega), if_neg (by omega), if_neg (by omega), c _ (by omega), if_neg (by omega), if_neg (by omega)]
          exact hj
        · have hj := hM.1.1.2.2 (j + 1) (by omega) (by omega)
          rw [if_neg g, c _ (by omega), if_neg (by omega), if_pos (by omega), c _ (by omega), if_neg (by omega), if_pos (by omega), c _ (by omega), if_pos (by omega)]
          rw [show (26 + 2 * j).toNat + 2 = (26 + 2 * (j + 1)).toNat by omega, show (26 + 2 * j + 1).toNat + 2 = (26 + 2 * (j + 1) + 1).toNat by omega, show (146 + j).toNat + 1 = (146 + (j + 1)).toNat by omega]
          exact hj
      · have j1' : j < A.1 := j1
        rw [c _ (by omega), if_neg (by omega), if_neg (by omega)]
        exact hM.2.1 j j0 j1
    · rw [e79, upd2_j]
      by_cases g : j = (146 + i2).toNat
      · rw [if_pos g, if_pos (by omega), hr2, if_neg (by omega), show (146 + i2 + 1).toNat = j + 1 by omega]
      · rw [if_neg g, hr2 j]
        by_cases g2 : 146 + k ≤ (j : Int) ∧ (j : Int) < 146 + i2
        · rw [if_pos g2, if_pos (by omega)]
        · rw [if_neg g2, if_neg (by omega)]
  · rw [e37, upd2_j]
    by_cases g : j = i.toNat
    · rw [if_pos g, if_pos (by omega), hr, if_neg (by omega), show (i + 2).toNat = j + 2 by omega]
    · rw [if_neg g, hr j]
      by_cases g2 : 26 + 2 * k ≤ (j : Int) ∧ (j : Int) < i
      · rw [if_pos g2, if_pos (by omega)]
      · rw [if_neg g2, if_neg (by omega)]
theorem XS_cut {k : Int} (hk : 0 ≤ k ∧ k < A.2.1.length) (hA : okNet A) (hT : okT t V S c P R H) (hX : IX v A T F V S c P R H) : P_X10_cut k v (fun r v1 => r = 1 ∧ IX v1 (netC A k) T F V S c P R (push H A)) := by
  unfold P_X10_cut
  refine S_isLine hX.1.1 (fun g => absurd hk g) (fun _ => ⟨fun _ => ?_, fun g => absurd g (by decide)⟩)
  exact X_keep hA hT hX (fun v1 x1 _ => X_removeLine hA x1 hk (fun v2 x2 => ⟨rfl, x2⟩))
theorem MS_cut {k : Int} (hk : 0 ≤ k ∧ k < A.2.1.length) (hA : okNet A) (hT : okT t V S c P R H) (hM : IM v A T F V S c P R H) : P_X11_cut k v (fun r v1 => r = 1 ∧ IM v1 (netC A k) T F V S c P R (push H A)) := by
  unfold P_X11_cut
  refine S_isLineM hA.2.1 hM.1.1 (fun g => absurd hk g) (fun _ => ⟨fun _ => ?_, fun g => absurd g (by decide)⟩)
  exact M_keep hA hT hM (fun v1 m1 _ _ => M_cuts hA m1 hk (fun v2 m2 => ⟨rfl, m2⟩))
theorem Q_cut {k : Int} (ht : t < 1000000) (h : Inv t v) : P_X10_cut k v (fun r v1 => P_X11_cut k v1 (fun r' v2 => r = r' ∧ Inv (t + 1) v2)) := by
  obtain ⟨A, T, F, V, S, c, P, R, H, hA, hT, hX, hM⟩ := h
  by_cases hk : 0 ≤ k ∧ k < A.2.1.length
  · exact N_X10_cut (F_X10_cut (XS_cut hk hA hT hX)) (fun r1 v1 h1 => N_X11_cut (F_X11_cut (MS_cut hk hA hT (IM_high hM (fun a ha => h1.2 a (by omega))))) (fun r2 v2 h2 => ⟨by rw [h1.1.1, h2.1.1], inv_mk (okNet_C hA) (okT_push hA hT) h1.1.2 (fun a ha => h2.2 a (by omega)) h2.1.2⟩))
  · unfold P_X10_cut
    refine S_isLine hX.1.1 (fun _ => ⟨fun g => absurd rfl g, fun _ => ?_⟩) (fun g => absurd g hk)
    refine den_two (k := 2) (fM := fun v q => P_X11_cut k v q) hA hT ht hX hM (by omega) (fun v1 q m1 hr => ?_)
    unfold P_X11_cut
    exact S_isLineM hA.2.1 m1.1.1 (fun _ => ⟨fun g => absurd rfl g, fun _ => hr⟩) (fun g => absurd g hk)
end Cut

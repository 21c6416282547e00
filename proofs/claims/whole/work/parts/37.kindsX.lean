/-! ===== the class: its classes of lines ===== -/
theorem ct_bij {P : Nat → Bool} {m k : Nat} {f : Nat → Nat} (h1 : ∀ p, p < k → f p < m ∧ P (f p) = true) (h2 : ∀ p p', p < p' → p' < k → f p ≠ f p') (h3 : ∀ j, j < m → P j = true → ∃ p, p < k ∧ f p = j) : fb_ct P m = k := by
  have a1 : k ≤ fb_ct P m := by
    refine fb_holes (fb_ct P m) k (fun p => fb_ct P (f p)) (fun p hp => ?_) (fun p p' hpp hp' e => ?_)
    · have := h1 p hp
      have h4 := fb_ct_mono P (show f p + 1 ≤ m by omega)
      rw [fb_ct_succ, if_pos this.2] at h4
      show fb_ct P (f p) < fb_ct P m
      omega
    · exact h2 p p' hpp hp' (fb_ct_kth_one (h1 p (by omega)).2 (h1 p' hp').2 e)
  have a2 : fb_ct P m ≤ k := by
    have : ∀ r : Nat, ∃ p : Nat, r < fb_ct P m → p < k ∧ fb_ct P (f p) = r := by
      intro r
      by_cases hr : r < fb_ct P m
      · obtain ⟨i, i1, i2, i3⟩ := fb_ct_kth hr
        obtain ⟨p, p1, p2⟩ := h3 i i1 i2
        exact ⟨p, fun _ => ⟨p1, by rw [p2]; exact i3⟩⟩
      · exact ⟨0, fun h => absurd h hr⟩
    obtain ⟨g, hg⟩ := Classical.axiomOfChoice this
    refine fb_holes k (fb_ct P m) g (fun r hr => (hg r hr).1) (fun r r' hrr hr' e => ?_)
    have h4 := (hg r (by omega)).2
    have h5 := (hg r' hr').2
    rw [e] at h4
    omega
  omega
noncomputable def sz (m : Int) (R : Int → Int → Prop) (r : Int) : Int := (fb_ct (fun j => @decide (rt m R (j : Int) = r) (Classical.propDecidable _)) m.toNat : Nat)
def kOKx (v : VT) (L : List Ln) : Prop := v 191 1 = nr L.length (RA L) L.length ∧ (∀ i : Int, 0 ≤ i → i < L.length → v 192 i.toNat = kd L.length (RA L) i) ∧ ∀ r : Int, 0 ≤ r → r < L.length → rt L.length (RA L) r = r → v 194 (nr L.length (RA L) r).toNat = r ∧ v 193 (nr L.length (RA L) r).toNat = sz L.length (RA L) r
theorem mt_frame {v v' : VT} {n : Int} {L : List Ln} (h : mt v n L) (hf : ∀ a, (138 ≤ a ∧ a ≤ 164) → v' a = v a) (hn : n ≤ 24) : mt v' n L := by
  unfold mt
  rw [hf 138 (by omega), hf 139 (by omega)]
  exact ⟨h.1, h.2.1, fun a b h1 h2 h3 h4 => by rw [hf _ (by omega)]; exact h.2.2.1 a b h1 h2 h3 h4, h.2.2.2⟩
theorem xG_frame {v v' : VT} {n : Int} {L : List Ln} {g : Nat} (h : xG v g n L) (h0 : v' g = v g) (h2 : v' (g + 2) = v (g + 2)) (h3 : v' (g + 3) = v (g + 3)) (h4 : v' (g + 4) = v (g + 4)) : xG v' g n L := by
  unfold xG; rw [h0, h2, h3, h4]; exact h
theorem S_collectFrom {n : Int} {L : List Ln} {s : Int} {v : VT} {q : VT → Prop} (w : wfL n L) (hn : 0 ≤ n ∧ n ≤ 24) (hg : xG v 10 n L) (hm : mt v n L) (hs : 0 ≤ s ∧ s < L.length) (hroot : rt L.length (RA L) s = s) (hc : v 191 1 = nr L.length (RA L) s)
    (hof : ∀ j : Int, 0 ≤ j → j < L.length → (rt L.length (RA L) j < s → v 192 j.toNat = kd L.length (RA L) j) ∧ (s ≤ rt L.length (RA L) j → v 192 j.toNat = -1))
    (hq : ∀ v' : VT, (∀ a, ¬ (191 ≤ a ∧ a ≤ 196) → v' a = v a) → (∀ j, j ≠ 1 → v' 191 j = v 191 j) → v' 191 1 = nr L.length (RA L) s + 1 →
      (∀ j : Int, 0 ≤ j → j < L.length → (rt L.length (RA L) j ≤ s → v' 192 j.toNat = kd L.length (RA L) j) ∧ (s < rt L.length (RA L) j → v' 192 j.toNat = -1)) →
      (∀ k : Nat, v' 194 k = if k = (nr L.length (RA L) s).toNat then s else v 194 k) → (∀ k : Nat, v' 193 k = if k = (nr L.length (RA L) s).toNat then sz L.length (RA L) s else v 193 k) → q v') : P_X1_collectFrom s v q := by
  obtain ⟨g0, g1, g2⟩ := xG_10 hg
  have hlen := w.2.2
  have hR := RA_ok L
  unfold P_X1_collectFrom
  generalize hmm : (L.length : Int) = m at *
  have hc0 : 0 ≤ nr m (RA L) s := nr_pos
  have hcs : nr m (RA L) s ≤ s := nr_le hs.1
  have hsm : (m.toNat : Int) = m := Int.toNat_of_nonneg (by omega)
  refine ⟨by omega, fun v9 e9 v16 e16 K114 hK114 X23 hX23 => ?_⟩
  have f16 : ∀ a, a ≠ 192 → a ≠ 196 → v16 a = v a := fun a h1 h2 => by rw [e16, upd2_off _ _ _ h2, e9, upd2_off _ _ _ h1]
  have kds : kd m (RA L) s = nr m (RA L) s := by unfold kd; rw [hroot]
  -- what a state of the search says
  have done : ∀ (fo : Int) (v114 : VT), (∀ a, a ≠ 192 → a ≠ 196 → v114 a = v a) → 1 ≤ fo → fo ≤ m → v114 196 0 = s →
      (∀ p : Int, 0 ≤ p → p < fo → 0 ≤ v114 196 p.toNat ∧ v114 196 p.toNat < m ∧ rt m (RA L) (v114 196 p.toNat) = s) → (∀ p p' : Int, 0 ≤ p → p < p' → p' < fo → v114 196 p.toNat ≠ v114 196 p'.toNat) →
      (∀ j : Int, 0 ≤ j → j < m → (rt m (RA L) j < s → v114 192 j.toNat = kd m (RA L) j) ∧ (s ≤ rt m (RA L) j → (∃ p : Int, 0 ≤ p ∧ p < fo ∧ v114 196 p.toNat = j) → v114 192 j.toNat = nr m (RA L) s) ∧ (s ≤ rt m (RA L) j → (¬ ∃ p : Int, 0 ≤ p ∧ p < fo ∧ v114 196 p.toNat = j) → v114 192 j.toNat = -1)) →
      (∀ p : Int, 0 ≤ p → p < fo → ∀ j : Int, RA L (v114 196 p.toNat) j → ∃ p' : Int, 0 ≤ p' ∧ p' < fo ∧ v114 196 p'.toNat = j) → K114 fo v114 := by
    intro fo v114 hf h1 h2 hw0 hw hd ho hcl
    apply hK114
    have e1 : v114 191 1 = nr m (RA L) s := by rw [hf 191 (by omega) (by omega)]; exact hc
    rw [e1]
    refine ⟨by omega, fun v123 e123 => ?_⟩
    have e2 : v123 191 1 = nr m (RA L) s := by rw [e123, upd2_off _ _ _ (by omega)]; exact e1
    rw [e2]
    refine ⟨by omega, fun v134 e134 => ?_⟩
    have e3 : v134 191 1 = nr m (RA L) s := by rw [e134, upd2_off _ _ _ (by omega)]; exact e2
    rw [e3]
    refine ⟨by omega, fun v142 e142 => ?_⟩
    -- all that hangs together with s stands in the row
    have hall : ∀ j : Int, cn (RA L) s j → ∃ p : Int, 0 ≤ p ∧ p < fo ∧ v114 196 p.toNat = j := fun j hj =>
      cn_ind (p := fun j => ∃ p : Int, 0 ≤ p ∧ p < fo ∧ v114 196 p.toNat = j) ⟨0, by omega, by omega, hw0⟩ (fun a b ⟨p, p1, p2, p3⟩ hab => hcl p p1 p2 b (by rw [p3]; exact hab)) hj
    have hiff : ∀ j : Int, 0 ≤ j → j < m → (rt m (RA L) j = s ↔ ∃ p : Int, 0 ≤ p ∧ p < fo ∧ v114 196 p.toNat = j) := by
      intro j j1 j2
      constructor
      · intro h
        exact hall j ((rt_cn hR hs ⟨j1, j2⟩).mp (by rw [hroot, h]))
      · rintro ⟨p, p1, p2, p3⟩
        rw [← p3]; exact (hw p p1 p2).2.2
    have hsz : sz m (RA L) s = fo := by
      unfold sz
      have := ct_bij (P := fun j => @decide (rt m (RA L) (j : Int) = s) (Classical.propDecidable _)) (m := m.toNat) (k := fo.toNat) (f := fun p => (v114 196 p).toNat) (fun p hp => by
        have h3 := hw (p : Int) (by omega) (by omega)
        simp at h3
        refine ⟨by show (v114 196 p).toNat < m.toNat; omega, ?_⟩
        simp
        rw [Int.max_eq_left h3.1]
        exact h3.2.2) (fun p p' hpp hp' e => by
        have h3 := hd (p : Int) (p' : Int) (by omega) (by omega) (by omega)
        have h4 := hw (p : Int) (by omega) (by omega)
        have h5 := hw (p' : Int) (by omega) (by omega)
        simp at h3 h4 h5
        have e : (v114 196 p).toNat = (v114 196 p').toNat := e
        omega) (fun j hj hp => by
        simp at hp
        obtain ⟨p, p1, p2, p3⟩ := (hiff (j : Int) (by omega) (by omega)).mp hp
        exact ⟨p.toNat, by omega, by show (v114 196 p.toNat).toNat = j; omega⟩)
      omega
    have hin : ∀ k : Nat, ∀ x : Int, 0 ≤ x → (k = x.toNat ↔ (k : Int) = x) := fun k x hx => by omega
    refine hq v142 (fun a ha => ?_) (fun j hj => ?_) ?_ (fun j j1 j2 => ?_) (fun k => ?_) (fun k => ?_)
    · rw [e142, upd2_off _ _ _ (by omega), e134, upd2_off _ _ _ (by omega), e123, upd2_off _ _ _ (by omega)]; exact hf a (by omega) (by omega)
    · rw [e142, upd2_j, if_neg hj, e134, upd2_off _ _ _ (by omega), e123, upd2_off _ _ _ (by omega), hf 191 (by omega) (by omega)]
    · rw [e142, upd2_same]
    · rw [e142, upd2_off _ _ _ (by omega), e134, upd2_off _ _ _ (by omega), e123, upd2_off _ _ _ (by omega)]
      have hj := ho j j1 j2
      refine ⟨fun h => ?_, fun h => ?_⟩
      · by_cases e : rt m (RA L) j = s
        · rw [hj.2.1 (by omega) ((hiff j j1 j2).mp e)]
          unfold kd; rw [e]
        · exact hj.1 (by omega)
      · exact hj.2.2 (by omega) (fun hp => by have := (hiff j j1 j2).mpr hp; omega)
    · rw [e142, upd2_off _ _ _ (by omega), e134, upd2_off _ _ _ (by omega), e123, upd2_j, hf 194 (by omega) (by omega)]
    · rw [e142, upd2_off _ _ _ (by omega), e134, upd2_j, e123, upd2_off _ _ _ (by omega), hf 193 (by omega) (by omega), hsz]
  have w0 : v16 196 0 = s := by rw [e16, upd2_same]
  refine wh3 (X := X23) (fun fo i v23 => 0 ≤ i ∧ i ≤ fo ∧ (∀ a, a ≠ 192 → a ≠ 196 → v23 a = v a) ∧ 1 ≤ fo ∧ fo ≤ m ∧ v23 196 0 = s ∧
      (∀ p : Int, 0 ≤ p → p < fo → 0 ≤ v23 196 p.toNat ∧ v23 196 p.toNat < m ∧ rt m (RA L) (v23 196 p.toNat) = s) ∧ (∀ p p' : Int, 0 ≤ p → p < p' → p' < fo → v23 196 p.toNat ≠ v23 196 p'.toNat) ∧
      (∀ j : Int, 0 ≤ j → j < m → (rt m (RA L) j < s → v23 192 j.toNat = kd m (RA L) j) ∧ (s ≤ rt m (RA L) j → (∃ p : Int, 0 ≤ p ∧ p < fo ∧ v23 196 p.toNat = j) → v23 192 j.toNat = nr m (RA L) s) ∧ (s ≤ rt m (RA L) j → (¬ ∃ p : Int, 0 ≤ p ∧ p < fo ∧ v23 196 p.toNat = j) → v23 192 j.toNat = -1)) ∧
      (∀ p : Int, 0 ≤ p → p < i → ∀ j : Int, RA L (v23 196 p.toNat) j → ∃ p' : Int, 0 ≤ p' ∧ p' < fo ∧ v23 196 p'.toNat = j)) (fun _ i _ => (60 - i).toNat) ?_ ⟨by omega, by omega, f16, by omega, by omega, w0, fun p h1 h2 => ?_, fun p p' h1 h2 h3 => by omega, fun j j1 j2 => ?_, fun p h1 h2 => by omega⟩
  · intro fo i v23 ⟨i0, i1, hf, h1, h2, hw0, hw, hd, ho, hcl⟩ hnext
    apply hX23
    refine ⟨fun hc1 => done fo v23 hf h1 h2 hw0 hw hd ho (fun p p1 p2 => hcl p p1 (by omega)), fun hc1 => ⟨fun hc2 => absurd hc2 (by omega), fun hc2 => ⟨by omega, ?_⟩⟩⟩
    intro X42 hX42
    refine up3m (X := X42) m (fun k fo' v42 => s + 1 ≤ k ∧ (∀ a, a ≠ 192 → a ≠ 196 → v42 a = v a) ∧ fo ≤ fo' ∧ fo' ≤ m ∧ (∀ p : Int, 0 ≤ p → p < fo → v42 196 p.toNat = v23 196 p.toNat) ∧
      (∀ p : Int, 0 ≤ p → p < fo' → 0 ≤ v42 196 p.toNat ∧ v42 196 p.toNat < m ∧ rt m (RA L) (v42 196 p.toNat) = s) ∧ (∀ p p' : Int, 0 ≤ p → p < p' → p' < fo' → v42 196 p.toNat ≠ v42 196 p'.toNat) ∧
      (∀ j : Int, 0 ≤ j → j < m → (rt m (RA L) j < s → v42 192 j.toNat = kd m (RA L) j) ∧ (s ≤ rt m (RA L) j → (∃ p : Int, 0 ≤ p ∧ p < fo' ∧ v42 196 p.toNat = j) → v42 192 j.toNat = nr m (RA L) s) ∧ (s ≤ rt m (RA L) j → (¬ ∃ p : Int, 0 ≤ p ∧ p < fo' ∧ v42 196 p.toNat = j) → v42 192 j.toNat = -1)) ∧
      (∀ j : Int, s < j → j < k → RA L (v23 196 i.toNat) j → ∃ p' : Int, 0 ≤ p' ∧ p' < fo' ∧ v42 196 p'.toNat = j)) ?_ (by omega) ⟨by omega, hf, by omega, h2, fun p _ _ => rfl, hw, hd, ho, fun j j1 j2 => by omega⟩
    intro fo' k v42 hle ⟨k0, kf, k1, k2, kw, kin, kd', ko, kcl⟩ hnext2
    apply hX42
    have e10 : v42 10 1 = m := by rw [kf 10 (by omega) (by omega)]; exact g1
    rw [e10]
    have hwi := kin i (by omega) (by omega)
    have ewi : v42 196 i.toNat = v23 196 i.toNat := kw i i0 hc1
    refine ⟨fun hc3 => ⟨by omega, hnext fo' (i + 1) v42 ⟨by omega, by omega, kf, by omega, k2, by rw [show (0 : Nat) = (0 : Int).toNat from rfl, kw 0 (by omega) (by omega)]; exact hw0, kin, kd', ko, fun p p1 p2 j hj => ?_⟩ (by omega)⟩, fun hc3 => ⟨by omega, fun hc4 => ⟨by omega, hnext2 hc3 _ _ ⟨by omega, kf, k1, k2, kw, kin, kd', ko, fun j j1 j2 hj => ?_⟩⟩, fun hc4 => ⟨by omega, ?_⟩⟩⟩
    · by_cases e : p = i
      · rw [e, ewi] at hj
        by_cases hjs : s < j
        · exact kcl j hjs (by have := hj.2.2.2.1; omega) hj
        · have hjr : 0 ≤ j ∧ j < m := ⟨hj.2.2.1, by have := hj.2.2.2.1; omega⟩
          have hwr := hw i i0 hc1
          have hrj : rt m (RA L) j = s := by
            rw [← (rt_cn hR ⟨hwr.1, hwr.2.1⟩ hjr).mpr (cn_one hj)]; exact hwr.2.2
          have := (rt_le hR hjr).2.1
          exact ⟨0, by omega, by omega, by rw [kw 0 (by omega) (by omega), show (0 : Int).toNat = 0 from rfl, hw0]; omega⟩
      · rw [kw p p1 (by omega)] at hj
        obtain ⟨p', a1, a2, a3⟩ := hcl p p1 (by omega) j hj
        exact ⟨p', a1, by omega, by rw [kw p' a1 a2]; exact a3⟩
    · by_cases e : j = k
      · subst e
        have hkj := ko j (by omega) hc3
        refine Classical.byContradiction fun hno => hc4 ?_
        have hwr := hw i i0 hc1
        have hrj : rt m (RA L) j = s := by
          rw [← (rt_cn hR ⟨hwr.1, hwr.2.1⟩ ⟨by omega, hc3⟩).mpr (cn_one hj)]; exact hwr.2.2
        exact hkj.2.2 (by omega) hno
      · exact kcl j j1 (by omega) hj
    · have hkk := ko k (by omega) hc3
      have hkr : s ≤ rt m (RA L) k := by
        by_cases hlt : rt m (RA L) k < s
        · have h3 := hkk.1 hlt
          have h4 : 0 ≤ kd m (RA L) k := nr_pos
          omega
        · omega
      have hno : ¬ ∃ p : Int, 0 ≤ p ∧ p < fo' ∧ v42 196 p.toNat = k := fun h => by
        have := hkk.2.1 hkr h
        omega
      refine S_areAlike w hn (xG_frame hg (kf 10 (by omega) (by omega)) (kf 12 (by omega) (by omega)) (kf 13 (by omega) (by omega)) (kf 14 (by omega) (by omega))) (mt_frame hm (fun a ha => kf a (by omega) (by omega)) hn.2) (by omega) (by omega) (fun hna => ?_) (fun hal => ?_)
      · refine ⟨fun _ => ⟨by omega, hnext2 hc3 _ _ ⟨by omega, kf, k1, k2, kw, kin, kd', ko, fun j j1 j2 hj => ?_⟩⟩, fun h => absurd rfl h⟩
        by_cases e : j = k
        · rw [e, ← ewi] at hj; exact absurd hj.2.2.2.2 hna
        · exact kcl j j1 (by omega) hj
      · have hrk : rt m (RA L) k = s := by
          rw [← (rt_cn hR ⟨hwi.1, hwi.2.1⟩ ⟨by omega, hc3⟩).mpr (cn_one ⟨hwi.1, by omega, by omega, by omega, hal⟩)]; exact hwi.2.2
        -- one more than stand there: there is room
        have hroom : fo' + 1 ≤ m := by
          have := fb_holes m.toNat (fo'.toNat + 1) (fun p => if p = fo'.toNat then k.toNat else (v42 196 p).toNat) (fun p hp => by
            show (if p = fo'.toNat then k.toNat else (v42 196 p).toNat) < m.toNat
            split
            · omega
            · have h3 := kin (p : Int) (by omega) (by omega)
              simp at h3
              omega) (fun p p' hpp hp' e => by
            have e : (if p = fo'.toNat then k.toNat else (v42 196 p).toNat) = (if p' = fo'.toNat then k.toNat else (v42 196 p').toNat) := e
            rw [if_neg (by omega)] at e
            have h3 := kin (p : Int) (by omega) (by omega)
            simp at h3
            by_cases e2 : p' = fo'.toNat
            · rw [if_pos e2] at e
              exact hno ⟨(p : Int), by omega, by omega, by simp; omega⟩
            · rw [if_neg e2] at e
              have h4 := kin (p' : Int) (by omega) (by omega)
              have h5 := kd' (p : Int) (p' : Int) (by omega) (by omega) (by omega)
              simp at h4 h5
              omega)
          omega
        have e191 : v42 191 1 = nr m (RA L) s := by rw [kf 191 (by omega) (by omega)]; exact hc
        rw [e191]
        refine ⟨fun h => absurd h (by decide), fun _ => ⟨by omega, fun v89 e89 => ⟨by omega, fun v98 e98 => ?_⟩⟩⟩
        have r196 : ∀ p : Int, 0 ≤ p → v98 196 p.toNat = if p = fo' then k else v42 196 p.toNat := fun p hp => by
          rw [e98, upd2_at _ _ _ (by omega) hp, e89, upd2_off _ _ _ (by omega)]
        have r192 : ∀ j : Int, 0 ≤ j → v98 192 j.toNat = if j = k then nr m (RA L) s else v42 192 j.toNat := fun j hj => by
          rw [e98, upd2_off _ _ _ (by omega), e89, upd2_at _ _ _ (by omega) hj]
        refine ⟨by omega, by omega, hnext2 hc3 _ _ ⟨by omega, fun a ha hb => ?_, by omega, hroom, fun p p1 p2 => ?_, fun p p1 p2 => ?_, fun p p' p1 p2 p3 => ?_, fun j j1 j2 => ?_, fun j j1 j2 hj => ?_⟩⟩
        · rw [e98, upd2_off _ _ _ hb, e89, upd2_off _ _ _ ha]; exact kf a ha hb
        · rw [r196 p p1, if_neg (by omega)]; exact kw p p1 p2
        · rw [r196 p p1]
          by_cases e : p = fo'
          · rw [if_pos e]; exact ⟨by omega, hc3, hrk⟩
          · rw [if_neg e]; exact kin p p1 (by omega)
        · rw [r196 p p1, r196 p' (by omega), if_neg (by omega)]
          by_cases e : p' = fo'
          · rw [if_pos e]; exact fun h => hno ⟨p, p1, by omega, h⟩
          · rw [if_neg e]; exact kd' p p' p1 p2 (by omega)
        · rw [r192 j j1]
          have hkj := ko j j1 j2
          by_cases e : j = k
          · rw [if_pos e, e]
            refine ⟨fun h => by omega, fun _ _ => rfl, fun _ h => absurd ⟨fo', by omega, by omega, by rw [r196 fo' (by omega), if_pos rfl]⟩ h⟩
          · rw [if_neg e]
            have hex : (∃ p : Int, 0 ≤ p ∧ p < fo' + 1 ∧ v98 196 p.toNat = j) ↔ ∃ p : Int, 0 ≤ p ∧ p < fo' ∧ v42 196 p.toNat = j := by
              constructor
              · rintro ⟨p, p1, p2, p3⟩
                rw [r196 p p1] at p3
                by_cases ep : p = fo'
                · rw [if_pos ep] at p3; exact absurd p3.symm e
                · rw [if_neg ep] at p3; exact ⟨p, p1, by omega, p3⟩
              · rintro ⟨p, p1, p2, p3⟩
                exact ⟨p, p1, by omega, by rw [r196 p p1, if_neg (by omega)]; exact p3⟩
            rw [hex]
            exact hkj
        · by_cases e : j = k
          · exact ⟨fo', by omega, by omega, by rw [r196 fo' (by omega), if_pos rfl, e]⟩
          · obtain ⟨p, p1, p2, p3⟩ := kcl j j1 (by omega) hj
            exact ⟨p, p1, by omega, by rw [r196 p p1, if_neg (by omega)]; exact p3⟩
  · have e : p = 0 := by omega
    rw [e, show (0 : Int).toNat = 0 from rfl, w0]
    exact ⟨hs.1, hs.2, hroot⟩
  · have r192 : v16 192 j.toNat = if j = s then nr m (RA L) s else v 192 j.toNat := by
      rw [e16, upd2_off _ _ _ (by omega), e9, upd2_at _ _ _ hs.1 j1, hc]
    have hj := hof j j1 j2
    have hex : (∃ p : Int, 0 ≤ p ∧ p < 1 ∧ v16 196 p.toNat = j) ↔ j = s := by
      constructor
      · rintro ⟨p, p1, p2, p3⟩
        rw [show p = 0 by omega, show (0 : Int).toNat = 0 from rfl, w0] at p3
        exact p3.symm
      · intro h; exact ⟨0, by omega, by omega, by rw [show (0 : Int).toNat = 0 from rfl, w0]; exact h.symm⟩
    rw [hex, r192]
    by_cases e : j = s
    · rw [if_pos e, e, hroot]
      exact ⟨fun h => by omega, fun _ _ => rfl, fun _ h => absurd rfl h⟩
    · rw [if_neg e]
      exact ⟨hj.1, fun _ h => absurd h e, fun h _ => hj.2 h⟩

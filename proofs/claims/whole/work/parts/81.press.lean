/-! ===== a direction pressed together ===== -/
def RK (L : List Ln) (d : Int) (a b : Int) : Prop := ∃ k : Int, 0 ≤ k ∧ k < L.length ∧ kd L.length (RA L) k = d ∧ ((lo L k = a ∧ hi L k = b) ∨ (lo L k = b ∧ hi L k = a))
noncomputable def ldr (n : Int) (R : Int → Int → Prop) (j : Int) : Int := Classical.epsilon (fun r : Int => 0 ≤ r ∧ r < n ∧ rt n R r = r ∧ nr n R r = j)
noncomputable def netQ (A : Net) (d : Int) : Net := (nr A.1 (RK A.2.1 d) A.1, tn (kd A.1 (RK A.2.1 d)) A.2.1, fun j => A.2.2 (ldr A.1 (RK A.2.1 d) j))
section Press
variable {n d : Int} {L : List Ln} {v : VT} {R : Int → Int → Prop}
theorem RK_ok (w : wfL n L) (d : Int) : okR n (RK L d) := by
  refine ⟨fun i j h => ?_, fun i j h => ?_⟩
  · obtain ⟨k, k0, k1, -, k2⟩ := h
    have := w.1 k k0 k1
    omega
  · obtain ⟨k, k0, k1, k2, k3⟩ := h
    exact ⟨k, k0, k1, k2, k3.symm⟩
theorem ldr_is {r j : Int} (h : 0 ≤ r ∧ r < n ∧ rt n R r = r ∧ nr n R r = j) : ldr n R j = r := by
  have h2 := Classical.epsilon_spec (p := fun r : Int => 0 ≤ r ∧ r < n ∧ rt n R r = r ∧ nr n R r = j) ⟨r, h⟩
  exact nr_inj h2.1 h.1 h2.2.2.1 h.2.2.1 (h2.2.2.2.trans h.2.2.2.symm)
theorem ldr_ok (hn : 0 ≤ n) {j : Int} (hj : 0 ≤ j ∧ j < nr n R n) : 0 ≤ ldr n R j ∧ ldr n R j < n ∧ rt n R (ldr n R j) = ldr n R j ∧ nr n R (ldr n R j) = j := by
  obtain ⟨r, h1, h2, h3, h4⟩ := nr_find (m := n) (R := R) n.toNat j hj.1 (by rw [Int.toNat_of_nonneg hn]; exact hj.2)
  rw [Int.toNat_of_nonneg hn] at h2
  rw [ldr_is ⟨h1, h2, h3, h4⟩]
  exact ⟨h1, h2, h3, h4⟩
theorem kd_ok (hn : 0 ≤ n) (hR : okR n R) : okf2 n (nr n R n) (kd n R) ∧ isLd n (nr n R n) (kd n R) (ldr n R) := by
  refine ⟨fun a a0 a1 => Or.inr (kd_in hR ⟨a0, a1⟩), fun j j0 j1 => ?_⟩
  obtain ⟨h1, h2, h3, h4⟩ := ldr_ok hn (R := R) ⟨j0, j1⟩
  refine ⟨⟨h1, h2⟩, ?_, fun u u0 u1 e => ?_⟩
  · unfold kd; rw [h3, h4]
  · have hr := rt_le hR (i := u) ⟨u0, by omega⟩
    have := nr_inj hr.1 h1 (rt_rt hR ⟨u0, by omega⟩) h3 (by rw [h4]; exact e)
    omega
theorem okNet_Q {A : Net} (hA : okNet A) : okNet (netQ A d) := by
  have hR := RK_ok hA.2.1 d
  obtain ⟨h1, h2⟩ := kd_ok hA.1.1 hR
  have h3 : nr A.1 (RK A.2.1 d) A.1 ≤ A.1 := nr_le hA.1.1
  have h4 : 0 ≤ nr A.1 (RK A.2.1 d) A.1 := nr_pos
  have h5 := hA.1
  exact ⟨⟨h4, by show nr A.1 (RK A.2.1 d) A.1 ≤ 24; omega⟩, tn_wf hA.2.1 h1, fun j j0 j1 => hA.2.2 _ (h2 j j0 j1).1.1 (h2 j j0 j1).1.2⟩
/-- what is alike along lines, hangs together and isn't above, is the least -/
theorem grp_rt {g : Int → Int} (hR : okR n R) (h1 : ∀ a : Int, 0 ≤ a → a < n → 0 ≤ g a ∧ g a ≤ a ∧ cn R a (g a)) (h2 : ∀ a b, R a b → g a = g b) {a : Int} (ha : 0 ≤ a ∧ a < n) : g a = rt n R a := by
  obtain ⟨s1, s2, s3⟩ := rt_spec hR ha
  have s4 := rt_le hR ha
  have e : g (rt n R a) = g a := cn_ind (p := fun b => g b = g a) rfl (fun x y hx hxy => by rw [← h2 x y hxy]; exact hx) s2
  have g1 := h1 a ha.1 ha.2
  have g2 := h1 (rt n R a) s4.1 s4.2.2
  have := s3 (g a) g1.2.2
  omega
/-! ===== the class: gather, merge ===== -/
theorem S_unite {x y : Int} {q : VT → Prop} (hn : 0 ≤ n ∧ n ≤ 24) (hq : ∀ v' : VT, (∀ a, a ≠ 195 → v' a = v a) → (∀ a : Int, 0 ≤ a → a < n → v' 195 a.toNat = if v 195 a.toNat = max x y then min x y else v 195 a.toNat) → q v') : P_X1_unite n x y v q := by
  unfold P_X1_unite
  intro X17 hX17
  refine up2 (X := X17) n (fun i v17 => 0 ≤ i ∧ (∀ a, a ≠ 195 → v17 a = v a) ∧ ∀ a : Int, 0 ≤ a → v17 195 a.toNat = if a < i ∧ v 195 a.toNat = max x y then min x y else v 195 a.toNat) ?_ hn.1 ⟨by omega, fun a _ => rfl, fun a a0 => by rw [if_neg (by omega)]⟩
  intro i v17 hle ⟨i0, hf, hz⟩ hnext
  apply hX17
  have ei : v17 195 i.toNat = v 195 i.toNat := by rw [hz i i0, if_neg (by omega)]
  rw [ei]
  refine ⟨fun hc => hq v17 hf (fun a a0 a1 => ?_), fun hc => ⟨by omega, fun hne => ⟨by omega, hnext hc _ ⟨by omega, hf, fun a a0 => ?_⟩⟩, fun he => ⟨by omega, fun v43 e43 => ⟨by omega, hnext hc _ ⟨by omega, fun a ha => by rw [e43, upd2_off _ _ _ ha]; exact hf a ha, fun a a0 => ?_⟩⟩⟩⟩⟩
  · rw [hz a a0]
    by_cases e : v 195 a.toNat = max x y
    · rw [if_pos ⟨by omega, e⟩, if_pos e]
    · rw [if_neg (fun g => e g.2), if_neg e]
  · rw [hz a a0]
    by_cases e : a = i
    · rw [if_neg (by omega), if_neg (fun g => hne (by rw [← e]; exact g.2))]
    · by_cases e2 : a < i ∧ v 195 a.toNat = max x y
      · rw [if_pos e2, if_pos ⟨by omega, e2.2⟩]
      · rw [if_neg e2, if_neg (fun g => e2 ⟨by omega, g.2⟩)]
  · rw [e43, upd2_at _ _ _ i0 a0]
    by_cases e : a = i
    · rw [if_pos e, if_pos ⟨by omega, by rw [e]; exact he⟩]
    · rw [if_neg e, hz a a0]
      by_cases e2 : a < i ∧ v 195 a.toNat = max x y
      · rw [if_pos e2, if_pos ⟨by omega, e2.2⟩]
      · rw [if_neg e2, if_neg (fun g => e2 ⟨by omega, g.2⟩)]
theorem S_gather {q : VT → Prop} (w : wfL n L) (hn : 0 ≤ n ∧ n ≤ 24) (hg : xG v 10 n L) (hk : ∀ i : Int, 0 ≤ i → i < L.length → v 192 i.toNat = kd L.length (RA L) i) (hq : ∀ v' : VT, (∀ a, a ≠ 195 → v' a = v a) → (∀ a : Int, 0 ≤ a → a < n → v' 195 a.toNat = rt n (RK L d) a) → q v') : P_X1_gather d v q := by
  have hlen := w.2.2
  have hR := RK_ok w d
  unfold P_X1_gather
  intro K23 hK23 X2 hX2
  refine up2 (X := X2) n (fun i v2 => 0 ≤ i ∧ (∀ a, a ≠ 195 → v2 a = v a) ∧ ∀ a : Int, 0 ≤ a → a < i → v2 195 a.toNat = a) ?_ hn.1 ⟨by omega, fun a _ => rfl, fun a a0 a1 => by omega⟩
  intro i v2 hle ⟨i0, hf, hz⟩ hnext
  apply hX2
  rw [hf 10 (by omega), hg.1]
  refine ⟨fun hge => ?_, fun hlt => ⟨by omega, fun v16 e16 => ⟨by omega, hnext hlt _ ⟨by omega, fun a ha => by rw [e16, upd2_off _ _ _ ha]; exact hf a ha, fun a a0 a1 => ?_⟩⟩⟩⟩
  · apply hK23
    intro X25 hX25
    refine up2 (X := X25) (L.length : Int) (fun i v25 => 0 ≤ i ∧ (∀ a, a ≠ 195 → v25 a = v a) ∧ (∀ a : Int, 0 ≤ a → a < n → 0 ≤ v25 195 a.toNat ∧ v25 195 a.toNat ≤ a ∧ cn (RK L d) a (v25 195 a.toNat)) ∧ ∀ k : Int, 0 ≤ k → k < i → kd L.length (RA L) k = d → v25 195 (lo L k).toNat = v25 195 (hi L k).toNat) ?_ (by omega) ⟨by omega, hf, fun a a0 a1 => by rw [hz a a0 (by omega)]; exact ⟨a0, Int.le_refl _, cn_refl⟩, fun k k0 k1 => by omega⟩
    intro i v25 hle2 ⟨i0', hf2, hb, hc⟩ hnext2
    apply hX25
    have g25 : xG v25 10 n L := xG_frame hg (hf2 10 (by omega)) (hf2 12 (by omega)) (hf2 13 (by omega)) (hf2 14 (by omega))
    rw [g25.2.1, g25.1, hf2 192 (by omega)]
    refine ⟨fun hge2 => hq v25 hf2 (fun a a0 a1 => ?_), fun hlt2 => ?_⟩
    · have := grp_rt (g := fun a => v25 195 a.toNat) hR hb (fun x y hxy => ?_) ⟨a0, a1⟩
      · exact this
      · obtain ⟨k, k0, k1, k2, k3⟩ := hxy
        have := hc k k0 (by omega) k2
        show v25 195 x.toNat = v25 195 y.toNat
        rcases k3 with ⟨e1, e2⟩ | ⟨e1, e2⟩
        · rw [← e1, ← e2]; exact this
        · rw [← e1, ← e2]; exact this.symm
    · have hw := w.1 i i0' hlt2
      have e12 : v25 12 i.toNat = lo L i := (g25.2.2 i i0' hlt2).1
      have e13 : v25 13 i.toNat = hi L i := (g25.2.2 i i0' hlt2).2.1
      rw [hk i i0' hlt2, e12, e13]
      refine ⟨by omega, fun hne => ⟨by omega, hnext2 hlt2 _ ⟨by omega, hf2, hb, fun k k0 k1 k2 => ?_⟩⟩, fun he => ⟨by omega, by omega, by omega, by omega, S_unite hn (fun v' f' u' => ⟨by omega, hnext2 hlt2 _ ⟨by omega, fun a ha => by rw [f' a ha]; exact hf2 a ha, fun a a0 a1 => ?_, fun k k0 k1 k2 => ?_⟩⟩)⟩⟩
      · by_cases e : k = i
        · rw [e] at k2; exact absurd k2 hne
        · exact hc k k0 (by omega) k2
      · have hba := hb a a0 a1
        have hbl := hb (lo L i) (by omega) (by omega)
        have hbh := hb (hi L i) (by omega) (by omega)
        rw [u' a a0 a1]
        by_cases e : v25 195 a.toNat = max (v25 195 (lo L i).toNat) (v25 195 (hi L i).toNat)
        · rw [if_pos e]
          refine ⟨by omega, by omega, ?_⟩
          have hlh : cn (RK L d) (lo L i) (hi L i) := cn_one ⟨i, i0', hlt2, he, Or.inl ⟨rfl, rfl⟩⟩
          have c1 : cn (RK L d) (v25 195 (lo L i).toNat) (v25 195 (hi L i).toNat) := cn_trans (cn_symm hR hbl.2.2) (cn_trans hlh hbh.2.2)
          have c2 : cn (RK L d) (max (v25 195 (lo L i).toNat) (v25 195 (hi L i).toNat)) (min (v25 195 (lo L i).toNat) (v25 195 (hi L i).toNat)) := by
            rcases Int.le_total (v25 195 (lo L i).toNat) (v25 195 (hi L i).toNat) with h | h
            · rw [Int.max_eq_right h, Int.min_eq_left h]; exact cn_symm hR c1
            · rw [Int.max_eq_left h, Int.min_eq_right h]; exact c1
          have c3 := hba.2.2
          rw [e] at c3
          exact cn_trans c3 c2
        · rw [if_neg e]; exact hba
      · have hwk := w.1 k k0 (by omega)
        rw [u' (lo L k) (by omega) (by omega), u' (hi L k) (by omega) (by omega)]
        by_cases e : k = i
        · rw [e]
          rcases Int.le_total (v25 195 (lo L i).toNat) (v25 195 (hi L i).toNat) with h | h
          · rw [Int.max_eq_right h, Int.min_eq_left h, if_pos rfl]
            split <;> omega
          · rw [Int.max_eq_left h, Int.min_eq_right h, if_pos rfl]
            split <;> omega
        · rw [hc k k0 (by omega) k2]
  · rw [e16, upd2_at _ _ _ i0 a0]
    by_cases e : a = i
    · rw [if_pos e, e]
    · rw [if_neg e]; exact hz a a0 (by omega)
theorem S_merge {A : Net} {q : VT → Prop} (hA : okNet A) (hR : okR A.1 R) (hx : xNet v 10 A) (h195 : ∀ a : Int, 0 ≤ a → a < A.1 → v 195 a.toNat = rt A.1 R a)
    (hq : ∀ v' : VT, (∀ a, ¬ (10 ≤ a ∧ a ≤ 15) → v' a = v a) → xNet v' 10 (nr A.1 R A.1, tn (kd A.1 R) A.2.1, fun j => A.2.2 (ldr A.1 R j)) → q v') : P_X0_merge 10 v q := by
  have hn := hA.1
  have hlen := hA.2.1.2.2
  obtain ⟨hf, hs⟩ := kd_ok hn.1 hR
  have hnn : nr A.1 R A.1 ≤ A.1 := nr_le hn.1
  have hn0 : 0 ≤ nr A.1 R A.1 := nr_pos
  unfold P_X0_merge
  intro K47 hK47 X4 hX4
  have s1 : ∀ v4 : VT, (∀ a, a ≠ 11 → a ≠ 15 → v4 a = v a) → (∀ r : Int, 0 ≤ r → r < A.1 → rt A.1 R r = r → v4 15 r.toNat = nr A.1 R r) → (∀ j : Int, 0 ≤ j → j < nr A.1 R A.1 → v4 11 j.toNat = cx (A.2.2 (ldr A.1 R j))) → K47 (nr A.1 R A.1) v4 := by
    intro v4 f4 h15 h11
    apply hK47
    intro v49 e49 v59 e59
    have f59 : ∀ a, a ≠ 10 → v59 a = v4 a := fun a ha => by rw [e59, upd2_off _ _ _ ha, e49, upd2_off _ _ _ ha]
    have n49 : v49 10 1 = (A.2.1.length : Int) := by rw [e49, upd2_j, if_neg (by decide), f4 10 (by omega) (by omega)]; exact hx.1.2.1
    rw [n49]
    intro X65 hX65
    refine up2 (X := X65) (A.2.1.length : Int) (fun i v65 => 0 ≤ i ∧ (∀ a, a ≠ 10 → a ≠ 12 → a ≠ 13 → a ≠ 14 → v65 a = v4 a) ∧ xG v65 10 (nr A.1 R A.1) (tnk (kd A.1 R) A.2.1 i.toNat) ∧ ∀ j : Int, i ≤ j → j < A.2.1.length → v65 12 j.toNat = lo A.2.1 j ∧ v65 13 j.toNat = hi A.2.1 j ∧ v65 14 j.toNat = pr A.2.1 j) ?_ (by omega) ⟨by omega, fun a a0 _ _ _ => f59 a a0, ⟨by rw [e59, upd2_j, if_neg (by decide), e49, upd2_same], by rw [e59, upd2_same]; rfl, fun j j0 j1 => ?_⟩, fun j j0 j1 => ?_⟩
    · intro i v65 hle ⟨i0, hfr, hx3, hr⟩ hnext
      apply hX65
      refine ⟨fun hge => ?_, fun hlt => ?_⟩
      · rw [show i.toNat = A.2.1.length by omega, tnk_all] at hx3
        refine hq v65 (fun a ha => by rw [hfr a (by omega) (by omega) (by omega) (by omega), f4 a (by omega) (by omega)]) ⟨hx3, fun j j0 j1 => ?_⟩
        rw [hfr 11 (by omega) (by omega) (by omega) (by omega)]
        exact h11 j j0 j1
      · have hw := hA.2.1.1 i i0 hlt
        obtain ⟨hw3, hl3⟩ := tnk_wf hA.2.1 hf i.toNat (by omega)
        obtain ⟨r1, r2, r3⟩ := hr i (Int.le_refl _) hlt
        have q195 : ∀ a : Int, 0 ≤ a → a < A.1 → v65 195 a.toNat = rt A.1 R a := fun a a0 a1 => by rw [hfr 195 (by omega) (by omega) (by omega) (by omega), f4 195 (by omega) (by omega)]; exact h195 a a0 a1
        have rl1 := rt_le hR (i := lo A.2.1 i) (by omega)
        have rl2 := rt_le hR (i := hi A.2.1 i) (by omega)
        show (0 ≤ i ∧ i < 60) ∧ (0 ≤ v65 12 i.toNat ∧ v65 12 i.toNat < 24) ∧ (0 ≤ v65 195 (v65 12 i.toNat).toNat ∧ v65 195 (v65 12 i.toNat).toNat < 24) ∧ ∀ l5 : Int, l5 = v65 15 (v65 195 (v65 12 i.toNat).toNat).toNat → (0 ≤ i ∧ i < 60) ∧ (0 ≤ v65 13 i.toNat ∧ v65 13 i.toNat < 24) ∧ (0 ≤ v65 195 (v65 13 i.toNat).toNat ∧ v65 195 (v65 13 i.toNat).toNat < 24) ∧ ∀ l6 : Int, l6 = v65 15 (v65 195 (v65 13 i.toNat).toNat).toNat → _
        rw [r1, r2, q195 _ (by omega) (by omega), q195 _ (by omega) (by omega)]
        refine ⟨by omega, by omega, by omega, fun l5 e5 => ⟨by omega, by omega, by omega, fun l6 e6 => ?_⟩⟩
        rw [hfr 15 (by omega) (by omega) (by omega) (by omega), h15 _ (by omega) (by omega) (rt_rt hR (by omega))] at e5 e6
        have e5' : l5 = kd A.1 R (lo A.2.1 i) := e5
        have e6' : l6 = kd A.1 R (hi A.2.1 i) := e6
        subst e5' e6'
        have k1 := hf (lo A.2.1 i) (by omega) (by omega)
        have k2 := hf (hi A.2.1 i) (by omega) (by omega)
        have ki1 := kd_in hR (i := lo A.2.1 i) (by omega)
        have ki2 := kd_in hR (i := hi A.2.1 i) (by omega)
        have no : ¬ (kd A.1 R (lo A.2.1 i) ≠ -1 ∧ kd A.1 R (hi A.2.1 i) ≠ -1 ∧ kd A.1 R (lo A.2.1 i) ≠ kd A.1 R (hi A.2.1 i) ∧ ¬ adj (tnk (kd A.1 R) A.2.1 i.toNat) (kd A.1 R (lo A.2.1 i)) (kd A.1 R (hi A.2.1 i))) → X65 (i + 1) v65 := fun hno => hnext hlt _ ⟨by omega, hfr, by rw [tnk_s i0 hlt, stp_no hno]; exact hx3, fun j j0 j1 => hr j (by omega) j1⟩
        refine ⟨fun g1 => ⟨by omega, no (fun g => g.2.2.1 g1)⟩, fun g1 => ?_⟩
        refine S_findLine hw3 hx3 (fun g4 => ⟨fun g => absurd rfl g, fun _ => ⟨by omega, ?_⟩⟩) (fun k k0 k1 k2 => ⟨fun _ => ⟨by omega, no (fun g => g.2.2.2 ⟨k, k0, k1, k2⟩)⟩, fun g => by omega⟩)
        show P_X0_addLine 10 _ _ (v65 14 i.toNat) v65 _
        rw [r3]
        refine S_addLine hx3 (by omega) (fun v' f' j' g' s' => ⟨by omega, hnext hlt _ ⟨by omega, fun a a0 a2 a3 a4 => by rw [f' a a0 a2 a3 a4]; exact hfr a a0 a2 a3 a4, by rw [tnk_s i0 hlt, stp_yes ⟨by omega, by omega, g1, g4⟩]; exact g', fun j j0 j1 => ?_⟩⟩)
        obtain ⟨s1, s2, s3⟩ := s' j.toNat (by omega)
        rw [s1, s2, s3]
        exact hr j (by omega) j1
    · have : j < 0 := j1
      omega
    · rw [f59 12 (by omega), f59 13 (by omega), f59 14 (by omega), f4 12 (by omega) (by omega), f4 13 (by omega) (by omega), f4 14 (by omega) (by omega)]; exact hx.1.2.2 j j0 j1
  refine up3m (X := X4) A.1 (fun i cnt v4 => 0 ≤ i ∧ cnt = nr A.1 R i ∧ (∀ a, a ≠ 11 → a ≠ 15 → v4 a = v a) ∧ (∀ r : Int, 0 ≤ r → r < i → rt A.1 R r = r → v4 15 r.toNat = nr A.1 R r) ∧ (∀ j : Int, 0 ≤ j → j < cnt → v4 11 j.toNat = cx (A.2.2 (ldr A.1 R j))) ∧ ∀ a : Int, i ≤ a → a < A.1 → v4 11 a.toNat = cx (A.2.2 a)) ?_ hn.1 ⟨by omega, rfl, fun a _ _ => rfl, fun r r0 r1 => by omega, fun j j0 j1 => by
      have : nr A.1 R 0 = 0 := rfl
      omega, fun a a0 a1 => hx.2 a a0 a1⟩
  intro cnt i v4 hle ⟨i0, hc, hfr, h15, h11, hrest⟩ hnext
  apply hX4
  have n4 : v4 10 0 = A.1 := by rw [hfr 10 (by omega) (by omega)]; exact hx.1.1
  have hcl : nr A.1 R i ≤ i := nr_le i0
  have hc0 : 0 ≤ nr A.1 R i := nr_pos
  rw [n4]
  refine ⟨fun hge => ?_, fun hlt => ?_⟩
  · have ei : i = A.1 := by omega
    rw [hc, ei]
    exact s1 v4 hfr (fun r r0 r1 r2 => h15 r r0 (by omega) r2) (fun j j0 j1 => h11 j j0 (by rw [hc, ei]; exact j1))
  · have e195 : v4 195 i.toNat = rt A.1 R i := by rw [hfr 195 (by omega) (by omega)]; exact h195 i i0 hlt
    rw [e195]
    refine ⟨by omega, fun hne => ⟨by omega, hnext hlt _ _ ⟨by omega, by rw [hc, nr_out i0 hne], hfr, fun r r0 r1 r2 => ?_, h11, fun a a0 a1 => hrest a (by omega) a1⟩⟩, fun he => ⟨by omega, fun v25 e25 => ⟨by omega, by omega, fun v37 e37 => ⟨by omega, by omega, hnext hlt _ _ ⟨by omega, by rw [hc, nr_in i0 he], fun a a1 a2 => ?_, fun r r0 r1 r2 => ?_, fun j j0 j1 => ?_, fun a a0 a1 => ?_⟩⟩⟩⟩⟩
    · by_cases e : r = i
      · rw [e] at r2; exact absurd r2 hne
      · exact h15 r r0 (by omega) r2
    · rw [e37, upd2_off _ _ _ a1, e25, upd2_off _ _ _ a2]; exact hfr a a1 a2
    · show v37 15 r.toNat = _
      rw [e37, upd2_off _ _ _ (by omega), e25]
      show upd2 v4 15 i.toNat cnt 15 r.toNat = _
      rw [upd2_at _ _ _ i0 r0]
      by_cases e : r = i
      · rw [if_pos e, e, hc]
      · rw [if_neg e]; exact h15 r r0 (by omega) r2
    · show v37 11 j.toNat = _
      rw [e37]
      show upd2 v25 11 cnt.toNat (v25 11 i.toNat) 11 j.toNat = _
      rw [upd2_at _ _ _ (by omega) j0]
      by_cases e : j = cnt
      · rw [if_pos e, e25, upd2_off _ _ _ (by omega)]
        have : ldr A.1 R j = i := ldr_is ⟨i0, hlt, he, by rw [e, hc]⟩
        rw [this]
        exact hrest i (Int.le_refl _) hlt
      · rw [if_neg e, e25, upd2_off _ _ _ (by omega)]; exact h11 j j0 (by omega)
    · show v37 11 a.toNat = _
      rw [e37]
      show upd2 v25 11 cnt.toNat (v25 11 i.toNat) 11 a.toNat = _
      rw [upd2_at _ _ _ (by omega) (by omega), if_neg (by omega), e25, upd2_off _ _ _ (by omega)]
      exact hrest a (by omega) a1
end Press
section Press2
variable {v : VT} {t d : Int} {A : Net} {T : Vt} {F : Int × Int} {V : Vt} {S : Se} {c : Int} {P : Vt} {R : Nat → Int} {H : Hs}
theorem X_pressKind {q : VT → Prop} (hA : okNet A) (hX : IX v A T F V S c P R H) (hk : kOKx v A.2.1) (hq : ∀ v2, IX v2 (netQ A d) T F V S c P R H → q v2) : P_X10_pressKind d v q := by
  unfold P_X10_pressKind
  refine S_gather hA.2.1 hA.1 hX.1.1 hk.2.1 (fun v1 f1 g1 => ?_)
  refine S_merge hA (RK_ok hA.2.1 d) (xNet_fr (IX_xn hX) (fun a ha => f1 a (by omega))) g1 (fun v2 f2 x2 => X_new (A' := netQ A d) hX (fun a ha => by rw [f2 a (by omega), f1 a (by omega)]) x2 (fun v3 x3 _ => hq v3 x3))
end Press2

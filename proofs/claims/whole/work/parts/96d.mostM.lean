/-! ===== most ===== -/
noncomputable def mx (n : Int) (L : List Ln) : Int := Classical.epsilon (isM n L)
noncomputable def sp_most (n : Int) (L : List Ln) (x : Int) : Int := @ite _ (st n L ∧ 0 ≤ x ∧ x ≤ 1) (Classical.propDecidable _) (if x = 0 then pc (mx n L) else mx n L) (-1)
def wgt (g : Nat) : Nat := 2 ^ (g + 1) - 1
section MostM
variable {n : Int} {L : List Ln} {v : VT}
theorem mx_is {z : Int} (h : isM n L z) : mx n L = z := isM_one (Classical.epsilon_spec (p := isM n L) ⟨z, h⟩) h
theorem clq_0 : clq n L 0 := ⟨by omega, fun k g => by rw [tb_0] at g; exact absurd g (by decide), fun i j _ g => by rw [tb_0] at g; exact absurd g (by decide)⟩
theorem pc_D (hD : kc L ≤ 23) {z : Int} (h : ∀ k : Nat, tb z k = true → (k : Int) < kc L) : pc z ≤ kc L := by
  have hk0 := kc_pos (L := L)
  have h1 := pc_sub (x := z) (y := bs (kc L) (fun _ => True)) (fun k g => (bs_tb (by omega) _ k).mpr ⟨h k g, trivial⟩)
  have h2 := pc_le (n := kc L) (by omega) (fun _ => True)
  omega
theorem SX_most {x : Int} {q : Int → VT → Prop} (w : wfL n L) (hn : 0 ≤ n ∧ n ≤ 24) (h : XC v n L) (hq : ∀ v', XF v v' → XC v' n L → q (sp_most n L x) v') : P_X10_most x v q := by
  unfold P_X10_most
  have no : ∀ v', XF v v' → XC v' n L → ¬ (st n L ∧ 0 ≤ x ∧ x ≤ 1) → q (-1) v' := fun v' f c hc => by
    have := hq v' f c
    unfold sp_most at this; rwa [if_neg hc] at this
  refine ⟨fun h1 => no v (XF_rf v) h (fun g => by have := g.2; omega), fun h1 => ⟨fun h2 => no v (XF_rf v) h (fun g => by have := g.2; omega), fun h2 => S_seat w hn h (fun v1 f1 c1 _ _ _ _ s1 => ?_)⟩⟩
  rcases s1.2.2.2 with ⟨a1, a2, a3, a4, a5, a6, a7⟩ | ⟨a1, a2, a3⟩
  · rw [a1]
    refine ⟨fun _ => ?_, fun g => absurd g (by decide)⟩
    have hD : kc L ≤ 23 := by omega
    have hk0 := kc_pos (L := L)
    unfold P_X7_findCrossing
    intro K66 hK66 X2 hX2
    have fin : ∀ v66 : VT, (∀ a, a ≠ 203 → a ≠ 204 → v66 a = v1 a) → (∀ d e : Nat, (d : Int) < kc L → (tb (v66 204 d) e = true ↔ (e : Int) < kc L ∧ e ≠ d ∧ np n L (d : Int) (e : Int) = 4)) → K66 v66 := by
      intro v66 f66 hfr
      apply hK66
      intro v68 e68 v73 e73
      have f73 : ∀ a, a ≠ 203 → v73 a = v66 a := fun a ha => by rw [e73, upd2_off _ _ _ ha, e68, upd2_off _ _ _ ha]
      have b0 : v73 203 0 = -1 := by rw [e73, upd2_j, if_neg (by decide), e68, upd2_same]
      have b1 : v73 203 1 = 0 := by rw [e73, upd2_same]
      have e6 : v73 197 6 = kc L := by rw [f73 197 (by omega), f66 197 (by omega) (by omega)]; exact a5
      rw [e6]
      refine S_allBits (by omega) ?_
      have hall := bs_all (n := kc L) (by omega)
      have hbit : ∀ k : Nat, tb (i_shl 1 (kc L) - 1) k = true ↔ (k : Int) < kc L := fun k => by rw [hall, bs_tb (by omega)]; exact ⟨fun g => g.1, fun g => ⟨g, trivial⟩⟩
      have hra := r_all (n := kc L) (by omega)
      have hpca : pc (i_shl 1 (kc L) - 1) ≤ kc L := by rw [hall]; exact (pc_le (by omega) _).2
      refine S_addC hD 64 0 _ (kc L) v73 _ (by omega) (by omega) hpca clq_0 (by rw [hall]; exact bs_small (by omega) _) (fun k g => (hbit k).mp g) (fun k j _ g => by rw [tb_0] at g; exact absurd g (by decide)) (fun d e hd => by rw [f73 204 (by omega)]; exact hfr d e hd) (fun v2 f2 r2 => ?_)
      rw [b0, b1] at r2
      have allx : ∀ z, clq n L z → ext n L 0 (i_shl 1 (kc L) - 1) z := fun z hz => ⟨hz, fun k g => by rw [tb_0] at g; exact absurd g (by decide), fun k g => Or.inr ((hbit k).mpr (hz.2.1 k g))⟩
      rcases r2 with ⟨-, -, hle⟩ | ⟨-, he, hp, hm⟩
      · have := hle 0 (allx 0 clq_0)
        have := pc_r 0
        omega
      · have hM : isM n L (v2 203 1) := ⟨he.1, fun y hy => hm y (allx y hy)⟩
        have emx := mx_is hM
        have ff : ∀ a, a ≠ 203 → a ≠ 204 → v2 a = v1 a := fun a a3 a4 => by rw [f2 a a3, f73 a a3, f66 a a3 a4]
        have hq2 := hq v2 (fun a ha => by rw [ff a (by omega) (by omega)]; exact f1 a ha) (XC_frame hn.2 c1 (fun a ha => ff a (by omega) (by omega)))
        unfold sp_most at hq2
        rw [if_pos ⟨a2, h1, h2⟩, emx] at hq2
        show (¬ x = 0 → q (v2 203 1) v2) ∧ (x = 0 → q (v2 203 0) v2)
        rw [← hp]
        refine ⟨fun g => ?_, fun g => ?_⟩
        · rwa [if_neg g] at hq2
        · rwa [if_pos g] at hq2
    refine up2 (X := X2) (kc L) (fun i v2 => 0 ≤ i ∧ (∀ a, a ≠ 203 → a ≠ 204 → v2 a = v1 a) ∧ ∀ d e : Nat, (d : Int) < i → (tb (v2 204 d) e = true ↔ (e : Int) < kc L ∧ e ≠ d ∧ np n L (d : Int) (e : Int) = 4)) ?_ hk0 ⟨by omega, fun a _ _ => rfl, fun d e hd => by omega⟩
    intro i v2 hle ⟨i0, hf, hz⟩ hnext
    apply hX2
    rw [hf 197 (by omega) (by omega), a5]
    refine ⟨fun hge => fin v2 hf (fun d e hd => hz d e (by omega)), fun hlt => ⟨by omega, fun v16 e16 => ?_⟩⟩
    intro X19 hX19
    refine up2 (X := X19) (kc L) (fun j v19 => 0 ≤ j ∧ (∀ a, a ≠ 203 → a ≠ 204 → v19 a = v1 a) ∧ (∀ d e : Nat, (d : Int) < i → (tb (v19 204 d) e = true ↔ (e : Int) < kc L ∧ e ≠ d ∧ np n L (d : Int) (e : Int) = 4)) ∧ ∀ e : Nat, tb (v19 204 i.toNat) e = true ↔ (e : Int) < j ∧ (e : Int) ≠ i ∧ np n L i (e : Int) = 4) ?_ hk0 ⟨by omega, fun a a3 a4 => by rw [e16, upd2_off _ _ _ a4]; exact hf a a3 a4, fun d e hd => by rw [e16, upd2_j, if_neg (by omega)]; exact hz d e hd, fun e => by rw [e16, upd2_same, tb_0]; exact ⟨fun g => absurd g (by decide), fun g => by have := g.1; omega⟩⟩
    intro j v19 hle2 ⟨j0, hf2, hz2, hz3⟩ hnext2
    apply hX19
    rw [hf2 197 (by omega) (by omega), a5]
    have skip : j < kc L → ¬ (j ≠ i ∧ np n L i j = 4) → (-2147483648 ≤ j + 1 ∧ j + 1 ≤ 2147483647) ∧ X19 (j + 1) v19 := fun hlt2 hno => ⟨by omega, hnext2 hlt2 _ ⟨by omega, hf2, hz2, fun e => by
      rw [hz3 e]
      constructor
      · intro g; exact ⟨by omega, g.2⟩
      · intro g
        refine ⟨?_, g.2⟩
        by_cases e1 : (e : Int) = j
        · rw [e1] at g; exact absurd g.2 hno
        · have := g.1; omega⟩⟩
    refine ⟨fun hge => ⟨by omega, hnext hlt _ ⟨by omega, hf2, fun d e hd => ?_⟩⟩, fun hlt2 => ⟨fun he => skip hlt2 (fun g => g.1 he), fun hne => ?_⟩⟩
    · by_cases e1 : (d : Int) = i
      · rw [show d = i.toNat by omega, hz3 e, Int.toNat_of_nonneg i0]
        exact ⟨fun g => ⟨by omega, fun g2 => g.2.1 (by omega), g.2.2⟩, fun g => ⟨by omega, fun g2 => g.2.1 (by omega), g.2.2⟩⟩
      · exact hz2 d e (by omega)
    · refine S_countPairs hn (by rw [hf2 197 (by omega) (by omega)]; exact s1.1) hD (fun d d0 d1 => by rw [hf2 199 (by omega) (by omega)]; exact a7 d d0 d1) ⟨i0, hlt⟩ ⟨j0, hlt2⟩ ⟨fun g => skip hlt2 (fun g2 => g g2.2), fun g => ⟨by omega, by omega, fun v53 e53 => ⟨by omega, hnext2 hlt2 _ ⟨by omega, fun a a3 a4 => by rw [e53, upd2_off _ _ _ a4]; exact hf2 a a3 a4, fun d e hd => by rw [e53, upd2_j, if_neg (by omega)]; exact hz2 d e hd, fun e => ?_⟩⟩⟩⟩
      rw [e53, upd2_same, tb_or, Bool.or_eq_true, hz3 e, tb_shl1' (by omega), decide_eq_true_iff]
      constructor
      · rintro (k | k)
        · exact ⟨by omega, k.2⟩
        · rw [show (e : Int) = j by omega]; exact ⟨by omega, hne, g⟩
      · intro k
        by_cases e1 : (e : Int) = j
        · exact Or.inr (by omega)
        · exact Or.inl ⟨by have := k.1; omega, k.2⟩
  · rw [a1]
    exact ⟨fun g => absurd rfl g, fun _ => no v1 f1 c1 (fun g => a2 g.1)⟩
/-! ===== the reference ===== -/
def lev (n : Int) (L : List Ln) (v : VT) (i : Nat) : Prop := clq n L (v 233 i) ∧ pc (v 233 i) = (i : Int) ∧ (0 ≤ v 232 i ∧ v 232 i < 16777216) ∧ (∀ k : Nat, tb (v 232 i) k = true → (k : Int) < kc L) ∧ ∀ k j : Nat, tb (v 232 i) k = true → tb (v 233 i) j = true → j < k ∧ cr n L j k
def rem (n : Int) (L : List Ln) (v : VT) (i : Nat) (z : Int) : Prop := clq n L z ∧ (∀ k : Nat, tb (v 233 i) k = true → tb z k = true) ∧ (∀ k : Nat, tb z k = true → tb (v 233 i) k = true ∨ tb (v 232 i) k = true) ∧ z ≠ v 233 i
theorem lev_fr {v v' : VT} {i : Nat} (h : lev n L v i) (h1 : v' 232 i = v 232 i) (h2 : v' 233 i = v 233 i) : lev n L v' i := by unfold lev; rw [h1, h2]; exact h
theorem rem_fr {v v' : VT} {i : Nat} {z : Int} (h : rem n L v i z) (h1 : v' 232 i = v 232 i) (h2 : v' 233 i = v 233 i) : rem n L v' i z := by unfold rem; rw [h1, h2]; exact h
theorem wgt_two {g g' : Nat} (h : g' ≤ g) : wgt g + wgt g' < wgt (g + 1) := by
  unfold wgt
  have h1 : 2 ^ (g' + 1) ≤ 2 ^ (g + 1) := Nat.pow_le_pow_right (by decide) (by omega)
  have h2 : 2 ^ (g + 1 + 1) = 2 ^ (g + 1) * 2 := Nat.pow_succ ..
  have h3 : 0 < 2 ^ (g + 1) := Nat.pow_pos (by decide)
  have h4 : 0 < 2 ^ (g' + 1) := Nat.pow_pos (by decide)
  omega
theorem le2_trans {a b c : Int} (h1 : le2 a b) (h2 : le2 b c) : le2 a c := by unfold le2 at *; omega
theorem S_mostC {q : Int → VT → Prop} (w : wfL n L) (hn : 0 ≤ n ∧ n ≤ 24) (hD : kc L ≤ 23) (hg : mG v 222 n L) (h18 : v 218 18 = kc L) (h8 : ∀ c : Int, 0 ≤ c → c < n → v 228 c.toNat = sd L (kc L) c) (hq : ∀ v' z, (∀ a, a ≠ 232 → a ≠ 233 → v' a = v a) → isM n L z → q z v') : P_X11_mostCrossing v q := by
  have hk0 := kc_pos (L := L)
  have hra := r_all (n := kc L) (by omega)
  have hall := bs_all (n := kc L) (by omega)
  have hbit : ∀ k : Nat, tb (i_shl 1 (kc L) - 1) k = true ↔ (k : Int) < kc L := fun k => by rw [hall, bs_tb (by omega)]; exact ⟨fun g => g.1, fun g => ⟨g, trivial⟩⟩
  unfold P_X11_mostCrossing
  rw [h18]
  refine ⟨by omega, fun v17 e17 v24 e24 => ?_⟩
  have g0 : v24 232 0 = i_shl 1 (kc L) - 1 := by rw [e24, upd2_off _ _ _ (by omega), e17, upd2_same]
  have c0 : v24 233 0 = 0 := by rw [e24, upd2_same]
  intro X25 hX25
  refine wh3 (X := X25) (fun best deep v25 => (∀ a, a ≠ 232 → a ≠ 233 → v25 a = v a) ∧ clq n L best ∧ (-1 ≤ deep ∧ deep ≤ 23) ∧ (∀ i : Nat, (i : Int) ≤ deep → lev n L v25 i) ∧ ∀ z, clq n L z → le2 best z ∨ ∃ i : Nat, (i : Int) ≤ deep ∧ rem n L v25 i z) (fun _ deep v25 => fb_sm (fun i => wgt (pc (v25 232 i)).toNat) (deep + 1).toNat) ?_ ⟨fun a a2 a3 => by rw [e24, upd2_off _ _ _ a3, e17, upd2_off _ _ _ a2], clq_0, by omega, fun i hi' => ?_, fun z hz => ?_⟩
  · intro best deep v25 ⟨hf, hb, hdp, hlev, hall2⟩ hnext
    apply hX25
    refine ⟨fun hneg => hq v25 best hf ⟨hb, fun y hy => ?_⟩, fun hpos => ⟨by omega, fun hgo => ?_, fun hgo => ⟨by omega, hnext _ _ _ ⟨hf, hb, by omega, fun i hi' => hlev i (by omega), fun z hz => ?_⟩ ?_⟩⟩⟩
    · rcases hall2 y hy with g | ⟨i, hi', -⟩
      · exact g
      · omega
    · obtain ⟨l1, l2, l3, l4, l5⟩ := hlev deep.toNat (by omega)
      intro K65 hK65 X46 hX46
      have fin : ∀ d : Nat, d < 24 → tb (v25 232 deep.toNat) d = true → (∀ k : Nat, k < d → tb (v25 232 deep.toNat) k = false) → K65 (d : Int) := by
        intro d hd24 hbd hlow
        have hdD := l4 d hbd
        apply hK65
        refine ⟨by omega, by omega, fun v78 e78 => ⟨by omega, fun l4' el4 => ?_⟩⟩
        have ch78 : v78 233 = v25 233 := by rw [e78]; exact upd2_off _ _ _ (by omega)
        rw [ch78] at el4
        have tset : ∀ k : Nat, tb l4' k = true ↔ tb (v25 233 deep.toNat) k = true ∨ k = d := fun k => by rw [el4]; exact tb_ins (by omega)
        have hnd : tb (v25 233 deep.toNat) d = false := Bool.eq_false_iff.mpr (fun g => by have := (l5 d d hbd g).1; omega)
        have cset : clq n L l4' := by
          refine ⟨set_r (by rw [el4]; exact r32_or _ _) (fun k g => by rcases (tset k).mp g with k2 | k2; (have := l1.2.1 k k2; omega); omega), fun k g => by rcases (tset k).mp g with k2 | k2; exact l1.2.1 k k2; (rw [k2]; exact hdD), fun x y hxy g1 g2 => ?_⟩
          rcases (tset x).mp g1 with x1 | x1
          · rcases (tset y).mp g2 with y1 | y1
            · exact l1.2.2 x y hxy x1 y1
            · rw [y1]; exact (l5 d x hbd x1).2
          · rcases (tset y).mp g2 with y1 | y1
            · have := (l5 d y hbd y1).1; omega
            · omega
        have pset : pc l4' = deep + 1 := by rw [el4, pc_in hd24 hnd, l2]; omega
        have hdeep : deep + 1 ≤ 23 := by have := pc_D hD cset.2.1; omega
        have tgo : ∀ k : Nat, tb (v78 232 deep.toNat) k = true ↔ tb (v25 232 deep.toNat) k = true ∧ k ≠ d := fun k => by rw [e78, upd2_same]; exact tb_del (by omega)
        -- with a new best
        have go : ∀ best' : Int, clq n L best' → le2 best' best → le2 best' l4' → (-2147483648 ≤ deep + 1 ∧ deep + 1 ≤ 2147483647) ∧ (0 ≤ (deep + 1) ∧ (deep + 1) < 25) ∧ ∀ v134 : VT, v134 = upd2 v78 233 (deep + 1).toNat l4' → (0 ≤ (deep + 1) ∧ (deep + 1) < 25) ∧ ∀ v141 : VT, v141 = upd2 v134 232 (deep + 1).toNat 0 → (-2147483648 ≤ (d : Int) + 1 ∧ (d : Int) + 1 ≤ 2147483647) ∧ ∀ X147 : Int → VT → Prop, (∀ (i5 : Int) (v147 : VT), (((v147 218 18) ≤ i5) → X25 best' (deep + 1) v147) ∧ ((i5 < (v147 218 18)) → (-2147483648 ≤ (deep + 1) - 1 ∧ (deep + 1) - 1 ≤ 2147483647) ∧ (0 ≤ ((deep + 1) - 1) ∧ ((deep + 1) - 1) < 25) ∧ P_X11_isOf (v147 232 ((deep + 1) - 1).toNat) i5 v147 (fun r166 => ((r166 = 0) → (-2147483648 ≤ i5 + 1 ∧ i5 + 1 ≤ 2147483647) ∧ X147 (i5 + 1) v147) ∧ ((¬ r166 = 0) → P_X11_pairsOf (d : Int) i5 v147 (fun r176 => ((¬ r176 = 4) → (-2147483648 ≤ i5 + 1 ∧ i5 + 1 ≤ 2147483647) ∧ X147 (i5 + 1) v147) ∧ ((r176 = 4) → (0 ≤ (deep + 1) ∧ (deep + 1) < 25) ∧ (0 ≤ (deep + 1) ∧ (deep + 1) < 25) ∧ ∀ v195 : VT, v195 = upd2 v147 232 (deep + 1).toNat (i_or (v147 232 (deep + 1).toNat) (i_shl 1 i5)) → (-2147483648 ≤ i5 + 1 ∧ i5 + 1 ≤ 2147483647) ∧ X147 (i5 + 1) v195))))) → X147 i5 v147) → X147 ((d : Int) + 1) v141 := by
          intro best' hb' hbb hbs
          refine ⟨by omega, by omega, fun v134 e134 => ⟨by omega, fun v141 e141 => ⟨by omega, fun X147 hX147 => ?_⟩⟩⟩
          have f141 : ∀ a, a ≠ 232 → a ≠ 233 → v141 a = v a := fun a a2 a3 => by rw [e141, upd2_off _ _ _ a2, e134, upd2_off _ _ _ a3, e78, upd2_off _ _ _ a2]; exact hf a a2 a3
          have g141 : ∀ i : Nat, i ≠ (deep + 1).toNat → v141 232 i = v78 232 i := fun i hi' => by rw [e141, upd2_j, if_neg hi', e134, upd2_off _ _ _ (by omega)]
          have c141 : ∀ i : Nat, v141 233 i = if i = (deep + 1).toNat then l4' else v25 233 i := fun i => by rw [e141, upd2_off _ _ _ (by omega), e134, upd2_j, ch78]
          refine up2 (X := X147) (kc L) (fun e5 v147 => (d : Int) + 1 ≤ e5 ∧ (∀ a, a ≠ 232 → v147 a = v141 a) ∧ (∀ i : Nat, i ≠ (deep + 1).toNat → v147 232 i = v141 232 i) ∧ r32 (v147 232 (deep + 1).toNat) ∧ ∀ k : Nat, tb (v147 232 (deep + 1).toNat) k = true ↔ (d < k ∧ (k : Int) < e5) ∧ tb (v78 232 deep.toNat) k = true ∧ np n L (d : Int) (k : Int) = 4) ?_ (by omega) ⟨by omega, fun a _ => rfl, fun i _ => rfl, by rw [e141, upd2_same]; unfold r32; omega, fun k => by rw [e141, upd2_same, tb_0]; exact ⟨fun g => absurd g (by decide), fun g => by have := g.1; omega⟩⟩
          intro e5 v147 hle5 ⟨he5, hf5, hg5, hr5, ht5⟩ hnext5
          apply hX147
          have n18 : v147 218 18 = kc L := by rw [hf5 218 (by omega), f141 218 (by omega) (by omega)]; exact h18
          rw [n18]
          have go78 : v147 232 ((deep + 1) - 1).toNat = v78 232 deep.toNat := by rw [show ((deep + 1) - 1).toNat = deep.toNat by omega, hg5 deep.toNat (by omega), g141 deep.toNat (by omega)]
          have skip : e5 < kc L → ¬ (tb (v78 232 deep.toNat) e5.toNat = true ∧ np n L (d : Int) e5 = 4) → (-2147483648 ≤ e5 + 1 ∧ e5 + 1 ≤ 2147483647) ∧ X147 (e5 + 1) v147 := fun hlt5 hno => ⟨by omega, hnext5 hlt5 _ ⟨by omega, hf5, hg5, hr5, fun k => by
            rw [ht5 k]
            constructor
            · intro g; exact ⟨⟨g.1.1, by omega⟩, g.2⟩
            · intro g
              by_cases e1 : (k : Int) = e5
              · rw [e1, show k = e5.toNat by omega] at g; exact absurd g.2 hno
              · exact ⟨⟨g.1.1, by have := g.1.2; omega⟩, g.2⟩⟩⟩
          refine ⟨fun hge5 => ?_, fun hlt5 => ⟨by omega, by omega, ?_⟩⟩
          · -- the next level stands
            have hcell : ∀ i : Nat, i ≠ (deep + 1).toNat → i ≠ deep.toNat → v147 232 i = v25 232 i := fun i a1 a2 => by rw [hg5 i a1, g141 i a1, e78, upd2_j, if_neg a2]
            have hch : ∀ i : Nat, v147 233 i = if i = (deep + 1).toNat then l4' else v25 233 i := fun i => by rw [hf5 233 (by omega), c141 i]
            have hchd : v147 233 deep.toNat = v25 233 deep.toNat := by rw [hch, if_neg (by omega)]
            have hchn : v147 233 (deep + 1).toNat = l4' := by rw [hch, if_pos rfl]
            have hgod : v147 232 deep.toNat = v78 232 deep.toNat := by rw [hg5 deep.toNat (by omega), g141 deep.toNat (by omega)]
            have htn : ∀ k : Nat, tb (v147 232 (deep + 1).toNat) k = true ↔ d < k ∧ tb (v78 232 deep.toNat) k = true ∧ np n L (d : Int) (k : Int) = 4 := fun k => by
              rw [ht5 k]
              exact ⟨fun g => ⟨g.1.1, g.2⟩, fun g => ⟨⟨g.1, by have := l4 k ((tgo k).mp g.2.1).1; omega⟩, g.2⟩⟩
            have hrn : 0 ≤ v147 232 (deep + 1).toNat ∧ v147 232 (deep + 1).toNat < 16777216 := set_r hr5 (fun k g => by have := l4 k ((tgo k).mp ((htn k).mp g).2.1).1; omega)
            have hr78 : 0 ≤ v78 232 deep.toNat ∧ v78 232 deep.toNat < 16777216 := set_r (by rw [e78, upd2_same]; exact r32_and _ _) (fun k g => by have := l4 k ((tgo k).mp g).1; omega)
            have levd : lev n L v147 deep.toNat := by
              unfold lev
              rw [hchd, hgod]
              exact ⟨l1, l2, hr78, fun k g => l4 k ((tgo k).mp g).1, fun k j g1 g2 => l5 k j ((tgo k).mp g1).1 g2⟩
            have levn : lev n L v147 (deep + 1).toNat := by
              unfold lev
              rw [hchn]
              refine ⟨cset, by rw [pset]; omega, hrn, fun k g => l4 k ((tgo k).mp ((htn k).mp g).2.1).1, fun k j g1 g2 => ?_⟩
              obtain ⟨k1, k2, k3⟩ := (htn k).mp g1
              rcases (tset j).mp g2 with j1 | j1
              · exact l5 k j ((tgo k).mp k2).1 j1
              · rw [j1]; exact ⟨k1, k3⟩
            refine hnext _ _ _ ⟨fun a a2 a3 => by rw [hf5 a a2]; exact f141 a a2 a3, hb', by omega, fun i hi' => ?_, fun z hz => ?_⟩ ?_
            · by_cases e1 : i = (deep + 1).toNat
              · rw [e1]; exact levn
              · by_cases e2 : i = deep.toNat
                · rw [e2]; exact levd
                · exact lev_fr (hlev i (by omega)) (hcell i e1 e2) (by rw [hch, if_neg e1])
            · rcases hall2 z hz with g | ⟨i, hi', g⟩
              · exact Or.inl (le2_trans hbb g)
              · by_cases e2 : i = deep.toNat
                · rw [e2] at g
                  obtain ⟨g1, g2, g3, g4⟩ := g
                  by_cases hzd : tb z d = true
                  · by_cases hzs : z = l4'
                    · exact Or.inl (by rw [hzs]; exact hbs)
                    · refine Or.inr ⟨(deep + 1).toNat, by omega, g1, fun k gk => ?_, fun k gk => ?_, by rw [hchn]; exact hzs⟩
                      · rw [hchn] at gk
                        rcases (tset k).mp gk with k2 | k2
                        · exact g2 k k2
                        · rw [k2]; exact hzd
                      · rw [hchn]
                        by_cases hkd : k = d
                        · exact Or.inl ((tset k).mpr (Or.inr hkd))
                        · rcases g3 k gk with k2 | k2
                          · exact Or.inl ((tset k).mpr (Or.inl k2))
                          · right
                            have hlt : d < k := by
                              rcases Nat.lt_trichotomy k d with x | x | x
                              · rw [hlow k x] at k2; exact absurd k2 (by decide)
                              · exact absurd x hkd
                              · exact x
                            exact (htn k).mpr ⟨hlt, (tgo k).mpr ⟨k2, hkd⟩, g1.2.2 d k hlt hzd gk⟩
                  · refine Or.inr ⟨deep.toNat, by omega, g1, fun k gk => by rw [hchd] at gk; exact g2 k gk, fun k gk => ?_, by rw [hchd]; exact g4⟩
                    rw [hchd, hgod]
                    rcases g3 k gk with k2 | k2
                    · exact Or.inl k2
                    · exact Or.inr ((tgo k).mpr ⟨k2, fun e => hzd (by rw [← e]; exact gk)⟩)
                · exact Or.inr ⟨i, by omega, rem_fr g (hcell i (by omega) e2) (by rw [hch, if_neg (by omega)])⟩
            · -- what is left to do falls
              have ed1 : (deep + 1 + 1).toNat = deep.toNat + 1 + 1 := by omega
              have ed2 : (deep + 1).toNat = deep.toNat + 1 := by omega
              rw [ed1, ed2, fb_sm_succ, fb_sm_succ, fb_sm_succ]
              have same : fb_sm (fun i => wgt (pc (v147 232 i)).toNat) deep.toNat = fb_sm (fun i => wgt (pc (v25 232 i)).toNat) deep.toNat := fb_sm_cong (fun i hi' => by show wgt (pc (v147 232 i)).toNat = wgt (pc (v25 232 i)).toNat; rw [hcell i (by omega) (by omega)])
              have p1 : pc (v147 232 deep.toNat) = pc (v25 232 deep.toNat) - 1 := by rw [hgod, e78, upd2_same]; exact pc_out hd24 hbd
              have p2 : pc (v147 232 (deep.toNat + 1)) ≤ pc (v147 232 deep.toNat) := by
                rw [← ed2, hgod]
                exact pc_sub (fun k g => ((htn k).mp g).2.1)
              have r1 := pc_r (v147 232 deep.toNat)
              have r2 := pc_r (v147 232 (deep.toNat + 1))
              have r3 := pc_r (v25 232 deep.toNat)
              have hw := wgt_two (g := (pc (v147 232 deep.toNat)).toNat) (g' := (pc (v147 232 (deep.toNat + 1))).toNat) (by omega)
              rw [show (pc (v147 232 deep.toNat)).toNat + 1 = (pc (v25 232 deep.toNat)).toNat by omega] at hw
              rw [same]
              omega
          · rw [go78]
            refine S_isOf (by omega) (fun g => ⟨fun _ => skip hlt5 (fun k => by rw [g] at k; exact absurd k.1 (by decide)), fun k => absurd rfl k⟩) (fun g => ⟨fun k => absurd k (by decide), fun _ => ?_⟩)
            refine S_pairsOf hn (mG_frame hg (by rw [hf5 222 (by omega), f141 222 (by omega) (by omega)])) hD (fun c c0 c1 => by rw [hf5 228 (by omega), f141 228 (by omega) (by omega)]; exact h8 c c0 c1) ⟨by omega, hdD⟩ ⟨by omega, hlt5⟩ ⟨fun g4 => skip hlt5 (fun k => g4 k.2), fun g4 => ⟨by omega, by omega, fun v195 e195 => ⟨by omega, hnext5 hlt5 _ ⟨by omega, fun a ha => by rw [e195, upd2_off _ _ _ ha]; exact hf5 a ha, fun i hi' => by rw [e195, upd2_j, if_neg hi']; exact hg5 i hi', by rw [e195, upd2_same]; exact r32_or _ _, fun k => ?_⟩⟩⟩⟩
            rw [e195, upd2_same, tb_or, Bool.or_eq_true, ht5 k, tb_shl1' (by omega), decide_eq_true_iff]
            constructor
            · rintro (k1 | k1)
              · exact ⟨⟨k1.1.1, by omega⟩, k1.2⟩
              · rw [k1, Int.toNat_of_nonneg (by omega)]
                exact ⟨⟨by omega, by omega⟩, g, g4⟩
            · intro k1
              by_cases e1 : (k : Int) = e5
              · exact Or.inr (by omega)
              · exact Or.inl ⟨⟨k1.1.1, by have := k1.1.2; omega⟩, k1.2⟩
        have hpb := pc_r best
        refine S_count (S_count (fun K124 hK124 K121 hK121 => ⟨fun g => hK121 (hK124 _ (go l4' cset (Or.inl g) (Or.inr ⟨rfl, Int.le_refl _⟩))), fun g => S_count (S_count ⟨fun g2 => hK124 _ (go best hb (Or.inr ⟨rfl, Int.le_refl _⟩) (Or.inl (by omega))), fun g2 => ⟨fun g3 => hK124 _ (go best hb (Or.inr ⟨rfl, Int.le_refl _⟩) (Or.inr ⟨g2, g3⟩)), fun g3 => hK121 (hK124 _ (go l4' cset (Or.inr ⟨g2.symm, by omega⟩) (Or.inr ⟨rfl, Int.le_refl _⟩)))⟩⟩)⟩))
      refine wh1 (X := X46) (fun i3 => 0 ≤ i3 ∧ ∀ k : Nat, (k : Int) < i3 → tb (v25 232 deep.toNat) k = false) (fun i3 => (24 - i3).toNat) ?_ ⟨by omega, fun k hk => by omega⟩
      intro i3 ⟨i30, hlow⟩ hnext3
      have hi24 : i3 < 24 := by
        rcases Int.lt_or_le i3 24 with k | k
        · exact k
        · exact absurd (pc_zero l3 (by unfold pc; rw [fb_ct_zero.mpr (fun j hj => hlow j (by omega))]; rfl)) hgo
      apply hX46
      refine ⟨by omega, S_isOf (by omega) (fun g => ⟨fun k => absurd rfl k, fun _ => ⟨by omega, hnext3 _ ⟨by omega, fun k hk => ?_⟩ (by omega)⟩⟩) (fun g => ⟨fun _ => ?_, fun k => absurd k (by decide)⟩)⟩
      · by_cases e1 : (k : Int) = i3
        · rw [show k = i3.toNat by omega]; exact g
        · exact hlow k (by omega)
      · have := fin i3.toNat (by omega) g (fun k hk => hlow k (by omega))
        rwa [Int.toNat_of_nonneg i30] at this
    · rcases hall2 z hz with g | ⟨i, hi', g⟩
      · exact Or.inl g
      · by_cases e1 : (i : Int) = deep
        · exfalso
          obtain ⟨g1, g2, g3, g4⟩ := g
          rw [show i = deep.toNat by omega] at g2 g3 g4
          obtain ⟨l1, -, -, -, -⟩ := hlev deep.toNat (by omega)
          refine g4 (set_ext g1.1 l1.1 (fun k => ⟨fun gk => ?_, g2 k⟩))
          rcases g3 k gk with k2 | k2
          · exact k2
          · rw [hgo, tb_0] at k2; exact absurd k2 (by decide)
        · exact Or.inr ⟨i, by omega, g⟩
    · rw [show (deep + -1 + 1).toNat = deep.toNat by omega, show (deep + 1).toNat = deep.toNat + 1 by omega, fb_sm_succ]
      have : 0 < wgt (pc (v25 232 deep.toNat)).toNat := by
        unfold wgt
        have : 2 ^ 1 ≤ 2 ^ ((pc (v25 232 deep.toNat)).toNat + 1) := Nat.pow_le_pow_right (by decide) (by omega)
        omega
      omega
  · rw [show i = 0 by omega]
    unfold lev
    rw [g0, c0]
    exact ⟨clq_0, by rw [pc_0]; rfl, by rw [hall]; exact bs_small (by omega) _, fun k g => (hbit k).mp g, fun k j _ g => by rw [tb_0] at g; exact absurd g (by decide)⟩
  · by_cases hz0 : z = 0
    · rw [hz0]; exact Or.inl (Or.inr ⟨rfl, Int.le_refl _⟩)
    · refine Or.inr ⟨0, by omega, hz, fun k g => ?_, fun k g => ?_, by rw [c0]; exact hz0⟩
      · rw [c0, tb_0] at g; exact absurd g (by decide)
      · rw [g0]; exact Or.inr ((hbit k).mpr (hz.2.1 k g))
theorem SM_most {x : Int} {q : Int → VT → Prop} (w : wfL n L) (hn : 0 ≤ n ∧ n ≤ 24) (h : MC v n L) (hq : ∀ v', MF v v' → MC v' n L → q (sp_most n L x) v') : P_X11_most x v q := by
  unfold P_X11_most
  refine S_sits w hn h (fun v1 f1 c1 l1 s1 => ⟨fun hst => ⟨fun g => absurd g (by decide), fun _ => ?_⟩, fun hst => ⟨fun _ => ?_, fun g => absurd rfl g⟩⟩)
  · obtain ⟨hp, hkc, h8⟩ := s1.2.2.2 hst.1
    have hD : kc L ≤ 23 := by have := hkc hst.2; omega
    refine S_isIn (fun g => ⟨fun k => absurd rfl k, fun _ => ?_⟩) (fun g => ⟨fun _ => S_mostC w hn hD c1.1 s1.1 h8 (fun v2 z f2 hz => ?_), fun k => absurd k (by decide)⟩)
    · have hq1 := hq v1 f1 c1
      unfold sp_most at hq1
      rwa [if_neg (fun k => g k.2)] at hq1
    · have hq2 := hq v2 (MF_trans f1 ⟨fun a ha => f2 a (by omega) (by omega), fun j _ _ _ => by rw [f2 218 (by omega) (by omega)]⟩) (MC_frame c1 (f2 222 (by omega) (by omega)) (fun a ha => f2 a (by omega) (by omega)) (fun j _ => by rw [f2 218 (by omega) (by omega)]))
      unfold sp_most at hq2
      rw [if_pos ⟨hst, g⟩, mx_is hz] at hq2
      refine ⟨fun k => by rwa [if_neg k] at hq2, fun k => S_count (by rwa [if_pos k] at hq2)⟩
  · have hq1 := hq v1 f1 c1
    unfold sp_most at hq1
    rwa [if_neg (fun k => hst k.1)] at hq1
theorem Q_most {v : VT} {t a : Int} (h : Inv t v) : P_X10_most a v (fun r v1 => P_X11_most a v1 (fun r' v2 => r = r' ∧ Inv (t + 1) v2)) := by
  obtain ⟨A, T, F, V, S, c, P, R, H, hA, hT, hX, hM⟩ := h
  exact q_two (fX := fun v q => P_X10_most a v q) (fM := fun v q => P_X11_most a v q) hA hT hX hM (fun q hq => SX_most hA.2.1 hA.1 hX.1 hq) (fun v1 q m1 hq => SM_most hA.2.1 hA.1 m1.1 hq)
end MostM

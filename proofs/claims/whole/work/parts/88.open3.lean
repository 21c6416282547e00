/-! ===== opened: the class ===== -/
section Open3
variable {v : VT} {t c x y : Int} {A : Net} {T : Vt} {F : Int × Int} {V : Vt} {S : Se} {P : Vt} {R : Nat → Int} {H : Hs}
theorem cop_facts (hA : okNet A) (hc : cop A x y) : (∀ a, ¬ (tb (i_and x y) a = true ∧ tb (i_and y (i_xor x (-1))) a = true)) ∧ A.1 + (fb_ct (tb (i_and x y)) A.1.toNat : Int) ≤ 24 ∧ A.2.1.length + fb_ct (inB (tb (i_and x y)) A.2.1) A.2.1.length + fb_ct (tb (i_and x y)) A.1.toNat ≤ 60 := by
  have hp := and_pc hA.1 hc.1
  have h1 := hc.2.2.2.1
  have h2 := hc.2.2.2.2
  refine ⟨fun a ⟨g1, g2⟩ => ?_, by omega, by omega⟩
  by_cases ha : a < 32
  · rw [tb_and, Bool.and_eq_true] at g1
    rw [tb_and, tb_not _ ha, Bool.and_eq_true, g1.1] at g2
    exact absurd g2.2 (by decide)
  · rw [tb_big (by omega)] at g1
    exact absurd g1 (by decide)
theorem okNet_O (hA : okNet A) (hc : cop A x y) : okNet (netO A (tb (i_and x y)) (tb (i_and y (i_xor x (-1))))) := by
  obtain ⟨h1, h2, h3⟩ := cop_facts hA hc
  have hn := hA.1
  refine ⟨⟨by show 0 ≤ A.1 + (fb_ct (tb (i_and x y)) A.1.toNat : Int); omega, h2⟩, tl_wf hA.2.1 h1 h3 A.1.toNat (by omega), fun i i0 i1 => ?_⟩
  show okN (if i < A.1 then A.2.2 i else [])
  split
  · rename_i g; exact hA.2.2 i i0 g
  · exact okN_nil
theorem X_double {q : VT → Prop} (hA : okNet A) (hc : cop A x y) (hX : IX v A T F V S c P R H) (hq : ∀ v2, IX v2 (netO A (tb (i_and x y)) (tb (i_and y (i_xor x (-1))))) T F V S c P R H → q v2) : P_X0_doubleAlong 10 x y v (fun v1 => P_X10_changed v1 q) := by
  obtain ⟨hBZ, h24, h60⟩ := cop_facts hA hc
  have hn := hA.1
  have w := hA.2.1
  have hlen := w.2.2
  have hg := hX.1.1
  unfold P_X0_doubleAlong
  rw [hg.1, hg.2.1]
  generalize i_and x y = bo at *
  generalize i_and y (i_xor x (-1)) = al at *
  intro K57 hK57 X19 hX19
  have s1 : ∀ v57 : VT, (∀ d, d ≠ 10 → d ≠ 11 → d ≠ 15 → v57 d = v d) → v57 10 0 = A.1 + (fb_ct (tb bo) A.1.toNat : Int) → v57 10 1 = (A.2.1.length : Int) → (∀ j : Int, 0 ≤ j → j < A.1 → tb bo j.toNat = true → v57 15 j.toNat = sec A.1 (tb bo) j) → nmX v57 10 (netO A (tb bo) (tb al)) → K57 v57 := by
    intro v57 f57 n57 l57 r57 nm57
    apply hK57
    intro K136 hK136 X60 hX60
    have s2 : ∀ v136 : VT, (∀ d, d ≠ 10 → d ≠ 12 → d ≠ 13 → d ≠ 14 → v136 d = v57 d) → xG v136 10 (A.1 + (fb_ct (tb bo) A.1.toNat : Int)) (A.2.1 ++ dl A.1 (tb bo) A.2.1 A.2.1.length) → K136 v136 := by
      intro v136 f136 x136
      apply hK136
      intro K164 hK164 X139 hX139
      have hdl := dl_len (n := A.1) (B := tb bo) (L := A.2.1) A.2.1.length
      have s3 : ∀ v164 : VT, (∀ d, d ≠ 10 → d ≠ 12 → d ≠ 13 → d ≠ 14 → v164 d = v57 d) → xG v164 10 (A.1 + (fb_ct (tb bo) A.1.toNat : Int)) (o1 A.1 (tb bo) (tb al) A.2.1 A.2.1.length ++ dl A.1 (tb bo) A.2.1 A.2.1.length) → K164 v164 := by
        intro v164 f164 x164
        apply hK164
        intro X167 hX167
        refine up2 (X := X167) A.1 (fun i v167 => 0 ≤ i ∧ (∀ d, d ≠ 10 → d ≠ 12 → d ≠ 13 → d ≠ 14 → v167 d = v57 d) ∧ xG v167 10 (A.1 + (fb_ct (tb bo) A.1.toNat : Int)) (o1 A.1 (tb bo) (tb al) A.2.1 A.2.1.length ++ dl A.1 (tb bo) A.2.1 A.2.1.length ++ tlo A.1 (tb bo) i.toNat)) ?_ hn.1 ⟨by omega, f164, by
          have e : tlo A.1 (tb bo) (0 : Int).toNat = [] := rfl
          rw [e, List.append_nil]; exact x164⟩
        intro i v167 hle ⟨i0, hf, hx⟩ hnext
        apply hX167
        refine ⟨fun hge => ?_, fun hlt => ?_⟩
        · rw [show i.toNat = A.1.toNat by omega] at hx
          refine X_new (A' := netO A (tb bo) (tb al)) hX (fun d hd => by rw [hf d (by omega) (by omega) (by omega) (by omega), f57 d (by omega) (by omega) (by omega)]) ⟨hx, ?_⟩ (fun v2 x2 _ => hq v2 x2)
          intro j j0 j1
          rw [hf 11 (by omega) (by omega) (by omega) (by omega)]
          exact nm57 j j0 j1
        · have esucc : (i + 1).toNat = i.toNat + 1 := by omega
          refine S_hasBit (by omega) (fun g => ⟨fun _ => ⟨by omega, hnext hlt _ ⟨by omega, hf, ?_⟩⟩, fun k => absurd rfl k⟩) (fun g => ⟨fun k => absurd k (by decide), fun _ => ⟨by omega, ?_⟩⟩)
          · have e2 : tlo A.1 (tb bo) (i.toNat + 1) = tlo A.1 (tb bo) i.toNat := if_neg (by rw [g]; decide)
            rw [esucc, e2]; exact hx
          · have e15 : v167 15 i.toNat = sec A.1 (tb bo) i := by rw [hf 15 (by omega) (by omega) (by omega) (by omega)]; exact r57 i i0 hlt g
            show P_X0_addLine 10 i (v167 15 i.toNat) 1 v167 _
            rw [e15]
            have hct := fb_ct_mono (tb bo) (show i.toNat + 1 ≤ A.1.toNat by omega)
            rw [fb_ct_succ, if_pos g] at hct
            refine S_addLine hx (by rw [List.length_append, List.length_append, o1_len, dl_len, tlo_len]; omega) (fun v' f' j' g' _ => ⟨by omega, hnext hlt _ ⟨by omega, fun d d0 d2 d3 d4 => by rw [f' d d0 d2 d3 d4]; exact hf d d0 d2 d3 d4, ?_⟩⟩)
            have e2 : tlo A.1 (tb bo) (i.toNat + 1) = addL (tlo A.1 (tb bo) i.toNat) ((i.toNat : Nat) : Int) (sec A.1 (tb bo) ((i.toNat : Nat) : Int)) 1 := if_pos g
            rw [esucc, e2, Int.toNat_of_nonneg i0, ← addL_app]; exact g'
      refine up2 (X := X139) (A.2.1.length : Int) (fun i v139 => 0 ≤ i ∧ (∀ d, d ≠ 12 → d ≠ 13 → v139 d = v136 d) ∧ ∀ k : Int, 0 ≤ k → k < (A.2.1.length : Int) + (fb_ct (inB (tb bo) A.2.1) A.2.1.length : Int) → (k < i → v139 12 k.toNat = lo (o1 A.1 (tb bo) (tb al) A.2.1 A.2.1.length) k ∧ v139 13 k.toNat = hi (o1 A.1 (tb bo) (tb al) A.2.1 A.2.1.length) k) ∧ (i ≤ k → v139 12 k.toNat = lo (A.2.1 ++ dl A.1 (tb bo) A.2.1 A.2.1.length) k ∧ v139 13 k.toNat = hi (A.2.1 ++ dl A.1 (tb bo) A.2.1 A.2.1.length) k)) ?_ (by omega) ⟨by omega, fun d _ _ => rfl, fun k k0 k1 => ⟨fun h => by omega, fun _ => ?_⟩⟩
      · intro i v139 hle ⟨i0, hf, hv⟩ hnext
        apply hX139
        refine ⟨fun hge => ?_, fun hlt => ?_⟩
        · refine s3 v139 (fun d d0 d2 d3 d4 => by rw [hf d d2 d3]; exact f136 d d0 d2 d3 d4) ⟨by rw [hf 10 (by omega) (by omega)]; exact x136.1, ?_, fun k k0 k1 => ?_⟩
          · rw [hf 10 (by omega) (by omega), x136.2.1, List.length_append, List.length_append, o1_len]
          · rw [List.length_append, o1_len, hdl] at k1
            have hk := hv k k0 (by omega)
            have h14 : v139 14 k.toNat = pr (A.2.1 ++ dl A.1 (tb bo) A.2.1 A.2.1.length) k := by
              rw [hf 14 (by omega) (by omega)]
              exact (x136.2.2 k k0 (by rw [List.length_append, hdl]; omega)).2.2
            show v139 12 k.toNat = _ ∧ v139 13 k.toNat = _ ∧ v139 14 k.toNat = _
            rw [h14]
            by_cases e : k < (A.2.1.length : Int)
            · obtain ⟨l1, l2, l3⟩ := ln_app1 (M := o1 A.1 (tb bo) (tb al) A.2.1 A.2.1.length) (D := dl A.1 (tb bo) A.2.1 A.2.1.length) k0 (by rw [o1_len]; exact e)
              obtain ⟨-, -, m3⟩ := ln_app1 (M := A.2.1) (D := dl A.1 (tb bo) A.2.1 A.2.1.length) k0 e
              have o := o1_at (n := A.1) (B := tb bo) (Z := tb al) (L := A.2.1) A.2.1.length k.toNat (by omega)
              rw [Int.toNat_of_nonneg k0] at o
              rw [l1, l2, l3, m3, o.2.2]
              exact ⟨(hk.1 (by omega)).1, (hk.1 (by omega)).2, rfl⟩
            · obtain ⟨l1, l2, l3⟩ := ln_app2 (M := o1 A.1 (tb bo) (tb al) A.2.1 A.2.1.length) (M' := A.2.1) (D := dl A.1 (tb bo) A.2.1 A.2.1.length) (o1_len _) (k := k) (by rw [o1_len]; omega)
              rw [l1, l2, l3]
              exact ⟨(hk.2 (by omega)).1, (hk.2 (by omega)).2, rfl⟩
        · have hw := w.1 i i0 hlt
          have hi1 := (hv i i0 (by omega)).2 (Int.le_refl _)
          obtain ⟨l1, l2, -⟩ := ln_app1 (M := A.2.1) (D := dl A.1 (tb bo) A.2.1 A.2.1.length) i0 hlt
          rw [l1, l2] at hi1
          have o := o1_at (n := A.1) (B := tb bo) (Z := tb al) (L := A.2.1) A.2.1.length i.toNat (by omega)
          rw [Int.toNat_of_nonneg i0] at o
          have f15 : ∀ j : Int, 0 ≤ j → j < A.1 → tb bo j.toNat = true → v139 15 j.toNat = sec A.1 (tb bo) j := fun j j0 j1 j2 => by rw [hf 15 (by omega) (by omega), f136 15 (by omega) (by omega) (by omega) (by omega)]; exact r57 j j0 j1 j2
          -- behind line i: what stands there now
          have fin : ∀ v2 : VT, (∀ d, d ≠ 12 → d ≠ 13 → v2 d = v139 d) → (∀ k : Nat, k ≠ i.toNat → v2 12 k = v139 12 k ∧ v2 13 k = v139 13 k) → v2 12 i.toNat = lo (o1 A.1 (tb bo) (tb al) A.2.1 A.2.1.length) i → v2 13 i.toNat = hi (o1 A.1 (tb bo) (tb al) A.2.1 A.2.1.length) i → (-2147483648 ≤ i + 1 ∧ i + 1 ≤ 2147483647) ∧ X139 (i + 1) v2 := by
            intro v2 f2 k2 e12 e13
            refine ⟨by omega, hnext hlt _ ⟨by omega, fun d d2 d3 => by rw [f2 d d2 d3]; exact hf d d2 d3, fun k k0 k1 => ?_⟩⟩
            have hk := hv k k0 k1
            by_cases e : k = i
            · rw [e]; exact ⟨fun _ => ⟨e12, e13⟩, fun g => by omega⟩
            · obtain ⟨q1, q2⟩ := k2 k.toNat (by omega)
              rw [q1, q2]
              exact ⟨fun g => hk.1 (by omega), fun g => hk.2 (by omega)⟩
          unfold P_X0_moveToSecond
          refine ⟨by omega, fun l4 e4 => ⟨by omega, fun l5 e5 => ?_⟩⟩
          have e4' : l4 = lo A.2.1 i := by rw [e4]; exact hi1.1
          have e5' : l5 = hi A.2.1 i := by rw [e5]; exact hi1.2
          subst e4' e5'
          have K : ¬ (tb bo (lo A.2.1 i).toNat = true ∧ tb al (hi A.2.1 i).toNat = true) → P_X10_hasBit bo (hi A.2.1 i) v139 (fun r61 => ((r61 = 0) → (-2147483648 ≤ i + 1 ∧ i + 1 ≤ 2147483647) ∧ X139 (i + 1) v139) ∧ ((¬ r61 = 0) → P_X10_hasBit al (lo A.2.1 i) v139 (fun r70 => ((r70 = 0) → (-2147483648 ≤ i + 1 ∧ i + 1 ≤ 2147483647) ∧ X139 (i + 1) v139) ∧ ((¬ r70 = 0) → (0 ≤ hi A.2.1 i ∧ hi A.2.1 i < 24) ∧ (0 ≤ i ∧ i < 60) ∧ ∀ v88 : VT, v88 = upd2 v139 13 i.toNat (v139 15 (hi A.2.1 i).toNat) → (-2147483648 ≤ i + 1 ∧ i + 1 ≤ 2147483647) ∧ X139 (i + 1) v88)))) := by
            intro hno
            have stay : ¬ (tb bo (hi A.2.1 i).toNat = true ∧ tb al (lo A.2.1 i).toNat = true) → (-2147483648 ≤ i + 1 ∧ i + 1 ≤ 2147483647) ∧ X139 (i + 1) v139 := fun hno2 => by
              refine fin v139 (fun d _ _ => rfl) (fun k _ => ⟨rfl, rfl⟩) ?_ ?_
              · rw [o.1, hi1.1]; unfold ex1; rw [if_neg hno, if_neg hno2]; omega
              · rw [o.2.1, hi1.2]; unfold ex1; rw [if_neg hno, if_neg hno2]; omega
            refine S_hasBit (by omega) (fun g => ⟨fun _ => stay (fun k => by rw [g] at k; exact absurd k.1 (by decide)), fun k => absurd rfl k⟩) (fun g => ⟨fun k => absurd k (by decide), fun _ => S_hasBit (by omega) (fun g2 => ⟨fun _ => stay (fun k => by rw [g2] at k; exact absurd k.2 (by decide)), fun k => absurd rfl k⟩) (fun g2 => ⟨fun k => absurd k (by decide), fun _ => ⟨by omega, by omega, fun v88 e88 => ?_⟩⟩)⟩)
            have hs := sec_r (n := A.1) (B := tb bo) (a := hi A.2.1 i) (by omega) g
            refine fin v88 (fun d d2 d3 => by rw [e88]; exact upd2_off _ _ _ d3) (fun k hk => ⟨by rw [e88, upd2_off _ _ _ (by omega)], by rw [e88, upd2_j, if_neg hk]⟩) ?_ ?_
            · rw [o.1, e88, upd2_off _ _ _ (by omega), hi1.1]; unfold ex1; rw [if_neg hno, if_pos ⟨g, g2⟩]; omega
            · rw [o.2.1, e88, upd2_same, f15 _ (by omega) (by omega) g]; unfold ex1; rw [if_neg hno, if_pos ⟨g, g2⟩]; omega
          refine S_hasBit (by omega) (fun g K58 hK58 => ⟨fun _ => hK58 (K (fun k => by rw [g] at k; exact absurd k.1 (by decide))), fun k => absurd rfl k⟩) (fun g K58 hK58 => ⟨fun k => absurd k (by decide), fun _ => S_hasBit (by omega) (fun g2 => ⟨fun _ => hK58 (K (fun k => by rw [g2] at k; exact absurd k.2 (by decide))), fun k => absurd rfl k⟩) (fun g2 => ⟨fun k => absurd k (by decide), fun _ => ⟨by omega, fun v41 e41 => ⟨by omega, by omega, fun v54 e54 => ?_⟩⟩⟩)⟩)
          have hs := sec_r (n := A.1) (B := tb bo) (a := lo A.2.1 i) (by omega) g
          have hno2 : ¬ (tb bo (hi A.2.1 i).toNat = true ∧ tb al (lo A.2.1 i).toNat = true) := fun k => hBZ _ ⟨k.1, g2⟩
          refine fin v54 (fun d d2 d3 => by rw [e54, upd2_off _ _ _ d3, e41, upd2_off _ _ _ d2]) (fun k hk => ⟨by rw [e54, upd2_off _ _ _ (by omega), e41, upd2_j, if_neg hk], by rw [e54, upd2_j, if_neg hk, e41, upd2_off _ _ _ (by omega)]⟩) ?_ ?_
          · rw [o.1, e54, upd2_off _ _ _ (by omega), e41, upd2_same]; unfold ex1; rw [if_pos ⟨g, g2⟩, if_neg hno2]; omega
          · rw [o.2.1, e54, upd2_same, e41]
            show upd2 v139 12 i.toNat (hi A.2.1 i) 15 (lo A.2.1 i).toNat = _
            rw [upd2_off _ _ _ (by omega), f15 _ (by omega) (by omega) g]; unfold ex1; rw [if_pos ⟨g, g2⟩, if_neg hno2]; omega
      · have := x136.2.2 k k0 (by rw [List.length_append, hdl]; omega)
        exact ⟨this.1, this.2.1⟩
    refine up2 (X := X60) (A.2.1.length : Int) (fun i v60 => 0 ≤ i ∧ (∀ d, d ≠ 10 → d ≠ 12 → d ≠ 13 → d ≠ 14 → v60 d = v57 d) ∧ xG v60 10 (A.1 + (fb_ct (tb bo) A.1.toNat : Int)) (A.2.1 ++ dl A.1 (tb bo) A.2.1 i.toNat)) ?_ (by omega) ⟨by omega, fun d _ _ _ _ => rfl, by
      have e : dl A.1 (tb bo) A.2.1 (0 : Int).toNat = [] := rfl
      rw [e, List.append_nil]
      exact ⟨n57, l57, fun k k0 k1 => by rw [f57 12 (by omega) (by omega) (by omega), f57 13 (by omega) (by omega) (by omega), f57 14 (by omega) (by omega) (by omega)]; exact hg.2.2 k k0 k1⟩⟩
    intro i v60 hle ⟨i0, hf, hx⟩ hnext
    apply hX60
    refine ⟨fun hge => ?_, fun hlt => ?_⟩
    · rw [show i.toNat = A.2.1.length by omega] at hx
      exact s2 v60 hf hx
    · have hw := w.1 i i0 hlt
      have esucc : (i + 1).toNat = i.toNat + 1 := by omega
      have hk := hx.2.2 i i0 (by rw [List.length_append]; omega)
      obtain ⟨l1, l2, l3⟩ := ln_app1 (M := A.2.1) (D := dl A.1 (tb bo) A.2.1 i.toNat) i0 hlt
      rw [l1, l2, l3] at hk
      have e12 : v60 12 i.toNat = lo A.2.1 i := hk.1
      have e13 : v60 13 i.toNat = hi A.2.1 i := hk.2.1
      have e14 : v60 14 i.toNat = pr A.2.1 i := hk.2.2
      have hin : inB (tb bo) A.2.1 i.toNat = true ↔ tb bo (lo A.2.1 i).toNat = true ∧ tb bo (hi A.2.1 i).toNat = true := by rw [inB_and, Int.toNat_of_nonneg i0]
      have no : ¬ (tb bo (lo A.2.1 i).toNat = true ∧ tb bo (hi A.2.1 i).toNat = true) → (-2147483648 ≤ i + 1 ∧ i + 1 ≤ 2147483647) ∧ X60 (i + 1) v60 := fun g => ⟨by omega, hnext hlt _ ⟨by omega, hf, by
        have e2 : dl A.1 (tb bo) A.2.1 (i.toNat + 1) = dl A.1 (tb bo) A.2.1 i.toNat := if_neg (fun k => g (hin.mp k))
        rw [esucc, e2]; exact hx⟩⟩
      show (0 ≤ i ∧ i < 60) ∧ P_X10_hasBit bo (v60 12 i.toNat) v60 (fun r75 => ((r75 = 0) → _) ∧ ((¬ r75 = 0) → (0 ≤ i ∧ i < 60) ∧ P_X10_hasBit bo (v60 13 i.toNat) v60 (fun r89 => ((r89 = 0) → _) ∧ ((¬ r89 = 0) → (0 ≤ i ∧ i < 60) ∧ (0 ≤ v60 12 i.toNat ∧ v60 12 i.toNat < 24) ∧ (0 ≤ i ∧ i < 60) ∧ (0 ≤ v60 13 i.toNat ∧ v60 13 i.toNat < 24) ∧ (0 ≤ i ∧ i < 60) ∧ P_X0_addLine 10 (v60 15 (v60 12 i.toNat).toNat) (v60 15 (v60 13 i.toNat).toNat) (v60 14 i.toNat) v60 _))))
      rw [e12, e13, e14]
      refine ⟨by omega, S_hasBit (by omega) (fun g => ⟨fun _ => no (fun k => by rw [g] at k; exact absurd k.1 (by decide)), fun k => absurd rfl k⟩) (fun g => ⟨fun k => absurd k (by decide), fun _ => ⟨by omega, S_hasBit (by omega) (fun g2 => ⟨fun _ => no (fun k => by rw [g2] at k; exact absurd k.2 (by decide)), fun k => absurd rfl k⟩) (fun g2 => ⟨fun k => absurd k (by decide), fun _ => ⟨by omega, by omega, by omega, by omega, by omega, ?_⟩⟩)⟩⟩)⟩
      have f15 : ∀ j : Int, 0 ≤ j → j < A.1 → tb bo j.toNat = true → v60 15 j.toNat = sec A.1 (tb bo) j := fun j j0 j1 j2 => by rw [hf 15 (by omega) (by omega) (by omega) (by omega)]; exact r57 j j0 j1 j2
      rw [f15 _ (by omega) (by omega) g, f15 _ (by omega) (by omega) g2]
      have hct := fb_ct_mono (inB (tb bo) A.2.1) (show i.toNat + 1 ≤ A.2.1.length by omega)
      rw [fb_ct_succ, if_pos (hin.mpr ⟨g, g2⟩)] at hct
      refine S_addLine hx (by rw [List.length_append, dl_len]; omega) (fun v' f' j' g' _ => ⟨by omega, hnext hlt _ ⟨by omega, fun d d0 d2 d3 d4 => by rw [f' d d0 d2 d3 d4]; exact hf d d0 d2 d3 d4, ?_⟩⟩)
      have e2 : dl A.1 (tb bo) A.2.1 (i.toNat + 1) = addL (dl A.1 (tb bo) A.2.1 i.toNat) (sec A.1 (tb bo) (lo A.2.1 ((i.toNat : Nat) : Int))) (sec A.1 (tb bo) (hi A.2.1 ((i.toNat : Nat) : Int))) (pr A.2.1 ((i.toNat : Nat) : Int)) := if_pos (hin.mpr ⟨g, g2⟩)
      rw [esucc, e2, Int.toNat_of_nonneg i0, ← addL_app]; exact g'
  refine up2 (X := X19) A.1 (fun i v19 => 0 ≤ i ∧ (∀ d, d ≠ 10 → d ≠ 11 → d ≠ 15 → v19 d = v d) ∧ v19 10 0 = A.1 + (fb_ct (tb bo) i.toNat : Int) ∧ v19 10 1 = (A.2.1.length : Int) ∧ (∀ j : Int, 0 ≤ j → j < i → tb bo j.toNat = true → v19 15 j.toNat = sec A.1 (tb bo) j) ∧ (∀ j : Int, 0 ≤ j → j < A.1 → v19 11 j.toNat = cx (A.2.2 j)) ∧ ∀ j : Int, A.1 ≤ j → j < A.1 + (fb_ct (tb bo) i.toNat : Int) → v19 11 j.toNat = 0) ?_ hn.1 ⟨by omega, fun d _ _ _ => rfl, by rw [hg.1]; show A.1 = A.1 + ((0 : Nat) : Int); omega, hg.2.1, fun j j0 j1 => by omega, fun j j0 j1 => hX.2.1 j j0 j1, fun j j0 j1 => by
      have j2 : j < A.1 + ((0 : Nat) : Int) := j1
      omega⟩
  intro i v19 hle ⟨i0, hf, hnod, hlin, h15, h11, hz⟩ hnext
  apply hX19
  have esucc : (i + 1).toNat = i.toNat + 1 := by omega
  refine ⟨fun hge => ?_, fun hlt => ?_⟩
  · rw [show i.toNat = A.1.toNat by omega] at hnod hz
    refine s1 v19 hf hnod hlin (fun j j0 j1 j2 => h15 j j0 (by omega) j2) (fun j j0 j1 => ?_)
    have j1' : j < A.1 + (fb_ct (tb bo) A.1.toNat : Int) := j1
    show v19 11 j.toNat = cx (if j < A.1 then A.2.2 j else [])
    by_cases e : j < A.1
    · rw [if_pos e]; exact h11 j j0 e
    · rw [if_neg e]; exact hz j (by omega) j1'
  · refine S_hasBit (by omega) (fun g => ⟨fun _ => ⟨by omega, hnext hlt _ ⟨by omega, hf, ?_, hlin, fun j j0 j1 j2 => ?_, h11, ?_⟩⟩, fun k => absurd rfl k⟩) (fun g => ⟨fun k => absurd k (by decide), fun _ => ⟨by omega, fun v45 e45 => ?_⟩⟩)
    · rw [esucc, fb_ct_succ, if_neg (by rw [g]; decide)]; exact hnod
    · by_cases e : j = i
      · rw [e, g] at j2; exact absurd j2 (by decide)
      · exact h15 j j0 (by omega) j2
    · rw [esucc, fb_ct_succ, if_neg (by rw [g]; decide)]; exact hz
    · have hct := fb_ct_mono (tb bo) (show i.toNat + 1 ≤ A.1.toNat by omega)
      rw [fb_ct_succ, if_pos g] at hct
      have f45 : ∀ d, d ≠ 15 → v45 d = v19 d := fun d hd => by rw [e45]; exact upd2_off _ _ _ hd
      unfold P_X0_addNode
      rw [f45 10 (by omega), hnod]
      refine ⟨fun k => by omega, fun _ => ⟨by omega, fun v18 e18 => ?_⟩⟩
      have n18 : v18 10 0 = A.1 + (fb_ct (tb bo) i.toNat : Int) := by rw [e18, upd2_off _ _ _ (by omega), f45 10 (by omega)]; exact hnod
      rw [n18]
      refine ⟨by omega, fun v26 e26 => ⟨by omega, hnext hlt _ ⟨by omega, fun d d0 d1 d5 => ?_, ?_, ?_, fun j j0 j1 j2 => ?_, fun j j0 j1 => ?_, fun j j0 j1 => ?_⟩⟩⟩
      · rw [e26, upd2_off _ _ _ d0, e18, upd2_off _ _ _ d1, f45 d d5]; exact hf d d0 d1 d5
      · rw [e26, upd2_same, esucc, fb_ct_succ, if_pos g]; omega
      · rw [e26, upd2_j, if_neg (by decide), e18, upd2_off _ _ _ (by omega), f45 10 (by omega)]; exact hlin
      · show v26 15 j.toNat = _
        rw [e26, upd2_off _ _ _ (by omega), e18, upd2_off _ _ _ (by omega), e45]
        show upd2 v19 15 i.toNat (v19 10 0) 15 j.toNat = _
        rw [upd2_at _ _ _ i0 j0]
        by_cases e : j = i
        · rw [if_pos e, hnod, e]; rfl
        · rw [if_neg e]; exact h15 j j0 (by omega) j2
      · show v26 11 j.toNat = _
        rw [e26, upd2_off _ _ _ (by omega), e18]
        show upd2 v45 11 (A.1 + (fb_ct (tb bo) i.toNat : Int)).toNat 0 11 j.toNat = _
        rw [upd2_at _ _ _ (by omega) j0, if_neg (by omega), f45 11 (by omega)]
        exact h11 j j0 j1
      · rw [esucc, fb_ct_succ, if_pos g] at j1
        show v26 11 j.toNat = _
        rw [e26, upd2_off _ _ _ (by omega), e18]
        show upd2 v45 11 (A.1 + (fb_ct (tb bo) i.toNat : Int)).toNat 0 11 j.toNat = _
        rw [upd2_at _ _ _ (by omega) (by omega)]
        by_cases e : j = A.1 + (fb_ct (tb bo) i.toNat : Int)
        · rw [if_pos e]
        · rw [if_neg e, f45 11 (by omega)]; exact hz j j0 (by omega)
end Open3

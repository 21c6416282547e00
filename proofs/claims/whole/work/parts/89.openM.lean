/-! ===== opened: the reference ===== -/
section Open4
variable {v : VT} {t c x y : Int} {A : Net} {T : Vt} {F : Int × Int} {V : Vt} {S : Se} {P : Vt} {R : Nat → Int} {H : Hs}
theorem S_endOf {a b bo al : Int} {q : Int → Prop} (ha : 0 ≤ a ∧ a < A.1) (hb : 0 ≤ b ∧ b < A.1) (h24 : A.1 ≤ 24) (h242 : tb bo a.toNat = true → v 242 a.toNat = sec A.1 (tb bo) a) (hq : q (ex1 A.1 (tb bo) (tb al) a b)) : P_X11_endOf a b bo al v q := by
  unfold P_X11_endOf
  unfold ex1 at hq
  refine S_isOf (by omega) (fun g => ⟨fun _ => ?_, fun k => absurd rfl k⟩) (fun g => ⟨fun k => absurd k (by decide), fun _ => S_isOf (by omega) (fun g2 => ⟨fun _ => ?_, fun k => absurd rfl k⟩) (fun g2 => ⟨fun k => absurd k (by decide), fun _ => ⟨by omega, ?_⟩⟩)⟩)
  · rw [if_neg (fun k => by rw [g] at k; exact absurd k.1 (by decide))] at hq; exact hq
  · rw [if_neg (fun k => by rw [g2] at k; exact absurd k.2 (by decide))] at hq; exact hq
  · rw [if_pos ⟨g, g2⟩] at hq; rw [h242 g]; exact hq
theorem M_opens {q : VT → Prop} (hA : okNet A) (hc : cop A x y) (hM : IM v A T F V S c P R H) (hq : ∀ v2, IM v2 (netO A (tb (i_and x y)) (tb (i_and y (i_xor x (-1))))) T F V S c P R H → q v2) : P_X11_opens (i_and x y) (i_and y (i_xor x (-1))) v q := by
  obtain ⟨hBZ, h24, h60⟩ := cop_facts hA hc
  have hok := okNet_O hA hc
  have hn := hA.1
  have w := hA.2.1
  have hlen := w.2.2
  have hg := hM.1.1
  generalize i_and x y = bo at *
  generalize i_and y (i_xor x (-1)) = al at *
  unfold P_X11_opens
  rw [hg.1]
  intro K38 hK38 X10 hX10
  have s1 : ∀ v38 : VT, (∀ d, d ≠ 223 → v38 d = v d) → (∀ k : Nat, k < 206 → v38 223 k = v 222 k) → K38 v38 := by
    intro v38 f38 c38
    apply hK38
    intro K87 hK87 X41 hX41
    have s2 : ∀ v87 : VT, (∀ d, d ≠ 223 → d ≠ 242 → v87 d = v d) → (∀ j : Int, 0 ≤ j → j < A.1 → tb bo j.toNat = true → v87 242 j.toNat = sec A.1 (tb bo) j) → nmM (v87 223) (netO A (tb bo) (tb al)) → K87 (A.1 + (fb_ct (tb bo) A.1.toNat : Int)) v87 := by
      intro v87 f87 h242 nm87
      apply hK87
      intro v93 e93 v100 e100
      have f100 : ∀ d, d ≠ 223 → v100 d = v87 d := fun d hd => by rw [e100, upd2_off _ _ _ hd, e93, upd2_off _ _ _ hd]
      have j100 : ∀ j, 2 ≤ j → v100 223 j = v87 223 j := fun j hj => by rw [e100, upd2_j, if_neg (by omega), e93, upd2_j, if_neg (by omega)]
      intro K170 hK170 X104 hX104
      have s3 : ∀ v170 : VT, (∀ d, d ≠ 223 → v170 d = v87 d) → (∀ j, 2 ≤ j → j < 26 → v170 223 j = v87 223 j) → mG v170 223 (A.1 + (fb_ct (tb bo) A.1.toNat : Int)) (o1 A.1 (tb bo) (tb al) A.2.1 A.2.1.length) → K170 v170 := by
        intro v170 f170 j170 g170
        apply hK170
        intro K251 hK251 X173 hX173
        have s4 : ∀ v251 : VT, (∀ d, d ≠ 223 → v251 d = v87 d) → (∀ j, 2 ≤ j → j < 26 → v251 223 j = v87 223 j) → mG v251 223 (A.1 + (fb_ct (tb bo) A.1.toNat : Int)) (o1 A.1 (tb bo) (tb al) A.2.1 A.2.1.length ++ dl A.1 (tb bo) A.2.1 A.2.1.length) → K251 v251 := by
          intro v251 f251 j251 g251
          apply hK251
          intro X254 hX254
          refine up2 (X := X254) A.1 (fun i v254 => 0 ≤ i ∧ (∀ d, d ≠ 223 → v254 d = v87 d) ∧ (∀ j, 2 ≤ j → j < 26 → v254 223 j = v87 223 j) ∧ mG v254 223 (A.1 + (fb_ct (tb bo) A.1.toNat : Int)) (o1 A.1 (tb bo) (tb al) A.2.1 A.2.1.length ++ dl A.1 (tb bo) A.2.1 A.2.1.length ++ tlo A.1 (tb bo) i.toNat)) ?_ hn.1 ⟨by omega, f251, j251, by
            have e : tlo A.1 (tb bo) (0 : Int).toNat = [] := rfl
            rw [e, List.append_nil]; exact g251⟩
          intro i v254 hle ⟨i0, hf, hj, hx⟩ hnext
          apply hX254
          have e0 : v254 222 0 = A.1 := by rw [hf 222 (by omega), f87 222 (by omega) (by omega)]; exact hg.1
          rw [e0]
          have esucc : (i + 1).toNat = i.toNat + 1 := by omega
          refine ⟨fun hge => ?_, fun hlt => ?_⟩
          · rw [show i.toNat = A.1.toNat by omega] at hx
            have hrow : mRow (v254 223) (netO A (tb bo) (tb al)) := ⟨hx, fun j j0 j1 => by
              have j1' : j < A.1 + (fb_ct (tb bo) A.1.toNat : Int) := j1
              rw [hj _ (by omega) (by omega)]
              exact nm87 j j0 j1⟩
            refine S_isNext hok hrow (fun v2 f2 j2 z2 r2 => hq v2 ?_)
            have f : ∀ d, d ≠ 218 → d ≠ 222 → d ≠ 223 → d ≠ 242 → v2 d = v d := fun d d1 d2 d3 d4 => by rw [f2 d d1 d2, hf d d3, f87 d d3 d4]
            exact M_new hM (fun d hd => f d (by omega) (by omega) (by omega) (by omega)) (fun j hj' => by rw [j2 j (by omega), hf 218 (by omega), f87 218 (by omega) (by omega)]) r2 z2
          · refine S_isOf (by omega) (fun g => ⟨fun _ => ⟨by omega, hnext hlt _ ⟨by omega, hf, hj, ?_⟩⟩, fun k => absurd rfl k⟩) (fun g => ⟨fun k => absurd k (by decide), fun _ => ⟨by omega, ?_⟩⟩)
            · have e2 : tlo A.1 (tb bo) (i.toNat + 1) = tlo A.1 (tb bo) i.toNat := if_neg (by rw [g]; decide)
              rw [esucc, e2]; exact hx
            · have e242 : v254 242 i.toNat = sec A.1 (tb bo) i := by rw [hf 242 (by omega)]; exact h242 i i0 hlt g
              rw [e242]
              have hct := fb_ct_mono (tb bo) (show i.toNat + 1 ≤ A.1.toNat by omega)
              rw [fb_ct_succ, if_pos g] at hct
              refine S_adds hx (by rw [List.length_append, List.length_append, o1_len, dl_len, tlo_len]; omega) (fun v' f' j' g' => ⟨by omega, hnext hlt _ ⟨by omega, fun d hd => by rw [f' d hd]; exact hf d hd, fun j a1 a2 => by rw [j' j (by omega) a2]; exact hj j a1 a2, ?_⟩⟩)
              have e2 : tlo A.1 (tb bo) (i.toNat + 1) = addL (tlo A.1 (tb bo) i.toNat) ((i.toNat : Nat) : Int) (sec A.1 (tb bo) ((i.toNat : Nat) : Int)) 1 := if_pos g
              rw [esucc, e2, Int.toNat_of_nonneg i0, ← addL_app]; exact g'
        refine up2 (X := X173) (A.2.1.length : Int) (fun i v173 => 0 ≤ i ∧ (∀ d, d ≠ 223 → v173 d = v87 d) ∧ (∀ j, 2 ≤ j → j < 26 → v173 223 j = v87 223 j) ∧ mG v173 223 (A.1 + (fb_ct (tb bo) A.1.toNat : Int)) (o1 A.1 (tb bo) (tb al) A.2.1 A.2.1.length ++ dl A.1 (tb bo) A.2.1 i.toNat)) ?_ (by omega) ⟨by omega, f170, j170, by
            have e : dl A.1 (tb bo) A.2.1 (0 : Int).toNat = [] := rfl
            rw [e, List.append_nil]; exact g170⟩
        intro i v173 hle ⟨i0, hf, hj, hx⟩ hnext
        apply hX173
        have gm : mG v173 222 A.1 A.2.1 := mG_frame hg (by rw [hf 222 (by omega), f87 222 (by omega) (by omega)])
        rw [gm.2.1]
        have esucc : (i + 1).toNat = i.toNat + 1 := by omega
        refine ⟨fun hge => ?_, fun hlt => ?_⟩
        · rw [show i.toNat = A.2.1.length by omega] at hx
          exact s4 v173 hf hj hx
        · have hw := w.1 i i0 hlt
          have hin : inB (tb bo) A.2.1 i.toNat = true ↔ tb bo (lo A.2.1 i).toNat = true ∧ tb bo (hi A.2.1 i).toNat = true := by rw [inB_and, Int.toNat_of_nonneg i0]
          have no : ¬ (tb bo (lo A.2.1 i).toNat = true ∧ tb bo (hi A.2.1 i).toNat = true) → (-2147483648 ≤ i + 1 ∧ i + 1 ≤ 2147483647) ∧ X173 (i + 1) v173 := fun g => ⟨by omega, hnext hlt _ ⟨by omega, hf, hj, by
            have e2 : dl A.1 (tb bo) A.2.1 (i.toNat + 1) = dl A.1 (tb bo) A.2.1 i.toNat := if_neg (fun k => g (hin.mp k))
            rw [esucc, e2]; exact hx⟩⟩
          refine S_low w gm ⟨i0, hlt⟩ (S_isOf (by omega) (fun g => ⟨fun _ => no (fun k => by rw [g] at k; exact absurd k.1 (by decide)), fun k => absurd rfl k⟩) (fun g => ⟨fun k => absurd k (by decide), fun _ => S_high w gm ⟨i0, hlt⟩ (S_isOf (by omega) (fun g2 => ⟨fun _ => no (fun k => by rw [g2] at k; exact absurd k.2 (by decide)), fun k => absurd rfl k⟩) (fun g2 => ⟨fun k => absurd k (by decide), fun _ => ?_⟩))⟩))
          refine S_low w gm ⟨i0, hlt⟩ ⟨by omega, S_high w gm ⟨i0, hlt⟩ ⟨by omega, S_priceOf w gm ⟨i0, hlt⟩ ?_⟩⟩
          have q242 : ∀ j : Int, 0 ≤ j → j < A.1 → tb bo j.toNat = true → v173 242 j.toNat = sec A.1 (tb bo) j := fun j j0 j1 j2 => by rw [hf 242 (by omega)]; exact h242 j j0 j1 j2
          rw [q242 _ (by omega) (by omega) g, q242 _ (by omega) (by omega) g2]
          have hct := fb_ct_mono (inB (tb bo) A.2.1) (show i.toNat + 1 ≤ A.2.1.length by omega)
          rw [fb_ct_succ, if_pos (hin.mpr ⟨g, g2⟩)] at hct
          refine S_adds hx (by rw [List.length_append, o1_len, dl_len]; omega) (fun v' f' j' g' => ⟨by omega, hnext hlt _ ⟨by omega, fun d hd => by rw [f' d hd]; exact hf d hd, fun j a1 a2 => by rw [j' j (by omega) a2]; exact hj j a1 a2, ?_⟩⟩)
          have e2 : dl A.1 (tb bo) A.2.1 (i.toNat + 1) = addL (dl A.1 (tb bo) A.2.1 i.toNat) (sec A.1 (tb bo) (lo A.2.1 ((i.toNat : Nat) : Int))) (sec A.1 (tb bo) (hi A.2.1 ((i.toNat : Nat) : Int))) (pr A.2.1 ((i.toNat : Nat) : Int)) := if_pos (hin.mpr ⟨g, g2⟩)
          rw [esucc, e2, Int.toNat_of_nonneg i0, ← addL_app]; exact g'
      refine up2 (X := X104) (A.2.1.length : Int) (fun i v104 => 0 ≤ i ∧ (∀ d, d ≠ 223 → v104 d = v87 d) ∧ (∀ j, 2 ≤ j → j < 26 → v104 223 j = v87 223 j) ∧ mG v104 223 (A.1 + (fb_ct (tb bo) A.1.toNat : Int)) (o1 A.1 (tb bo) (tb al) A.2.1 i.toNat)) ?_ (by omega) ⟨by omega, f100, fun j a1 _ => j100 j a1, ⟨by rw [e100, upd2_j, if_neg (by decide), e93, upd2_same], by rw [e100, upd2_same]; rfl, fun k k0 k1 => by have : k < 0 := k1; omega⟩⟩
      intro i v104 hle ⟨i0, hf, hj, hx⟩ hnext
      apply hX104
      have gm : mG v104 222 A.1 A.2.1 := mG_frame hg (by rw [hf 222 (by omega), f87 222 (by omega) (by omega)])
      rw [gm.2.1]
      have esucc : (i + 1).toNat = i.toNat + 1 := by omega
      refine ⟨fun hge => ?_, fun hlt => ?_⟩
      · rw [show i.toNat = A.2.1.length by omega] at hx
        exact s3 v104 hf hj hx
      · have hw := w.1 i i0 hlt
        have q242 : ∀ j : Int, 0 ≤ j → j < A.1 → tb bo j.toNat = true → v104 242 j.toNat = sec A.1 (tb bo) j := fun j j0 j1 j2 => by rw [hf 242 (by omega)]; exact h242 j j0 j1 j2
        refine S_low w gm ⟨i0, hlt⟩ (S_high w gm ⟨i0, hlt⟩ (S_endOf (A := A) (by omega) (by omega) hn.2 (q242 _ (by omega) (by omega)) (S_high w gm ⟨i0, hlt⟩ (S_low w gm ⟨i0, hlt⟩ (S_endOf (A := A) (by omega) (by omega) hn.2 (q242 _ (by omega) (by omega)) (S_priceOf w gm ⟨i0, hlt⟩ ?_))))))
        refine S_adds hx (by rw [o1_len]; omega) (fun v' f' j' g' => ⟨by omega, hnext hlt _ ⟨by omega, fun d hd => by rw [f' d hd]; exact hf d hd, fun j a1 a2 => by rw [j' j (by omega) a2]; exact hj j a1 a2, ?_⟩⟩)
        rw [esucc]
        show mG v' 223 _ (addL (o1 A.1 (tb bo) (tb al) A.2.1 i.toNat) (ex1 A.1 (tb bo) (tb al) (lo A.2.1 ((i.toNat : Nat) : Int)) (hi A.2.1 ((i.toNat : Nat) : Int))) (ex1 A.1 (tb bo) (tb al) (hi A.2.1 ((i.toNat : Nat) : Int)) (lo A.2.1 ((i.toNat : Nat) : Int))) (pr A.2.1 ((i.toNat : Nat) : Int)))
        rw [Int.toNat_of_nonneg i0]; exact g'
    refine up3m (X := X41) A.1 (fun i cnt v41 => 0 ≤ i ∧ cnt = A.1 + (fb_ct (tb bo) i.toNat : Int) ∧ (∀ d, d ≠ 223 → d ≠ 242 → v41 d = v d) ∧ (∀ j : Int, 0 ≤ j → j < i → tb bo j.toNat = true → v41 242 j.toNat = sec A.1 (tb bo) j) ∧ (∀ j : Int, 0 ≤ j → j < A.1 → v41 223 (2 + j).toNat = cm (A.2.2 j)) ∧ ∀ j : Int, A.1 ≤ j → j < cnt → v41 223 (2 + j).toNat = 0) ?_ hn.1 ⟨by omega, by show A.1 = A.1 + ((0 : Nat) : Int); omega, fun d d1 _ => f38 d d1, fun j j0 j1 => by omega, fun j j0 j1 => by rw [c38 _ (by omega)]; exact hM.2.1 j j0 j1, fun j j0 j1 => by omega⟩
    intro cnt i v41 hle ⟨i0, hcn, hf, hs, hnm, hz⟩ hnext
    apply hX41
    have e0 : v41 222 0 = A.1 := by rw [hf 222 (by omega) (by omega)]; exact hg.1
    rw [e0]
    have esucc : (i + 1).toNat = i.toNat + 1 := by omega
    refine ⟨fun hge => ?_, fun hlt => ?_⟩
    · have ei : i.toNat = A.1.toNat := by omega
      rw [ei] at hcn
      rw [hcn]
      refine s2 v41 hf (fun j j0 j1 j2 => hs j j0 (by omega) j2) (fun j j0 j1 => ?_)
      have j1' : j < A.1 + (fb_ct (tb bo) A.1.toNat : Int) := j1
      show v41 223 (2 + j).toNat = cm (if j < A.1 then A.2.2 j else [])
      by_cases e : j < A.1
      · rw [if_pos e]; exact hnm j j0 e
      · rw [if_neg e]; exact hz j (by omega) (by omega)
    · refine S_isOf (by omega) (fun g => ⟨fun _ => ⟨by omega, hnext hlt _ _ ⟨by omega, ?_, hf, fun j j0 j1 j2 => ?_, hnm, hz⟩⟩, fun k => absurd rfl k⟩) (fun g => ⟨fun k => absurd k (by decide), fun _ => ⟨by omega, fun v68 e68 => ?_⟩⟩)
      · rw [esucc, fb_ct_succ, if_neg (by rw [g]; decide)]; exact hcn
      · by_cases e : j = i
        · rw [e, g] at j2; exact absurd j2 (by decide)
        · exact hs j j0 (by omega) j2
      · have hct := fb_ct_mono (tb bo) (show i.toNat + 1 ≤ A.1.toNat by omega)
        rw [fb_ct_succ, if_pos g] at hct
        refine ⟨by omega, by omega, fun v77 e77 => ⟨by omega, by omega, hnext hlt _ _ ⟨by omega, ?_, fun d d1 d2 => ?_, fun j j0 j1 j2 => ?_, fun j j0 j1 => ?_, fun j j0 j1 => ?_⟩⟩⟩
        · rw [esucc, fb_ct_succ, if_pos g]; omega
        · rw [e77, upd2_off _ _ _ d1, e68, upd2_off _ _ _ d2]; exact hf d d1 d2
        · rw [e77, upd2_off _ _ _ (by omega), e68, upd2_at _ _ _ i0 j0]
          by_cases e : j = i
          · rw [if_pos e, hcn, e]; rfl
          · rw [if_neg e]; exact hs j j0 (by omega) j2
        · rw [e77, upd2_j, if_neg (by omega), e68, upd2_off _ _ _ (by omega)]; exact hnm j j0 j1
        · rw [e77, upd2_j]
          by_cases e : j = cnt
          · rw [if_pos (by omega)]
          · rw [if_neg (by omega), e68, upd2_off _ _ _ (by omega)]; exact hz j j0 (by omega)
  refine up2 (X := X10) 206 (fun i v10 => 0 ≤ i ∧ (∀ d, d ≠ 223 → v10 d = v d) ∧ ∀ k : Nat, (k : Int) < i → v10 223 k = v 222 k) ?_ (by omega) ⟨by omega, fun d _ => rfl, fun k hk => by omega⟩
  intro i v10 hle ⟨i0, hf, hcp⟩ hnext
  apply hX10
  refine ⟨fun hge => s1 v10 hf (fun k hk => hcp k (by omega)), fun hlt => ⟨by omega, by omega, fun v31 e31 => ⟨by omega, hnext hlt _ ⟨by omega, fun d hd => by rw [e31, upd2_off _ _ _ hd]; exact hf d hd, fun k hk => ?_⟩⟩⟩⟩
  rw [e31, upd2_j]
  by_cases e : (k : Int) = i
  · rw [if_pos (by omega), hf 222 (by omega), show i.toNat = k by omega]
  · rw [if_neg (by omega)]; exact hcp k (by omega)
theorem XS_open (hc : cop A x y) (hA : okNet A) (hT : okT t V S c P R H) (hX : IX v A T F V S c P R H) : P_X10_open x y v (fun r v1 => r = (netO A (tb (i_and x y)) (tb (i_and y (i_xor x (-1))))).1 ∧ IX v1 (netO A (tb (i_and x y)) (tb (i_and y (i_xor x (-1))))) T F V S c P R (push H A)) := by
  unfold P_X10_open
  refine S_canOpen hA hX.1.1 (fun g => absurd hc g) (fun _ => ⟨fun _ => ?_, fun g => absurd g (by decide)⟩)
  exact X_keep hA hT hX (fun v1 x1 _ => X_double hA hc x1 (fun v2 x2 => ⟨x2.1.1.1, x2⟩))
theorem MS_open (hx : r32 x) (hy : r32 y) (hc : cop A x y) (hA : okNet A) (hT : okT t V S c P R H) (hM : IM v A T F V S c P R H) : P_X11_open x y v (fun r v1 => r = (netO A (tb (i_and x y)) (tb (i_and y (i_xor x (-1))))).1 ∧ IM v1 (netO A (tb (i_and x y)) (tb (i_and y (i_xor x (-1))))) T F V S c P R (push H A)) := by
  unfold P_X11_open
  refine S_canOpenM hA hx hy hM.1.1 (fun g => absurd hc g) (fun _ => ⟨fun _ => ?_, fun g => absurd g (by decide)⟩)
  exact M_keep hA hT hM (fun v1 m1 _ _ => M_opens hA hc m1 (fun v2 m2 => ⟨m2.1.1.1, m2⟩))
theorem Q_open (hx : r32 x) (hy : r32 y) (ht : t < 1000000) (h : Inv t v) : P_X10_open x y v (fun r v1 => P_X11_open x y v1 (fun r' v2 => r = r' ∧ Inv (t + 1) v2)) := by
  obtain ⟨A, T, F, V, S, c, P, R, H, hA, hT, hX, hM⟩ := h
  by_cases hc : cop A x y
  · exact N_X10_open (F_X10_open (XS_open hc hA hT hX)) (fun r1 v1 h1 => N_X11_open (F_X11_open (MS_open hx hy hc hA hT (IM_high hM (fun a ha => h1.2 a (by omega))))) (fun r2 v2 h2 => ⟨by rw [h1.1.1, h2.1.1], inv_mk (okNet_O hA hc) (okT_push hA hT) h1.1.2 (fun a ha => h2.2 a (by omega)) h2.1.2⟩))
  · unfold P_X10_open
    refine S_canOpen hA hX.1.1 (fun _ => ⟨fun g => absurd rfl g, fun _ => ?_⟩) (fun g => absurd g hc)
    refine ref_two (k := 3) (fM := fun v q => P_X11_open x y v q) hA hT ht hX hM (by omega) (fun v1 q m1 hr => ?_)
    unfold P_X11_open
    exact S_canOpenM hA hx hy m1.1.1 (fun _ => ⟨fun g => absurd rfl g, fun _ => hr⟩) (fun g => absurd g hc)
end Open4

/-! ===== few ===== -/
noncomputable def fwm (n : Int) (L : List Ln) : Int := Classical.epsilon (isMM (EF n L) (fun k => (k : Int) < 2 * kc L))
noncomputable def sp_few (n : Int) (L : List Ln) : Int := @ite _ (st n L ∧ kc L ≤ 8) (Classical.propDecidable _) (kc L - fwm n L) (-1)
theorem ib_one : ∀ m ∈ List.range 128, i_b (m : Int) = (m : Int) := by decide +kernel
theorem ib_id {x : Int} (h : 0 ≤ x ∧ x ≤ 127) : i_b x = x := by
  have := ib_one x.toNat (List.mem_range.mpr (by omega))
  rwa [Int.toNat_of_nonneg h.1] at this
section FewM
variable {n : Int} {L : List Ln} {v : VT}
theorem fwm_is {m : Int} (h : isMM (EF n L) (fun k => (k : Int) < 2 * kc L) m) : fwm n L = m := isMM_one (Classical.epsilon_spec (p := isMM (EF n L) (fun k => (k : Int) < 2 * kc L)) ⟨m, h⟩) h
theorem MM8 {S : Nat → Prop} {m : Int} (h16 : ∀ x, S x → x < 16) (h : isMM (EF n L) S m) : 0 ≤ m ∧ m ≤ 8 := by
  obtain ⟨M, hM, hM8⟩ := isMM_ex (E := EF n L) EF_symm h16
  have := isMM_one h hM
  have := h.1
  omega
theorem SX_few {q : Int → VT → Prop} (w : wfL n L) (hn : 0 ≤ n ∧ n ≤ 24) (h : XC v n L) (hq : ∀ v', XF v v' → XC v' n L → q (sp_few n L) v') : P_X10_few v q := by
  unfold P_X10_few
  have no : ∀ v', XF v v' → XC v' n L → ¬ (st n L ∧ kc L ≤ 8) → q (-1) v' := fun v' f c hc => by
    have := hq v' f c
    unfold sp_few at this; rwa [if_neg hc] at this
  refine S_seat w hn h (fun v1 f1 c1 _ _ _ _ s1 => ?_)
  rcases s1.2.2.2 with ⟨a1, a2, a3, a4, a5, a6, a7⟩ | ⟨a1, a2, a3⟩
  · rw [a1, a5]
    refine ⟨fun g => absurd g (by decide), fun _ => ⟨fun h8 => ?_, fun h8 => no v1 f1 c1 (fun g => by have := g.2; omega)⟩⟩
    have hD : kc L ≤ 23 := by omega
    have hk0 := kc_pos (L := L)
    unfold P_X7_findPairs
    rw [a5]
    refine ⟨by omega, fun l2 el2 => ?_⟩
    subst el2
    intro K71 hK71 X9 hX9
    have fin : ∀ v71 : VT, (∀ a, a ≠ 203 → a ≠ 204 → v71 a = v1 a) → (∀ d e : Nat, (d : Int) < 2 * kc L → (tb (v71 204 d) e = true ↔ (e : Int) < 2 * kc L ∧ e ≠ d ∧ EF n L d e)) → K71 v71 := by
      intro v71 f71 hfr
      apply hK71
      intro v73 e73
      have f73 : ∀ a, a ≠ 203 → v73 a = v71 a := fun a ha => by rw [e73, upd2_off _ _ _ ha]
      have b0 : v73 203 0 = 0 := by rw [e73, upd2_same]
      refine S_allBits (by omega) ?_
      have hall := bs_all (n := 2 * kc L) (by omega)
      have hbit : ∀ k : Nat, tb (i_shl 1 (2 * kc L) - 1) k = true ↔ (k : Int) < 2 * kc L := fun k => by rw [hall, bs_tb (by omega)]; exact ⟨fun g => g.1, fun g => ⟨g, trivial⟩⟩
      have hpca : pc (i_shl 1 (2 * kc L) - 1) ≤ 2 * kc L := by rw [hall]; exact (pc_le (by omega) _).2
      refine S_addPair (n := n) (L := L) (h := 2 * kc L) (by omega) 12 _ 0 v73 _ (by omega) (by omega) (by rw [hall]; exact bs_small (by omega) _) (fun k g => (hbit k).mp g) (by omega) (by omega) (fun d e hd => by rw [f73 204 (by omega)]; exact hfr d e hd) (fun v2 m f2 hm em => ?_)
      have hm' : isMM (EF n L) (fun k => (k : Int) < 2 * kc L) m := isMM_cong hbit hm
      have hm8 := MM8 (fun x hx => by omega) hm'
      have ff : ∀ a, a ≠ 203 → a ≠ 204 → v2 a = v1 a := fun a a3 a4 => by rw [f2 a a3, f73 a a3, f71 a a3 a4]
      have hq2 := hq v2 (fun a ha => by rw [ff a (by omega) (by omega)]; exact f1 a ha) (XC_frame hn.2 c1 (fun a ha => ff a (by omega) (by omega)))
      unfold sp_few at hq2
      rw [if_pos ⟨a2, h8⟩, fwm_is hm'] at hq2
      show (-2147483648 ≤ v2 197 6 - v2 203 0 ∧ v2 197 6 - v2 203 0 ≤ 2147483647) ∧ q (v2 197 6 - v2 203 0) v2
      rw [ff 197 (by omega) (by omega), a5, show v2 203 0 = m by omega]
      exact ⟨by omega, hq2⟩
    refine up2 (X := X9) (2 * kc L) (fun i v2 => 0 ≤ i ∧ (∀ a, a ≠ 203 → a ≠ 204 → v2 a = v1 a) ∧ ∀ d e : Nat, (d : Int) < i → (tb (v2 204 d) e = true ↔ (e : Int) < 2 * kc L ∧ e ≠ d ∧ EF n L d e)) ?_ (by omega) ⟨by omega, fun a _ _ => rfl, fun d e hd => by omega⟩
    intro i v2 hle ⟨i0, hf, hz⟩ hnext
    apply hX9
    refine ⟨fun hge => fin v2 hf (fun d e hd => hz d e (by omega)), fun hlt => ⟨by omega, fun v16 e16 => ?_⟩⟩
    intro X24 hX24
    refine up2 (X := X24) (2 * kc L) (fun j v19 => 0 ≤ j ∧ (∀ a, a ≠ 203 → a ≠ 204 → v19 a = v1 a) ∧ (∀ d e : Nat, (d : Int) < i → (tb (v19 204 d) e = true ↔ (e : Int) < 2 * kc L ∧ e ≠ d ∧ EF n L d e)) ∧ ∀ e : Nat, tb (v19 204 i.toNat) e = true ↔ (e : Int) < j ∧ (e : Int) ≠ i ∧ ft n L i (e : Int)) ?_ (by omega) ⟨by omega, fun a a3 a4 => by rw [e16, upd2_off _ _ _ a4]; exact hf a a3 a4, fun d e hd => by rw [e16, upd2_j, if_neg (by omega)]; exact hz d e hd, fun e => by rw [e16, upd2_same, tb_0]; exact ⟨fun g => absurd g (by decide), fun g => by have := g.1; omega⟩⟩
    intro j v19 hle2 ⟨j0, hf2, hz2, hz3⟩ hnext2
    apply hX24
    have skip : j < 2 * kc L → ¬ (j ≠ i ∧ ft n L i j) → (-2147483648 ≤ j + 1 ∧ j + 1 ≤ 2147483647) ∧ X24 (j + 1) v19 := fun hlt2 hno => ⟨by omega, hnext2 hlt2 _ ⟨by omega, hf2, hz2, fun e => by
      rw [hz3 e]
      constructor
      · intro g; exact ⟨by omega, g.2⟩
      · intro g
        refine ⟨?_, g.2⟩
        by_cases e1 : (e : Int) = j
        · rw [e1] at g; exact absurd g.2 hno
        · have := g.1; omega⟩⟩
    refine ⟨fun hge => ⟨by omega, hnext hlt _ ⟨by omega, hf2, fun d e hd => ?_⟩⟩, fun hlt2 => ⟨fun he => skip hlt2 (fun g => g.1 he), fun hne => ?_⟩⟩
    · by_cases e1 : (d : Int) = i
      · unfold EF
        rw [show d = i.toNat by omega, hz3 e, Int.toNat_of_nonneg i0]
        exact ⟨fun g => ⟨by omega, fun g2 => g.2.1 (by omega), g.2.2⟩, fun g => ⟨by omega, fun g2 => g.2.1 (by omega), g.2.2⟩⟩
      · exact hz2 d e (by omega)
    · refine S_doFit hn (by rw [hf2 197 (by omega) (by omega)]; exact s1.1) hD (fun d d0 d1 => by rw [hf2 199 (by omega) (by omega)]; exact a7 d d0 d1) ⟨i0, hlt⟩ ⟨j0, hlt2⟩ (fun g => ⟨fun _ => skip hlt2 (fun g2 => g g2.2), fun k => absurd rfl k⟩) (fun g => ⟨fun k => absurd k (by decide), fun _ => ⟨by omega, by omega, fun v53 e53 => ⟨by omega, hnext2 hlt2 _ ⟨by omega, fun a a3 a4 => by rw [e53, upd2_off _ _ _ a4]; exact hf2 a a3 a4, fun d e hd => by rw [e53, upd2_j, if_neg (by omega)]; exact hz2 d e hd, fun e => ?_⟩⟩⟩⟩)
      rw [e53, upd2_same, tb_or, Bool.or_eq_true, hz3 e, tb_shl1' (by omega), decide_eq_true_iff]
      constructor
      · rintro (k | k)
        · exact ⟨by omega, k.2⟩
        · rw [show (e : Int) = j by omega]; exact ⟨by omega, hne, g⟩
      · intro k
        by_cases e1 : (e : Int) = j
        · exact Or.inr (by omega)
        · exact Or.inl ⟨by have := k.1; omega, k.2⟩
  · rw [a1]
    exact ⟨fun _ => no v1 f1 c1 (fun g => a2 g.1), fun g => absurd rfl g⟩
/-! ===== the reference ===== -/
theorem hi_bit {s a : Nat} (h1 : 2 ^ a ≤ s) (h2 : s < 2 ^ (a + 1)) : s.testBit a = true ∧ ∀ k, a < k → s.testBit k = false := by
  have up : ∀ k, a < k → s.testBit k = false := fun k hk => Nat.testBit_lt_two_pow (Nat.lt_of_lt_of_le h2 (Nat.pow_le_pow_right (by decide) (by omega)))
  refine ⟨?_, up⟩
  cases hb : s.testBit a
  · have := Nat.lt_pow_two_of_testBit s (n := a) (fun i hi' => by
      rcases Nat.lt_or_ge a i with g | g
      · exact up i g
      · rw [show i = a by omega]; exact hb)
    omega
  · rfl
theorem S_top {s : Int} (hs : 1 ≤ s ∧ s < 65536) {X : Int → Prop} {K : Int → Prop} (hK : ∀ a : Nat, a < 16 → tb s a = true → (∀ k : Nat, a < k → tb s k = false) → K (a : Int)) (hX : ∀ i : Int, ((-2147483648 ≤ i + 1 ∧ i + 1 ≤ 2147483647) ∧ ((i_shr s (i + 1) = 0) → K i) ∧ ((¬ i_shr s (i + 1) = 0) → (-2147483648 ≤ i + 1 ∧ i + 1 ≤ 2147483647) ∧ X (i + 1))) → X i) : X 0 := by
  refine wh1 (X := X) (fun i => (0 ≤ i ∧ i ≤ 15) ∧ 2 ^ i.toNat ≤ s.toNat) (fun i => (16 - i).toNat) ?_ ⟨by omega, by show 1 ≤ s.toNat; omega⟩
  intro i ⟨hi', hp⟩ hnext
  apply hX
  have e := i_shr_nat (a := s.toNat) (by omega) (s := i.toNat + 1) (by omega)
  rw [Int.toNat_of_nonneg (by omega), show ((i.toNat + 1 : Nat) : Int) = i + 1 by omega] at e
  rw [e]
  have h16 : s.toNat < 2 ^ 16 := by show s.toNat < 65536; omega
  refine ⟨by omega, fun g => ?_, fun g => ⟨by omega, hnext _ ?_ (by omega)⟩⟩
  · have hlt : s.toNat < 2 ^ (i.toNat + 1) := by
      rcases Nat.lt_or_ge s.toNat (2 ^ (i.toNat + 1)) with k | k
      · exact k
      · have := Nat.div_pos k (Nat.pow_pos (by decide : 0 < 2)); omega
    obtain ⟨b1, b2⟩ := hi_bit hp hlt
    have := hK i.toNat (by omega) (by rw [tb_int (by omega) (by omega)]; exact b1) (fun k hk => by
      by_cases hk2 : k < 32
      · rw [tb_int (by omega) hk2]; exact b2 k hk
      · exact tb_big (by omega))
    rwa [Int.toNat_of_nonneg hi'.1] at this
  · have hge : 2 ^ (i.toNat + 1) ≤ s.toNat := by
      rcases Nat.lt_or_ge s.toNat (2 ^ (i.toNat + 1)) with k | k
      · exact absurd (by rw [Nat.div_eq_of_lt k]; rfl) g
      · exact k
    have hi15 : i.toNat + 1 < 16 := by
      rcases Nat.lt_or_ge (i.toNat + 1) 16 with k | k
      · exact k
      · have := Nat.pow_le_pow_right (show 0 < 2 by decide) k; omega
    exact ⟨by omega, by rw [show (i + 1).toNat = i.toNat + 1 by omega]; exact hge⟩
theorem MM_0 : isMM (EF n L) (sb 0) 0 := by
  refine ⟨by omega, trivial, fun k hk => ?_⟩
  cases k with
  | zero => omega
  | succ k =>
    obtain ⟨a, b, -, ha, -⟩ := hk
    unfold sb at ha
    rw [tb_0] at ha; exact absurd ha (by decide)
theorem S_fewC {q : Int → VT → Prop} (w : wfL n L) (hn : 0 ≤ n ∧ n ≤ 24) (hD : kc L ≤ 8) (h18 : v 218 18 = kc L) {v79 : VT} (f79 : ∀ a, a ≠ 234 → a ≠ 235 → v79 a = v a) (ht : ∀ a b : Nat, (a : Int) < 2 * kc L → (tb (v79 235 a) b = true ↔ b < a ∧ EF n L a b)) (hq : ∀ v' m, (∀ a, a ≠ 234 → a ≠ 235 → v' a = v a) → isMM (EF n L) (fun k => (k : Int) < 2 * kc L) m → q (kc L - m) v') :
    ∀ v85 : VT, v85 = upd2 v79 234 0 (i_b 0) →
      ∀ K215 : VT → Prop, (∀ (v215 : VT), (
        (-2147483648 ≤ (i_shl 1 (2 * kc L)) - 1 ∧ (i_shl 1 (2 * kc L)) - 1 ≤ 2147483647) ∧
        (0 ≤ ((i_shl 1 (2 * kc L)) - 1) ∧ ((i_shl 1 (2 * kc L)) - 1) < 65536) ∧
        (-2147483648 ≤ (v215 218 18) - (v215 234 ((i_shl 1 (2 * kc L)) - 1).toNat) ∧ (v215 218 18) - (v215 234 ((i_shl 1 (2 * kc L)) - 1).toNat) ≤ 2147483647) ∧
        q ((v215 218 18) - (v215 234 ((i_shl 1 (2 * kc L)) - 1).toNat)) v215) → K215 v215) →
      ∀ X88 : Int → VT → Prop, (∀ (i2 : Int) (v88 : VT), (
        (((i_shl 1 (2 * kc L)) ≤ i2) →
          K215 v88) ∧
        ((i2 < (i_shl 1 (2 * kc L))) →
          ∀ K111 : Int → Prop, (∀ (i3 : Int), (
            ∀ l4 : Int, l4 = (i_and i2 (i_xor (i_shl 1 i3) (-1))) →
            (0 ≤ l4 ∧ l4 < 65536) ∧
            ∀ l5 : Int, l5 = (v88 234 l4.toNat) →
            ∀ X132 : Int → Int → Prop, (∀ (i5 : Int) (i6 : Int), (
              ((i3 ≤ i6) →
                (0 ≤ i2 ∧ i2 < 65536) ∧
                ∀ v208 : VT, v208 = upd2 v88 234 i2.toNat (i_b (i_b i5)) →
                (-2147483648 ≤ i2 + 1 ∧ i2 + 1 ≤ 2147483647) ∧
                X88 (i2 + 1) v208) ∧
              ((i6 < i3) →
                (0 ≤ i3 ∧ i3 < 16) ∧
                P_X11_isOf (i_and (v88 235 i3.toNat) l4) i6 v88 (fun r149 =>
                  ((r149 = 0) →
                    (-2147483648 ≤ i6 + 1 ∧ i6 + 1 ≤ 2147483647) ∧
                    X132 i5 (i6 + 1)) ∧
                  ((¬ r149 = 0) →
                    (0 ≤ (i_and l4 (i_xor (i_shl 1 i6) (-1))) ∧ (i_and l4 (i_xor (i_shl 1 i6) (-1))) < 65536) ∧
                    (-2147483648 ≤ (v88 234 (i_and l4 (i_xor (i_shl 1 i6) (-1))).toNat) + 1 ∧ (v88 234 (i_and l4 (i_xor (i_shl 1 i6) (-1))).toNat) + 1 ≤ 2147483647) ∧
                    ((((v88 234 (i_and l4 (i_xor (i_shl 1 i6) (-1))).toNat) + 1) ≤ i5) →
                      (-2147483648 ≤ i6 + 1 ∧ i6 + 1 ≤ 2147483647) ∧
                      X132 i5 (i6 + 1)) ∧
                    ((i5 < ((v88 234 (i_and l4 (i_xor (i_shl 1 i6) (-1))).toNat) + 1)) →
                      (0 ≤ (i_and l4 (i_xor (i_shl 1 i6) (-1))) ∧ (i_and l4 (i_xor (i_shl 1 i6) (-1))) < 65536) ∧
                      (-2147483648 ≤ (v88 234 (i_and l4 (i_xor (i_shl 1 i6) (-1))).toNat) + 1 ∧ (v88 234 (i_and l4 (i_xor (i_shl 1 i6) (-1))).toNat) + 1 ≤ 2147483647) ∧
                      ∀ l5_1 : Int, l5_1 = ((v88 234 (i_and l4 (i_xor (i_shl 1 i6) (-1))).toNat) + 1) →
                      (-2147483648 ≤ i6 + 1 ∧ i6 + 1 ≤ 2147483647) ∧
                      X132 l5_1 (i6 + 1)))))) → X132 i5 i6) →
            X132 l5 0) → K111 i3) →
          ∀ X97 : Int → Prop, (∀ (i3_1 : Int), (
            (-2147483648 ≤ i3_1 + 1 ∧ i3_1 + 1 ≤ 2147483647) ∧
            (((i_shr i2 (i3_1 + 1)) = 0) →
              K111 i3_1) ∧
            ((¬ (i_shr i2 (i3_1 + 1)) = 0) →
              (-2147483648 ≤ i3_1 + 1 ∧ i3_1 + 1 ≤ 2147483647) ∧
              X97 (i3_1 + 1))) → X97 i3_1) →
          X97 0)) → X88 i2 v88) →
      X88 1 v85 := by
  have hk0 := kc_pos (L := L)
  have hra := r_all (n := 2 * kc L) (by omega)
  have hall := bs_all (n := 2 * kc L) (by omega)
  have hbit : ∀ k : Nat, tb (i_shl 1 (2 * kc L) - 1) k = true ↔ (k : Int) < 2 * kc L := fun k => by rw [hall, bs_tb (by omega)]; exact ⟨fun g => g.1, fun g => ⟨g, trivial⟩⟩
  have epow : i_shl 1 (2 * kc L) = ((2 ^ (2 * kc L).toNat : Nat) : Int) := by
    have := i_shl1_pow (2 * kc L).toNat (List.mem_range.mpr (by omega))
    rwa [Int.toNat_of_nonneg (by omega)] at this
  have h65 : i_shl 1 (2 * kc L) ≤ 65536 := by
    have : 2 ^ (2 * kc L).toNat ≤ 2 ^ 16 := Nat.pow_le_pow_right (by decide) (by omega)
    rw [epow]
    have e : (2 : Nat) ^ 16 = 65536 := by decide
    omega
  have hlow : ∀ s : Int, 0 ≤ s → s < i_shl 1 (2 * kc L) → ∀ k : Nat, tb s k = true → (k : Int) < 2 * kc L := fun s s0 s1 k g => by
    by_cases hk : k < 32
    · rw [tb_int s0 hk] at g
      rcases Int.lt_or_le (k : Int) (2 * kc L) with x | x
      · exact x
      · have : s.toNat < 2 ^ k := Nat.lt_of_lt_of_le (by omega : s.toNat < 2 ^ (2 * kc L).toNat) (Nat.pow_le_pow_right (by decide) (by omega))
        rw [Nat.testBit_lt_two_pow this] at g; exact absurd g (by decide)
    · rw [tb_big (by omega)] at g; exact absurd g (by decide)
  intro v85 e85 K215 hK215 X88 hX88
  refine up2 (X := X88) (i_shl 1 (2 * kc L)) (fun s v88 => 1 ≤ s ∧ (∀ a, a ≠ 234 → v88 a = v79 a) ∧ ∀ t : Nat, (t : Int) < s → isMM (EF n L) (sb (t : Int)) (v88 234 t)) ?_ (by omega) ⟨by omega, fun a ha => by rw [e85, upd2_off _ _ _ ha], fun t ht' => ?_⟩
  · intro s v88 hle ⟨s1, hf, hI⟩ hnext
    apply hX88
    refine ⟨fun hge => ?_, fun hlt K111 hK111 X97 hX97 => ?_⟩
    · apply hK215
      have hm := hI (i_shl 1 (2 * kc L) - 1).toNat (by omega)
      rw [Int.toNat_of_nonneg (by omega)] at hm
      have hm' : isMM (EF n L) (fun k => (k : Int) < 2 * kc L) (v88 234 (i_shl 1 (2 * kc L) - 1).toNat) := isMM_cong hbit hm
      have hm8 := MM8 (fun x hx => by omega) hm'
      have ff : ∀ a, a ≠ 234 → a ≠ 235 → v88 a = v a := fun a a1 a2 => by rw [hf a a1, f79 a a1 a2]
      rw [ff 218 (by omega) (by omega), h18]
      exact ⟨by omega, by omega, by omega, hq v88 _ ff hm'⟩
    · refine S_top (s := s) (by omega) (X := X97) (K := K111) (fun a ha16 hba hup => ?_) hX97
      apply hK111
      intro l4 el4
      have hsb := hlow s (by omega) hlt
      have s16 : ∀ x, sb s x → x < 16 := fun x hx => by have := hsb x hx; omega
      have haD := hsb a hba
      have tr : ∀ k : Nat, tb l4 k = true ↔ tb s k = true ∧ k ≠ a := fun k => by rw [el4]; exact tb_del (by omega)
      have rr : 0 ≤ l4 ∧ l4 < 16777216 := set_r (by rw [el4]; exact r32_and _ _) (fun k g => by have := hsb k ((tr k).mp g).1; omega)
      have rlt : l4 < s := set_lt rr (by omega) (i := a) (by omega) (Bool.eq_false_iff.mpr (fun g => ((tr a).mp g).2 rfl)) hba (fun j hj => Bool.eq_iff_iff.mpr ⟨fun g => ((tr j).mp g).1, fun g => (tr j).mpr ⟨g, by omega⟩⟩)
      refine ⟨by omega, fun l5 el5 => ?_⟩
      have hr := hI l4.toNat (by omega)
      rw [Int.toNat_of_nonneg rr.1, ← el5] at hr
      have hr8 := MM8 (fun x hx => s16 x ((tr x).mp hx).1) hr
      obtain ⟨M, hM, hM8⟩ := isMM_ex (E := EF n L) EF_symm s16
      intro X132 hX132
      refine up2r (X := X132) (a : Int) (fun b best => 0 ≤ b ∧ (l5 ≤ best ∧ mat (EF n L) best.toNat (sb s)) ∧ ∀ o : Nat, (o : Int) < b → EF n L a o → tb l4 o = true → ∀ k : Nat, mat (EF n L) k (fun x => sb s x ∧ x ≠ a ∧ x ≠ o) → (k : Int) + 1 ≤ best) ?_ (by omega) ⟨by omega, ⟨by omega, mat_mono _ (fun x hx => ((tr x).mp hx).1) hr.2.1⟩, fun o ho => by omega⟩
      intro best b hleb ⟨b0, ⟨hb1, hb2⟩, hex⟩ hnextb
      have hb8 := hM.2.2 _ hb2
      apply hX132
      refine ⟨fun hge => ⟨by omega, fun v208 e208 => ⟨by omega, hnext hlt _ ⟨by omega, fun x hx => by rw [e208, upd2_off _ _ _ hx]; exact hf x hx, fun t ht' => ?_⟩⟩⟩, fun hltb => ⟨by omega, ?_⟩⟩
      · rw [e208, upd2_j]
        by_cases et : t = s.toNat
        · rw [if_pos et, ib_id (x := best) (by omega), ib_id (by omega), et, Int.toNat_of_nonneg (by omega)]
          refine ⟨by omega, hb2, fun k hk => ?_⟩
          rcases mat_split EF_symm k a hk with g | ⟨k', o, ek, ho, -, hoa, heo, g⟩
          · have := hr.2.2 k (mat_mono k (fun x hx => (tr x).mpr hx) g)
            omega
          · have hoa2 : o < a := by
              rcases Nat.lt_trichotomy o a with x | x | x
              · exact x
              · exact absurd x hoa
              · have h3 : tb s o = true := ho
                rw [hup o x] at h3; exact absurd h3 (by decide)
            have := hex o (by omega) heo ((tr o).mpr ⟨ho, hoa⟩) k' g
            omega
        · rw [if_neg et]
          exact hI t (by omega)
      · rw [hf 235 (by omega), Int.toNat_natCast]
        have hpt : tb (i_and (v79 235 a) l4) b.toNat = true ↔ (b.toNat < a ∧ EF n L a b.toNat) ∧ tb l4 b.toNat = true := by rw [tb_and, Bool.and_eq_true, ht a b.toNat haD]
        refine S_isOf (by omega) (fun g => ⟨fun _ => ⟨by omega, hnextb hltb _ ⟨by omega, ⟨hb1, hb2⟩, fun o ho heo hol => ?_⟩⟩, fun k => absurd rfl k⟩) (fun g => ⟨fun k => absurd k (by decide), fun _ => ?_⟩)
        · by_cases e : (o : Int) = b
          · rw [show o = b.toNat by omega] at heo hol
            rw [hpt.mpr ⟨⟨by omega, heo⟩, hol⟩] at g; exact absurd g (by decide)
          · exact hex o (by omega) heo hol
        · obtain ⟨⟨g1, g2⟩, g3⟩ := hpt.mp g
          have t2 : ∀ k : Nat, tb (i_and l4 (i_xor (i_shl 1 b) (-1))) k = true ↔ (tb s k = true ∧ k ≠ a) ∧ k ≠ b.toNat := fun k => by
            have := tb_del (x := l4) (i := b.toNat) (k := k) (by omega)
            rw [Int.toNat_of_nonneg b0] at this
            rw [this, tr k]
          have r2 : 0 ≤ i_and l4 (i_xor (i_shl 1 b) (-1)) ∧ i_and l4 (i_xor (i_shl 1 b) (-1)) < 16777216 := set_r (r32_and _ _) (fun k gk => by have := hsb k ((t2 k).mp gk).1.1; omega)
          have lt2 : i_and l4 (i_xor (i_shl 1 b) (-1)) < s := set_lt r2 (by omega) (i := a) (by omega) (Bool.eq_false_iff.mpr (fun gk => ((t2 a).mp gk).1.2 rfl)) hba (fun j hj => Bool.eq_iff_iff.mpr ⟨fun gk => ((t2 j).mp gk).1.1, fun gk => (t2 j).mpr ⟨⟨gk, by omega⟩, by omega⟩⟩)
          have hm2 := hI (i_and l4 (i_xor (i_shl 1 b) (-1))).toNat (by omega)
          rw [Int.toNat_of_nonneg r2.1] at hm2
          generalize hm : v88 234 (i_and l4 (i_xor (i_shl 1 b) (-1))).toNat = m2 at hm2 ⊢
          have hm8 := MM8 (fun x hx => s16 x ((t2 x).mp hx).1.1) hm2
          have hm3 : isMM (EF n L) (fun x => sb s x ∧ x ≠ a ∧ x ≠ b.toNat) m2 := isMM_cong (fun x => ⟨fun gx => ⟨((t2 x).mp gx).1.1, ((t2 x).mp gx).1.2, ((t2 x).mp gx).2⟩, fun gx => (t2 x).mpr ⟨⟨gx.1, gx.2.1⟩, gx.2.2⟩⟩) hm2
          have fresh : ∀ best' : Int, best ≤ best' → m2 + 1 ≤ best' → ∀ o : Nat, (o : Int) < b + 1 → EF n L a o → tb l4 o = true → ∀ k : Nat, mat (EF n L) k (fun x => sb s x ∧ x ≠ a ∧ x ≠ o) → (k : Int) + 1 ≤ best' := fun best' h1 h2 o ho heo hol k hk => by
            by_cases e : (o : Int) = b
            · rw [show o = b.toNat by omega] at hk
              have := hm3.2.2 k hk
              omega
            · have := hex o (by omega) heo hol k hk
              omega
          refine ⟨by omega, by omega, fun k => ⟨by omega, hnextb hltb _ ⟨by omega, ⟨hb1, hb2⟩, fresh best (by omega) k⟩⟩, fun k => ⟨by omega, by omega, fun l5' el5' => ⟨by omega, hnextb hltb _ ⟨by omega, ⟨by omega, ?_⟩, fresh l5' (by omega) (by omega)⟩⟩⟩⟩
          rw [el5', show (m2 + 1).toNat = m2.toNat + 1 by omega]
          exact ⟨a, b.toNat, by omega, hba, ((tr b.toNat).mp g3).1, g2, hm3.2.1⟩
  · rw [show t = 0 by omega, e85, upd2_same, ib_id (by omega)]
    exact MM_0
theorem SM_few {q : Int → VT → Prop} (w : wfL n L) (hn : 0 ≤ n ∧ n ≤ 24) (h : MC v n L) (hq : ∀ v', MF v v' → MC v' n L → q (sp_few n L) v') : P_X11_few v q := by
  unfold P_X11_few
  refine S_sits w hn h (fun v1 f1 c1 l1 s1 => ⟨fun hst => ⟨fun g => absurd g (by decide), fun _ => ?_⟩, fun hst => ⟨fun _ => ?_, fun g => absurd rfl g⟩⟩)
  · obtain ⟨hp, hkc, h8⟩ := s1.2.2.2 hst.1
    have hD : kc L ≤ 23 := by have := hkc hst.2; omega
    have hk0 := kc_pos (L := L)
    have h18 : v1 218 18 = kc L := s1.1
    rw [h18]
    refine ⟨fun hk8 => ⟨by omega, fun l1 el1 => ?_⟩, fun hk8 => ?_⟩
    · subst el1
      intro K79 hK79 X27 hX27
      have fin : ∀ v79 : VT, (∀ a, a ≠ 234 → a ≠ 235 → v79 a = v1 a) → (∀ a b : Nat, (a : Int) < 2 * kc L → (tb (v79 235 a) b = true ↔ b < a ∧ EF n L a b)) → K79 v79 := fun v79 f79 ht => hK79 _ (S_fewC w hn hk8 h18 f79 ht (fun v2 m f2 hm => by
        have hq2 := hq v2 (MF_trans f1 ⟨fun a ha => f2 a (by omega) (by omega), fun j _ _ _ => by rw [f2 218 (by omega) (by omega)]⟩) (MC_frame c1 (f2 222 (by omega) (by omega)) (fun a ha => f2 a (by omega) (by omega)) (fun j _ => by rw [f2 218 (by omega) (by omega)]))
        unfold sp_few at hq2
        rwa [if_pos ⟨hst, hk8⟩, fwm_is hm] at hq2))
      refine up2 (X := X27) (2 * kc L) (fun i v2 => 0 ≤ i ∧ (∀ a, a ≠ 234 → a ≠ 235 → v2 a = v1 a) ∧ ∀ a b : Nat, (a : Int) < i → (tb (v2 235 a) b = true ↔ b < a ∧ EF n L a b)) ?_ (by omega) ⟨by omega, fun a _ _ => rfl, fun d e hd => by omega⟩
      intro i v2 hle ⟨i0, hf, hz⟩ hnext
      apply hX27
      refine ⟨fun hge => fin v2 hf (fun d e hd => hz d e (by omega)), fun hlt => ⟨by omega, fun v38 e38 => ?_⟩⟩
      intro X41 hX41
      refine up2 (X := X41) i (fun j v19 => 0 ≤ j ∧ (∀ a, a ≠ 234 → a ≠ 235 → v19 a = v1 a) ∧ (∀ a b : Nat, (a : Int) < i → (tb (v19 235 a) b = true ↔ b < a ∧ EF n L a b)) ∧ ∀ e : Nat, tb (v19 235 i.toNat) e = true ↔ (e : Int) < j ∧ ft n L i (e : Int)) ?_ i0 ⟨by omega, fun a a3 a4 => by rw [e38, upd2_off _ _ _ a4]; exact hf a a3 a4, fun d e hd => by rw [e38, upd2_j, if_neg (by omega)]; exact hz d e hd, fun e => by rw [e38, upd2_same, tb_0]; exact ⟨fun g => absurd g (by decide), fun g => by have := g.1; omega⟩⟩
      intro j v19 hle2 ⟨j0, hf2, hz2, hz3⟩ hnext2
      apply hX41
      refine ⟨fun hge => ⟨by omega, hnext hlt _ ⟨by omega, hf2, fun d e hd => ?_⟩⟩, fun hlt2 => ?_⟩
      · by_cases e1 : (d : Int) = i
        · unfold EF
          rw [show d = i.toNat by omega, hz3 e, Int.toNat_of_nonneg i0]
          exact ⟨fun g => ⟨by have := g.1; omega, g.2⟩, fun g => ⟨by have := g.1; omega, g.2⟩⟩
        · exact hz2 d e (by omega)
      · refine S_doFitM hn (mG_frame c1.1 (hf2 222 (by omega) (by omega))) hD (fun c c0 c1 => by rw [hf2 228 (by omega) (by omega)]; exact h8 c c0 c1) ⟨i0, hlt⟩ ⟨j0, by omega⟩ (fun g => ⟨fun _ => ⟨by omega, hnext2 hlt2 _ ⟨by omega, hf2, hz2, fun e => ?_⟩⟩, fun k => absurd rfl k⟩) (fun g => ⟨fun k => absurd k (by decide), fun _ => ⟨by omega, by omega, fun v53 e53 => ⟨by omega, hnext2 hlt2 _ ⟨by omega, fun a a3 a4 => by rw [e53, upd2_off _ _ _ a4]; exact hf2 a a3 a4, fun d e hd => by rw [e53, upd2_j, if_neg (by omega)]; exact hz2 d e hd, fun e => ?_⟩⟩⟩⟩)
        · rw [hz3 e]
          constructor
          · intro k; exact ⟨by have := k.1; omega, k.2⟩
          · intro k
            refine ⟨?_, k.2⟩
            by_cases e1 : (e : Int) = j
            · rw [e1] at k; exact absurd k.2 g
            · have := k.1; omega
        · rw [e53, upd2_same, tb_or, Bool.or_eq_true, hz3 e, tb_shl1' (by omega), decide_eq_true_iff]
          constructor
          · rintro (k | k)
            · exact ⟨by have := k.1; omega, k.2⟩
            · rw [show (e : Int) = j by omega]; exact ⟨by omega, g⟩
          · intro k
            by_cases e1 : (e : Int) = j
            · exact Or.inr (by omega)
            · exact Or.inl ⟨by have := k.1; omega, k.2⟩
    · have hq1 := hq v1 f1 c1
      unfold sp_few at hq1
      rwa [if_neg (fun k => by have := k.2; omega)] at hq1
  · have hq1 := hq v1 f1 c1
    unfold sp_few at hq1
    rwa [if_neg (fun k => hst k.1)] at hq1
theorem Q_few {v : VT} {t : Int} (h : Inv t v) : P_X10_few v (fun r v1 => P_X11_few v1 (fun r' v2 => r = r' ∧ Inv (t + 1) v2)) := by
  obtain ⟨A, T, F, V, S, c, P, R, H, hA, hT, hX, hM⟩ := h
  exact q_two (fX := fun v q => P_X10_few v q) (fM := fun v q => P_X11_few v q) hA hT hX hM (fun q hq => SX_few hA.2.1 hA.1 hX.1 hq) (fun v1 q m1 hq => SM_few hA.2.1 hA.1 m1.1 hq)
end FewM

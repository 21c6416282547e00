/-! ===== cubes: subsets by their numbers; the reference ===== -/
theorem sub_half {i x : Nat} (h : i &&& x = i) : (i % 2 &&& x % 2) = i % 2 ∧ (i / 2 &&& x / 2) = i / 2 := by
  have e := and_two i x 1
  rw [show 2 ^ 1 = 2 from rfl, h] at e
  have : (i % 2 &&& x % 2) ≤ i % 2 := Nat.and_le_left
  omega
theorem sub_next : ∀ (f x i s : Nat), i ≤ f → i &&& x = i → s &&& x = s → s < i → s ≤ (i - 1) &&& x := by
  intro f
  induction f with
  | zero => intro x i s hf _ _ h; omega
  | succ f ih =>
    intro x i s hf hi' hs' h
    obtain ⟨i1, i2⟩ := sub_half hi'
    obtain ⟨s1, s2⟩ := sub_half hs'
    have e := and_two (i - 1) x 1
    rw [show 2 ^ 1 = 2 from rfl] at e
    by_cases hb : i % 2 = 1
    · have e1 : (i - 1) % 2 = 0 := by omega
      have e2 : (i - 1) / 2 = i / 2 := by omega
      rw [e1, e2, i2, Nat.zero_and] at e
      omega
    · have e1 : (i - 1) % 2 = 1 := by omega
      have e2 : (i - 1) / 2 = i / 2 - 1 := by omega
      rw [e1, e2] at e
      have hx : (1 &&& x % 2) = x % 2 := by
        rcases (show x % 2 = 0 ∨ x % 2 = 1 by omega) with k | k <;> rw [k] <;> decide
      have hsx : s % 2 ≤ x % 2 := by
        have : (s % 2 &&& x % 2) ≤ x % 2 := Nat.and_le_right
        omega
      rcases Nat.lt_or_ge (s / 2) (i / 2) with k | k
      · have := ih (x / 2) (i / 2) (s / 2) (by omega) i2 s2 k
        rw [hx] at e
        omega
      · omega
section CubesM
variable {n a d : Int} {L : List Ln} {v : VT} {K : Int → Prop}
theorem na_bits (hD : kc L ≤ 23) {t : Int} (ht : ∀ k : Nat, tb t k = true → (k : Int) < kc L) : (na n L (i_or (sd L (kc L) a) t) = -1 ∧ ¬ hasN n L (fun e => hs L e a ∨ tb t e.toNat = true)) ∨ (na n L (i_or (sd L (kc L) a) t) ≠ -1 ∧ hasN n L (fun e => hs L e a ∨ tb t e.toNat = true)) := by
  have bit : ∀ k : Nat, tb (i_or (sd L (kc L) a) t) k = true ↔ ((k : Int) < kc L ∧ hs L (k : Int) a) ∨ tb t k = true := fun k => by
    rw [tb_or, Bool.or_eq_true, sd_tb hD]
  rcases na_spec n L (i_or (sd L (kc L) a) t) with ⟨h1, h2⟩ | ⟨h1, h2, h3, -⟩
  · refine Or.inl ⟨h1, fun ⟨c', hc', he⟩ => h2 c' hc'.1 hc'.2 ?_⟩
    refine tb_ext (by rw [sd_bs]; exact bs_r _ _) (r32_or _ _) (fun k _ => ?_)
    rw [Bool.eq_iff_iff, bit, sd_tb hD]
    constructor
    · intro ⟨g1, g2⟩
      rcases (he (k : Int) (by omega) g1).mp g2 with g | g
      · exact Or.inl ⟨g1, g⟩
      · exact Or.inr (by rwa [Int.toNat_natCast] at g)
    · rintro (⟨g1, g2⟩ | g)
      · exact ⟨g1, (he (k : Int) (by omega) g1).mpr (Or.inl g2)⟩
      · exact ⟨ht k g, (he (k : Int) (by omega) (ht k g)).mpr (Or.inr (by rw [Int.toNat_natCast]; exact g))⟩
  · refine Or.inr ⟨by omega, na n L (i_or (sd L (kc L) a) t), ⟨h1, h2⟩, fun e e0 e1 => ?_⟩
    have b1 := sd_tb hD (na n L (i_or (sd L (kc L) a) t)) e.toNat
    rw [h3, bit, Int.toNat_of_nonneg e0] at b1
    constructor
    · intro g
      rcases b1.mpr ⟨e1, g⟩ with k | k
      · exact Or.inl k.2
      · exact Or.inr k
    · intro g
      rcases g with k | k
      · exact (b1.mp (Or.inl ⟨e1, k⟩)).2
      · exact (b1.mp (Or.inr k)).2
theorem S_isCube {q : Int → Prop} (hn : 0 ≤ n ∧ n ≤ 24) (h0' : v 222 0 = n) (hD : kc L ≤ 23) (h8 : ∀ c : Int, 0 ≤ c → c < n → v 228 c.toNat = sd L (kc L) c) (ha : 0 ≤ a ∧ a < n) (hK : ∀ e : Int, 0 ≤ e → e < kc L → K e → ¬ hs L e a) (h0 : ¬ CB n L a K → q 0) (h1 : CB n L a K → q 1) : P_X11_isCube a (bs (kc L) K) v q := by
  have hk0 := kc_pos (L := L)
  have hsm := bs_small (n := kc L) (by omega) K
  have hX : (bs (kc L) K) = (((bs (kc L) K).toNat : Nat) : Int) := (Int.toNat_of_nonneg hsm.1).symm
  have bitX : ∀ k : Nat, k < 32 → ((bs (kc L) K).toNat.testBit k = true ↔ (k : Int) < kc L ∧ K (k : Int)) := fun k hk => by rw [← tb_int hsm.1 hk, bs_tb (by omega)]
  have sub : ∀ t : Nat, t &&& (bs (kc L) K).toNat = t → t < 16777216 ∧ ∀ k : Nat, tb (t : Int) k = true → (k : Int) < kc L ∧ K (k : Int) := fun t ht => by
    have hle : t ≤ (bs (kc L) K).toNat := by rw [← ht]; exact Nat.and_le_right
    refine ⟨by omega, fun k hk => ?_⟩
    by_cases hk2 : k < 32
    · rw [tb_nat k hk2, ← ht, Nat.testBit_and, Bool.and_eq_true] at hk
      exact (bitX k hk2).mp hk.2
    · rw [tb_big (by omega)] at hk; exact absurd hk (by decide)
  unfold P_X11_isCube
  intro X2 hX2
  refine wh1 (X := X2) (fun i3 => ∃ s : Nat, i3 = (s : Int) ∧ s &&& (bs (kc L) K).toNat = s ∧ ∀ t : Nat, t &&& (bs (kc L) K).toNat = t → s < t → hasN n L (fun e => hs L e a ∨ tb (t : Int) e.toNat = true)) (fun i3 => i3.toNat) ?_ ⟨(bs (kc L) K).toNat, hX, Nat.and_self _, fun t ht hlt => by
    have : t ≤ (bs (kc L) K).toNat := by rw [← ht]; exact Nat.and_le_right
    omega⟩
  intro i3 ⟨s, e3, hs', hall⟩ hnext
  subst e3
  apply hX2
  refine ⟨fun hz => h1 ⟨hK, fun p hp => ?_⟩, fun hpos => ⟨by omega, ?_⟩⟩
  · -- each set of directions within K
    have hbs := bs_small (n := kc L) (by omega) p
    have hsub : (bs (kc L) p).toNat &&& (bs (kc L) K).toNat = (bs (kc L) p).toNat := by
      refine Nat.eq_of_testBit_eq (fun k => ?_)
      rw [Nat.testBit_and]
      by_cases hk2 : k < 32
      · have := bitX k hk2
        have hb : (bs (kc L) p).toNat.testBit k = true ↔ (k : Int) < kc L ∧ p (k : Int) := by rw [← tb_int hbs.1 hk2, bs_tb (by omega)]
        rw [Bool.eq_iff_iff, Bool.and_eq_true, hb, this]
        exact ⟨fun g => g.1, fun g => ⟨g, g.1, hp (k : Int) (by omega) g.1 g.2⟩⟩
      · have : (bs (kc L) p).toNat.testBit k = false := Nat.testBit_lt_two_pow (Nat.lt_of_lt_of_le (show (bs (kc L) p).toNat < 2 ^ 32 by omega) (Nat.pow_le_pow_right (by decide) (by omega)))
        rw [this]; rfl
    have hbit : ∀ e : Int, 0 ≤ e → e < kc L → (tb (bs (kc L) p) e.toNat = true ↔ p e) := fun e e0 e1 => by
      rw [bs_tb (by omega), Int.toNat_of_nonneg e0]
      exact ⟨fun g => g.2, fun g => ⟨e1, g⟩⟩
    rcases Nat.eq_zero_or_pos (bs (kc L) p).toNat with hz2 | hz2
    · have hz3 : bs (kc L) p = 0 := by omega
      have hz4 := (bs_z (by omega) p).mp hz3
      exact ⟨a, ha, fun e e0 e1 => ⟨fun g => Or.inl g, fun g => by rcases g with k | k; exact k; exact absurd k (hz4 e e0 e1)⟩⟩
    · obtain ⟨c, hc, hcs⟩ := hall (bs (kc L) p).toNat hsub (by omega)
      rw [Int.toNat_of_nonneg hbs.1] at hcs
      refine ⟨c, hc, fun e e0 e1 => ?_⟩
      rw [hcs e e0 e1]
      exact ⟨fun g => by rcases g with k | k; exact Or.inl k; exact Or.inr ((hbit e e0 e1).mp k), fun g => by rcases g with k | k; exact Or.inl k; exact Or.inr ((hbit e e0 e1).mpr k)⟩
  · rw [h8 a ha.1 ha.2]
    obtain ⟨hs24, hsb⟩ := sub s hs'
    refine S_nodeAtM hn h0' h8 ?_
    rcases na_bits (n := n) (a := a) hD (t := (s : Int)) (fun k hk => (hsb k hk).1) with ⟨g1, g2⟩ | ⟨g1, g2⟩
    · rw [g1]
      refine ⟨fun k => absurd rfl k, fun _ => h0 (fun hC => g2 (hC.2 _ (fun e e0 e1 g => ?_)))⟩
      have := (hsb e.toNat g).2
      rwa [Int.toNat_of_nonneg e0] at this
    · refine ⟨fun _ => ⟨by omega, fun l3 el3 => hnext _ ⟨(s - 1) &&& (bs (kc L) K).toNat, ?_, ?_, fun t ht hlt => ?_⟩ ?_⟩, fun k => absurd k g1⟩
      · rw [el3]
        have := i_and_nat (a := s - 1) (b := (bs (kc L) K).toNat) (by omega) (by omega)
        rw [← hX, show ((s - 1 : Nat) : Int) = (s : Int) - 1 by omega] at this
        exact this
      · rw [Nat.and_assoc, Nat.and_self]
      · rcases Nat.lt_trichotomy t s with k | k | k
        · have := sub_next s (bs (kc L) K).toNat s t (Nat.le_refl _) hs' ht k
          omega
        · rw [k]; exact g2
        · exact hall t ht k
      · have e : l3 = (((s - 1) &&& (bs (kc L) K).toNat : Nat) : Int) := by
          rw [el3]
          have := i_and_nat (a := s - 1) (b := (bs (kc L) K).toNat) (by omega) (by omega)
          rw [← hX, show ((s - 1 : Nat) : Int) = (s : Int) - 1 by omega] at this
          exact this
        have hle : (s - 1) &&& (bs (kc L) K).toNat ≤ s - 1 := Nat.and_le_left
        rw [e]
        omega
noncomputable def sp_cubes (n : Int) (L : List Ln) (k : Int) : Int := @ite _ (st n L ∧ 0 ≤ k) (Classical.propDecidable _) (if 4 < k then 0 else fb_si (fun a => ctP n (gu n L (a : Int) (fun _ => False) 0 k)) n.toNat) (-1)
theorem cdn_F : cdn (kc L) (fun _ => False) = 0 := fb_ct_zero.mpr (fun _ _ => Bool.eq_false_iff.mpr (fun g => dcd.mp g))
theorem sum_r (hn : 0 ≤ n ∧ n ≤ 24) {k : Int} : ∀ m : Nat, (m : Int) ≤ n → 0 ≤ fb_si (fun a => ctP n (gu n L (a : Int) (fun _ => False) 0 k)) m ∧ fb_si (fun a => ctP n (gu n L (a : Int) (fun _ => False) 0 k)) m ≤ 24 * (m : Int)
  | 0, _ => by show (0 : Int) ≤ 0 ∧ (0 : Int) ≤ 24 * 0; omega
  | m + 1, h => by
    have ih := sum_r hn (k := k) m (by omega)
    have := ctP_r (n := n) hn.1 (gu n L (m : Int) (fun _ => False) 0 k)
    rw [fb_si_succ]
    omega
theorem SX_cubes {k : Int} {q : Int → VT → Prop} (w : wfL n L) (hn : 0 ≤ n ∧ n ≤ 24) (h : XC v n L) (hq : ∀ v', XF v v' → XC v' n L → q (sp_cubes n L k) v') : P_X10_cubes k v q := by
  unfold P_X10_cubes
  refine ⟨fun hk => ?_, fun hk => S_seat w hn h (fun v1 f1 c1 _ _ _ _ s1 => ?_)⟩
  · have := hq v (XF_rf v) h
    unfold sp_cubes at this
    rwa [if_neg (fun g => by have := g.2; omega)] at this
  · have hq1 := hq v1 f1 c1
    unfold sp_cubes at hq1
    rcases s1.2.2.2 with ⟨a1, a2, a3, a4, a5, a6, a7⟩ | ⟨a1, a2, a3⟩
    · rw [a1]
      refine ⟨fun _ => ?_, fun g => absurd g (by decide)⟩
      rw [if_pos ⟨a2, hk⟩] at hq1
      have hk23 : kc L ≤ 23 := by omega
      have hk0 := kc_pos (L := L)
      unfold P_X8_countCubes
      rw [s1.1]
      intro X4 hX4
      by_cases h4 : 4 < k
      · rw [if_pos h4] at hq1
        apply hX4
        exact ⟨fun _ => hq1, fun g => by omega⟩
      · rw [if_neg h4] at hq1
        refine up2r (X := X4) n (fun i s => 0 ≤ i ∧ s = fb_si (fun a => ctP n (gu n L (a : Int) (fun _ => False) 0 k)) i.toNat) ?_ hn.1 ⟨by omega, rfl⟩
        intro s i hle ⟨i0, hs'⟩ hnext
        apply hX4
        refine ⟨fun g => absurd g h4, fun _ => ⟨fun hge => ?_, fun hlt => ?_⟩⟩
        · rw [hs', show i.toNat = n.toNat by omega]; exact hq1
        · have hc : i_shl 1 i = bs n (cor L i (fun _ => False)) := by
            refine bs_eq (by omega) (r32_shl _ _) (fun j hj => ?_)
            rw [tb_shl1' (by omega), decide_eq_true_iff]
            constructor
            · intro e
              rw [show (j : Int) = i by omega]
              exact ⟨hlt, fun e e0 e1 => ⟨fun g => g, fun g => Or.inl g⟩⟩
            · intro ⟨g1, g2⟩
              have : (j : Int) = i := node_one w a3 ⟨by omega, g1⟩ ⟨i0, hlt⟩ (fun e e0 e1 => ⟨fun g => by rcases (g2 e e0 e1).2 g with x | x; exact x; exact absurd x (fun y => y), (g2 e e0 e1).1⟩)
              omega
          have hcb : CB n L i (fun _ => False) := ⟨fun e _ _ g => absurd g (fun y => y), fun p hp => ⟨i, ⟨i0, hlt⟩, fun e e0 e1 => ⟨fun g => Or.inl g, fun g => by rcases g with x | x; exact x; exact absurd (hp e e0 e1 x) (fun y => y)⟩⟩⟩
          rw [hc]
          have r1 := sum_r (L := L) hn (k := k) i.toNat (by omega)
          have r2 := ctP_r (n := n) hn.1 (gu n L i (fun _ => False) 0 k)
          refine S_cubesOn w a3 hn s1.1 a5 hk23 a6 a7 ⟨i0, hlt⟩ 6 (fun _ => False) 0 k _ (by omega) (by omega) (by omega) (by omega) (fun e g => absurd g (fun y => y)) hcb ⟨by omega, by omega, hnext hlt _ ⟨by omega, ?_⟩⟩
          rw [show (i + 1).toNat = i.toNat + 1 by omega, fb_si_succ, hs', Int.toNat_of_nonneg i0]
    · rw [a1]
      rw [if_neg (fun g => a2 g.1)] at hq1
      exact ⟨fun g => absurd rfl g, fun _ => hq1⟩
theorem SM_cubes {k : Int} {q : Int → VT → Prop} (w : wfL n L) (hn : 0 ≤ n ∧ n ≤ 24) (h : MC v n L) (hq : ∀ v', MF v v' → MC v' n L → q (sp_cubes n L k) v') : P_X11_cubes k v q := by
  unfold P_X11_cubes
  refine S_sits w hn h (fun v1 f1 c1 l1 s1 => ⟨fun hst => ⟨fun g => absurd g (by decide), fun _ => ?_⟩, fun hst => ⟨fun _ => ?_, fun g => absurd rfl g⟩⟩)
  · have hq1 := hq v1 f1 c1
    unfold sp_cubes at hq1
    obtain ⟨hp, hkc, h8⟩ := s1.2.2.2 hst.1
    have hk23 : kc L ≤ 23 := by have := hkc hst.2; omega
    have hk0 := kc_pos (L := L)
    refine ⟨fun hk => ?_, fun hk => by rwa [if_neg (fun g => by have := g.2; omega)] at hq1⟩
    rw [if_pos ⟨hst, hk⟩] at hq1
    rw [c1.1.1]
    -- one count, by node
    have one : ∀ (i u : Int), 0 ≤ i → i < n → 0 ≤ u → u < n → ∀ (X30 : Int → Int → Prop) (s : Int), (0 ≤ s ∧ s ≤ 600) → (((¬ (4 < k)) ∧ gu n L i (fun _ => False) 0 k u) → X30 (s + 1) (u + 1)) → ((¬ ((¬ (4 < k)) ∧ gu n L i (fun _ => False) 0 k u)) → X30 (s + 0) (u + 1)) → (0 ≤ u ∧ u < 24) ∧ (0 ≤ i ∧ i < 24) ∧ ∀ l5 : Int, l5 = (i_and (v1 228 u.toNat) (i_xor (v1 228 i.toNat) (-1))) → (0 ≤ i ∧ i < 24) ∧ (0 ≤ u ∧ u < 24) ∧ ((¬ (i_and (v1 228 i.toNat) (i_xor (v1 228 u.toNat) (-1))) = 0) → P_X11_flag 0 v1 (fun r108 => (-2147483648 ≤ s + r108 ∧ s + r108 ≤ 2147483647) ∧ (-2147483648 ≤ u + 1 ∧ u + 1 ≤ 2147483647) ∧ X30 (s + r108) (u + 1))) ∧ (((i_and (v1 228 i.toNat) (i_xor (v1 228 u.toNat) (-1))) = 0) → P_X11_count l5 v1 (fun r81 => ((¬ r81 = k) → P_X11_flag 0 v1 (fun r108_1 => (-2147483648 ≤ s + r108_1 ∧ s + r108_1 ≤ 2147483647) ∧ ∀ l2 : Int, l2 = (s + r108_1) → (-2147483648 ≤ u + 1 ∧ u + 1 ≤ 2147483647) ∧ X30 l2 (u + 1))) ∧ ((r81 = k) → ((4 < k) → P_X11_flag 0 v1 (fun r108_2 => (-2147483648 ≤ s + r108_2 ∧ s + r108_2 ≤ 2147483647) ∧ ∀ l2_1 : Int, l2_1 = (s + r108_2) → (-2147483648 ≤ u + 1 ∧ u + 1 ≤ 2147483647) ∧ X30 l2_1 (u + 1))) ∧ ((k ≤ 4) → P_X11_isCube i l5 v1 (fun r97 => ((r97 = 0) → P_X11_flag 0 v1 (fun r108_3 => (-2147483648 ≤ s + r108_3 ∧ s + r108_3 ≤ 2147483647) ∧ ∀ l2_2 : Int, l2_2 = (s + r108_3) → (-2147483648 ≤ u + 1 ∧ u + 1 ≤ 2147483647) ∧ X30 l2_2 (u + 1))) ∧ ((¬ r97 = 0) → P_X11_flag 1 v1 (fun r108_4 => (-2147483648 ≤ s + r108_4 ∧ s + r108_4 ≤ 2147483647) ∧ ∀ l2_3 : Int, l2_3 = (s + r108_4) → (-2147483648 ≤ u + 1 ∧ u + 1 ≤ 2147483647) ∧ X30 l2_3 (u + 1)))))))) := by
      intro i u i0 i1 u0 u1 X30 s hs' hyes hno
      have no : ∀ (_ : ¬ ((¬ (4 < k)) ∧ gu n L i (fun _ => False) 0 k u)), P_X11_flag 0 v1 (fun r108 => (-2147483648 ≤ s + r108 ∧ s + r108 ≤ 2147483647) ∧ ∀ l2 : Int, l2 = (s + r108) → (-2147483648 ≤ u + 1 ∧ u + 1 ≤ 2147483647) ∧ X30 l2 (u + 1)) := fun hn' => by
        unfold P_X11_flag
        exact ⟨fun _ => ⟨by omega, fun l2 e2 => ⟨by omega, by rw [e2]; exact hno hn'⟩⟩, fun g => absurd rfl g⟩
      rw [h8 u u0 u1, h8 i i0 i1, sd_bs, sd_bs, bs_not (by omega), bs_not (by omega)]
      refine ⟨by omega, by omega, fun l5 e5 => ⟨by omega, by omega, fun hz => ?_, fun hz => ?_⟩⟩
      · have hn' : ¬ ((¬ (4 < k)) ∧ gu n L i (fun _ => False) 0 k u) := fun g => hz ((bs_z (by omega) _).mpr (fun e e0 e1 g2 => g2.2 (g.2.1 e e0 e1 g2.1)))
        unfold P_X11_flag
        exact ⟨fun _ => ⟨by omega, by omega, hno hn'⟩, fun g => absurd rfl g⟩
      · have hz' := (bs_z (by omega) _).mp hz
        have hsub : ∀ e : Int, 0 ≤ e → e < kc L → hs L e i → hs L e u := fun e e0 e1 g => Classical.byContradiction fun g2 => hz' e e0 e1 ⟨g, g2⟩
        have e5' : l5 = bs (kc L) (df L i u) := e5
        rw [e5']
        have hcount : pc (bs (kc L) (df L i u)) = (cdn (kc L) (df L i u) : Int) := by
          unfold pc cdn
          have hsp := fb_ct_split (tb (bs (kc L) (df L i u))) (kc L).toNat (24 - (kc L).toNat)
          rw [show (kc L).toNat + (24 - (kc L).toNat) = 24 by omega] at hsp
          have hzz : fb_ct (fun j => tb (bs (kc L) (df L i u)) ((kc L).toNat + j)) (24 - (kc L).toNat) = 0 := fb_ct_zero.mpr (fun j hj => Bool.eq_false_iff.mpr (fun g => by have := ((bs_tb (by omega) _ _).mp g).1; omega))
          rw [hsp, hzz, Nat.add_zero]
          rw [fb_ct_cong (q := fun e => @decide (df L i u ((e : Nat) : Int)) (Classical.propDecidable _)) (fun j hj => by
            rw [Bool.eq_iff_iff, bs_tb (by omega), dcd]
            exact ⟨fun g => g.2, fun g => ⟨by omega, g⟩⟩)]
        have hguk : gu n L i (fun _ => False) 0 k u ↔ CB n L i (df L i u) ∧ (cdn (kc L) (df L i u) : Int) = k := by
          unfold gu
          rw [cdn_F]
          exact ⟨fun g => ⟨g.2.1, by have := g.2.2.2; omega⟩, fun g => ⟨hsub, g.1, fun e e0 e1 e2 => by omega, by omega⟩⟩
        refine S_count ⟨fun g => no (fun g2 => g (by rw [hcount]; exact (hguk.mp g2.2).2)), fun g => ⟨fun g4 => no (fun g2 => g2.1 g4), fun g4 => ?_⟩⟩
        refine S_isCube hn c1.1.1 hk23 h8 ⟨i0, i1⟩ (fun e _ _ g => g.2) (fun hC => ⟨fun _ => no (fun g2 => hC (hguk.mp g2.2).1), fun g2 => absurd rfl g2⟩) (fun hC => ⟨fun g2 => absurd g2 (by decide), fun _ => ?_⟩)
        unfold P_X11_flag
        exact ⟨fun g2 => absurd g2 (by decide), fun _ => ⟨by omega, fun l2 e2 => ⟨by omega, by rw [e2]; exact hyes ⟨by omega, hguk.mpr ⟨hC, by rw [← hcount]; exact g⟩⟩⟩⟩⟩
    intro X17 hX17
    refine up2r (X := X17) n (fun i s => 0 ≤ i ∧ s = if 4 < k then 0 else fb_si (fun a => ctP n (gu n L (a : Int) (fun _ => False) 0 k)) i.toNat) ?_ hn.1 ⟨by omega, by split <;> rfl⟩
    intro s i hle ⟨i0, hs'⟩ hnext
    apply hX17
    refine ⟨fun hge => ?_, fun hlt => ?_⟩
    · rw [hs', show i.toNat = n.toNat by omega]; exact hq1
    · have r1 := sum_r (L := L) hn (k := k) i.toNat (by omega)
      have hsr : 0 ≤ s ∧ s ≤ 552 := by rw [hs']; split <;> omega
      intro X30 hX30
      refine up2r (X := X30) n (fun u s2 => 0 ≤ u ∧ s2 = s + (if 4 < k then 0 else ctP u (gu n L i (fun _ => False) 0 k))) ?_ hn.1 ⟨by omega, by
        have : ctP 0 (gu n L i (fun _ => False) 0 k) = 0 := rfl
        rw [this]; split <;> omega⟩
      intro s2 u hle2 ⟨u0, hs2⟩ hnext2
      have r2 := ctP_r (n := u) u0 (gu n L i (fun _ => False) 0 k)
      apply hX30
      refine ⟨fun hge2 => ⟨by omega, hnext hlt _ ⟨by omega, ?_⟩⟩, fun hlt2 => one i u i0 hlt u0 hlt2 X30 s2 (by rw [hs2]; split <;> omega) (fun g => hnext2 hlt2 _ ⟨by omega, ?_⟩) (fun g => hnext2 hlt2 _ ⟨by omega, ?_⟩)⟩
      · rw [hs2, hs', show u = n by omega]
        by_cases h4 : 4 < k
        · rw [if_pos h4, if_pos h4, if_pos h4]; omega
        · rw [if_neg h4, if_neg h4, if_neg h4, show (i + 1).toNat = i.toNat + 1 by omega, fb_si_succ, Int.toNat_of_nonneg i0]
      · rw [hs2, if_neg g.1, if_neg g.1]
        have : ctP (u + 1) (gu n L i (fun _ => False) 0 k) = ctP u (gu n L i (fun _ => False) 0 k) + 1 := by
          unfold ctP
          rw [show (u + 1).toNat = u.toNat + 1 by omega, fb_ct_succ, if_pos (dcd.mpr (by rw [Int.toNat_of_nonneg u0]; exact g.2))]
          omega
        rw [this]; omega
      · rw [hs2]
        by_cases h4 : 4 < k
        · rw [if_pos h4, if_pos h4]; omega
        · rw [if_neg h4, if_neg h4]
          have : ctP (u + 1) (gu n L i (fun _ => False) 0 k) = ctP u (gu n L i (fun _ => False) 0 k) := by
            unfold ctP
            rw [show (u + 1).toNat = u.toNat + 1 by omega, fb_ct_succ, if_neg (fun g2 => g ⟨h4, by have := dcd.mp g2; rwa [Int.toNat_of_nonneg u0] at this⟩)]
            rfl
          rw [this]; omega
  · have hq1 := hq v1 f1 c1
    unfold sp_cubes at hq1
    rwa [if_neg (fun g => hst g.1)] at hq1
theorem Q_cubes {v : VT} {t a : Int} (h : Inv t v) : P_X10_cubes a v (fun r v1 => P_X11_cubes a v1 (fun r' v2 => r = r' ∧ Inv (t + 1) v2)) := by
  obtain ⟨A, T, F, V, S, c, P, R, H, hA, hT, hX, hM⟩ := h
  exact q_two (fX := fun v q => P_X10_cubes a v q) (fM := fun v q => P_X11_cubes a v q) hA hT hX hM (fun q hq => SX_cubes hA.2.1 hA.1 hX.1 hq) (fun v1 q m1 hq => SM_cubes hA.2.1 hA.1 m1.1 hq)
end CubesM

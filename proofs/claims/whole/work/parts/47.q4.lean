/-! ===== sets as bits: and, or, none, all ===== -/
theorem bs_and {n : Int} (hn : n ≤ 32) (p p' : Int → Prop) : i_and (bs n p) (bs n p') = bs n (fun c => p c ∧ p' c) := by
  refine bs_eq hn (r32_and _ _) (fun k _ => ?_)
  rw [tb_and, Bool.and_eq_true, bs_tb hn, bs_tb hn]
  exact ⟨fun h => ⟨h.1.1, h.1.2, h.2.2⟩, fun h => ⟨⟨h.1, h.2.1⟩, ⟨h.1, h.2.2⟩⟩⟩
theorem bs_or {n : Int} (hn : n ≤ 32) (p p' : Int → Prop) : i_or (bs n p) (bs n p') = bs n (fun c => p c ∨ p' c) := by
  refine bs_eq hn (r32_or _ _) (fun k _ => ?_)
  rw [tb_or, Bool.or_eq_true, bs_tb hn, bs_tb hn]
  exact ⟨fun h => h.elim (fun h => ⟨h.1, Or.inl h.2⟩) (fun h => ⟨h.1, Or.inr h.2⟩), fun h => h.2.elim (fun g => Or.inl ⟨h.1, g⟩) (fun g => Or.inr ⟨h.1, g⟩)⟩
theorem bs_z {n : Int} (hn : n ≤ 32) (p : Int → Prop) : bs n p = 0 ↔ ∀ c : Int, 0 ≤ c → c < n → ¬ p c := by
  refine ⟨fun h c c1 c2 hp => ?_, fun h => bs_false hn h⟩
  have := (bs_tb hn p c.toNat).mpr (by rw [Int.toNat_of_nonneg c1]; exact ⟨c2, hp⟩)
  rw [h, tb_0] at this
  exact absurd this (by decide)
theorem bs_all {n : Int} (hn : 0 ≤ n ∧ n ≤ 30) : i_shl 1 n - 1 = bs n (fun _ => True) := by
  have := r_all hn
  refine bs_eq (by omega) (by unfold r32; omega) (fun k _ => ?_)
  rw [tb_all hn, decide_eq_true_eq]
  exact ⟨fun h => ⟨by omega, trivial⟩, fun h => by omega⟩
theorem bs_not {n : Int} (hn : n ≤ 32) (p p' : Int → Prop) : i_and (bs n p) (i_xor (bs n p') (-1)) = bs n (fun c => p c ∧ ¬ p' c) := by
  refine bs_eq hn (r32_and _ _) (fun k hk => ?_)
  rw [tb_and, tb_not _ hk, Bool.and_eq_true, bs_tb hn, Bool.not_eq_true']
  have h2 := bs_tb hn p' k
  constructor
  · intro h
    refine ⟨h.1.1, h.1.2, fun hp => ?_⟩
    rw [h2.mpr ⟨h.1.1, hp⟩] at h
    exact absurd h.2 (by decide)
  · intro h
    refine ⟨⟨h.1, h.2.1⟩, ?_⟩
    cases hb : tb (bs n p') k
    · rfl
    · exact absurd (h2.mp hb).2 h.2.2
theorem pc_bs {n : Int} (hn : 0 ≤ n ∧ n ≤ 24) (p : Int → Prop) : pc (bs n p) = (fb_ct (fun k => @decide (p (k : Int)) (Classical.propDecidable _)) n.toNat : Nat) := by
  unfold pc
  have h := fb_ct_split (fun k => tb (bs n p) k) n.toNat (24 - n.toNat)
  rw [show n.toNat + (24 - n.toNat) = 24 by omega] at h
  have h3 : fb_ct (fun k => tb (bs n p) (n.toNat + k)) (24 - n.toNat) = 0 := fb_ct_zero.mpr (fun k _ => by
    cases hb : tb (bs n p) (n.toNat + k)
    · rfl
    · have := ((bs_tb (by omega) p _).mp hb).1
      omega)
  have h4 : fb_ct (fun k => tb (bs n p) k) n.toNat = fb_ct (fun k => @decide (p (k : Int)) (Classical.propDecidable _)) n.toNat := fb_ct_cong (fun k hk => by
    have hb := bs_tb (n := n) (by omega) p k
    by_cases hp : p (k : Int)
    · rw [hb.mpr ⟨by omega, hp⟩]; exact (@decide_eq_true _ (Classical.propDecidable _) hp).symm
    · rw [show tb (bs n p) k = false from by cases hc : tb (bs n p) k; rfl; exact absurd (hb.mp hc).2 hp]
      exact (@decide_eq_false _ (Classical.propDecidable _) hp).symm)
  show ((fb_ct (fun k => tb (bs n p) k) 24 : Nat) : Int) = _
  rw [h, h3, h4]
  rfl
theorem i_dr : ∀ m ∈ List.range 256, i_div (m : Int) 2 = (m / 2 : Nat) ∧ i_rem (m : Int) 2 = (m % 2 : Nat) := by decide +kernel
theorem i_dr' {x : Int} (h : 0 ≤ x ∧ x < 256) : i_div x 2 = x / 2 ∧ i_rem x 2 = x % 2 := by
  have := i_dr x.toNat (List.mem_range.mpr (by omega))
  rw [Int.toNat_of_nonneg h.1] at this
  omega
/-! ===== halves ===== -/
noncomputable def hf (n : Int) (L : List Ln) (y : Int) : Int := bs n (fun c => hs L (y / 2) c ↔ y % 2 = 1)
theorem S_halfOf {n y : Int} {L : List Ln} {v : VT} {q : Int → Prop} (hn : 0 ≤ n ∧ n ≤ 24) (h5 : v 197 5 = n) (hk : kc L ≤ 23) (h9 : ∀ d : Int, 0 ≤ d → d < kc L → v 199 d.toNat = bs n (hs L d)) (hy : 0 ≤ y ∧ y < 2 * kc L) (hq : q (hf n L y)) : P_X8_halfOf y v q := by
  unfold P_X8_halfOf
  obtain ⟨e1, e2⟩ := i_dr' (x := y) (by omega)
  rw [e1, e2, h5, h9 (y / 2) (by omega) (by omega)]
  refine ⟨fun h => S_allBits ⟨hn.1, by omega⟩ ⟨by omega, ?_⟩, fun h => ⟨by omega, ?_⟩⟩
  · rw [bs_all ⟨hn.1, by omega⟩, bs_not (by omega)]
    unfold hf at hq
    rw [bs_congr (by omega) (fun k k0 k1 => (⟨fun g => ⟨trivial, fun g2 => h (g.mp g2)⟩, fun g => ⟨fun g2 => absurd g2 g.2, fun g2 => absurd g2 h⟩⟩ : (hs L (y / 2) k ↔ y % 2 = 1) ↔ (True ∧ ¬ hs L (y / 2) k)))] at hq
    exact hq
  · unfold hf at hq
    rw [bs_congr (by omega) (fun k k0 k1 => (⟨fun g => g.mpr h, fun g => ⟨fun _ => h, fun _ => g⟩⟩ : (hs L (y / 2) k ↔ y % 2 = 1) ↔ hs L (y / 2) k))] at hq
    exact hq
theorem S_all {n : Int} {L : List Ln} {v : VT} {q : Int → Prop} (hn : 0 ≤ n ∧ n ≤ 24) (hg : mG v 222 n L) (hq : q (i_shl 1 n - 1)) : P_X11_all v q := by
  unfold P_X11_all
  rw [hg.1]
  have := r_all (n := n) ⟨hn.1, by omega⟩
  exact ⟨by omega, hq⟩
theorem S_half {n y : Int} {L : List Ln} {v : VT} {q : Int → Prop} (hn : 0 ≤ n ∧ n ≤ 24) (hg : mG v 222 n L) (hk : kc L ≤ 23) (hs' : ∀ c : Int, 0 ≤ c → c < n → v 228 c.toNat = sd L (kc L) c) (hy : 0 ≤ y ∧ y < 2 * kc L) (hq : q (hf n L y)) : P_X11_half y v q := by
  unfold P_X11_half
  obtain ⟨e1, e2⟩ := i_dr' (x := y) (by omega)
  rw [e1, e2]
  refine ⟨fun h => S_all hn hg (S_sideOne hn hg ⟨by omega, by omega⟩ hk hs' ?_), fun h => S_sideOne hn hg ⟨by omega, by omega⟩ hk hs' ?_⟩
  · rw [bs_all ⟨hn.1, by omega⟩, bs_not (by omega)]
    unfold hf at hq
    rw [bs_congr (by omega) (fun k k0 k1 => (⟨fun g => ⟨trivial, fun g2 => h (g.mp g2)⟩, fun g => ⟨fun g2 => absurd g2 g.2, fun g2 => absurd g2 h⟩⟩ : (hs L (y / 2) k ↔ y % 2 = 1) ↔ (True ∧ ¬ hs L (y / 2) k)))] at hq
    exact hq
  · unfold hf at hq
    rw [bs_congr (by omega) (fun k k0 k1 => (⟨fun g => g.mpr h, fun g => ⟨fun _ => h, fun _ => g⟩⟩ : (hs L (y / 2) k ↔ y % 2 = 1) ↔ hs L (y / 2) k))] at hq
    exact hq
section Q4
variable {n : Int} {L : List Ln} {v : VT} {q : Int → VT → Prop}
/-- cross: how many of the four pairs of sides have a node -/
def hp (n : Int) (L : List Ln) (a b : Int) (t : Int) : Prop := ∃ c : Int, 0 ≤ c ∧ c < n ∧ (hs L a c ↔ t / 2 = 1) ∧ (hs L b c ↔ t % 2 = 1)
noncomputable def np (n : Int) (L : List Ln) (a b : Int) : Int := (fb_ct (fun t => @decide (hp n L a b (t : Int)) (Classical.propDecidable _)) 4 : Nat)
theorem S_countPairs {a b : Int} {q : Int → Prop} (hn : 0 ≤ n ∧ n ≤ 24) (h5 : v 197 5 = n) (hk : kc L ≤ 23) (h9 : ∀ d : Int, 0 ≤ d → d < kc L → v 199 d.toNat = bs n (hs L d)) (ha : 0 ≤ a ∧ a < kc L) (hb : 0 ≤ b ∧ b < kc L) (hq : q (np n L a b)) : P_X8_countPairs a b v q := by
  unfold P_X8_countPairs
  intro X5 hX5
  refine up2r (X := X5) 4 (fun i acc => 0 ≤ i ∧ acc = (fb_ct (fun t => @decide (hp n L a b (t : Int)) (Classical.propDecidable _)) i.toNat : Nat)) ?_ (by omega) ⟨by omega, rfl⟩
  intro acc i hle ⟨i0, hacc⟩ hnext
  apply hX5
  refine ⟨fun hc => by rw [hacc, show i = 4 by omega]; exact hq, fun hc => ?_⟩
  obtain ⟨e1, e2⟩ := i_dr' (x := i) (by omega)
  rw [e1, e2]
  refine ⟨by omega, by omega, S_halfOf hn h5 hk h9 (by omega) ⟨by omega, by omega, S_halfOf hn h5 hk h9 (by omega) ?_⟩⟩
  unfold hf
  rw [bs_and (by omega), bs_z (by omega)]
  have hs2 : fb_ct (fun t => @decide (hp n L a b (t : Int)) (Classical.propDecidable _)) (i + 1).toNat = fb_ct (fun t => @decide (hp n L a b (t : Int)) (Classical.propDecidable _)) i.toNat + (if @decide (hp n L a b i) (Classical.propDecidable _) then 1 else 0) := by
    rw [show (i + 1).toNat = i.toNat + 1 by omega, fb_ct_succ, Int.toNat_of_nonneg i0]
  have hle2 := fb_ct_le (fun t => @decide (hp n L a b (t : Int)) (Classical.propDecidable _)) i.toNat
  have hiff : (∀ c : Int, 0 ≤ c → c < n → ¬ ((hs L ((2 * a + i / 2) / 2) c ↔ (2 * a + i / 2) % 2 = 1) ∧ (hs L ((2 * b + i % 2) / 2) c ↔ (2 * b + i % 2) % 2 = 1))) ↔ ¬ hp n L a b i := by
    rw [show (2 * a + i / 2) / 2 = a by omega, show (2 * b + i % 2) / 2 = b by omega, show ((2 * a + i / 2) % 2 = 1) = (i / 2 = 1) by apply propext; omega, show ((2 * b + i % 2) % 2 = 1) = (i % 2 = 1) by apply propext; omega]
    exact ⟨fun h ⟨c, c1, c2, c3⟩ => h c c1 c2 c3, fun h c c1 c2 c3 => h ⟨c, c1, c2, c3⟩⟩
  rw [hiff]
  refine ⟨fun h => ⟨by omega, hnext hc _ ⟨by omega, ?_⟩⟩, fun h => ⟨by omega, by omega, hnext hc _ ⟨by omega, ?_⟩⟩⟩
  · rw [hs2, if_neg (by simpa using h)]; omega
  · rw [hs2, if_pos (by simpa using h)]; omega
theorem S_pairsOf {a b : Int} {q : Int → Prop} (hn : 0 ≤ n ∧ n ≤ 24) (hg : mG v 222 n L) (hk : kc L ≤ 23) (hs' : ∀ c : Int, 0 ≤ c → c < n → v 228 c.toNat = sd L (kc L) c) (ha : 0 ≤ a ∧ a < kc L) (hb : 0 ≤ b ∧ b < kc L) (hq : q (np n L a b)) : P_X11_pairsOf a b v q := by
  unfold P_X11_pairsOf
  rw [hg.1]
  intro X5 hX5
  refine up2r (X := X5) n (fun i acc => 0 ≤ i ∧ acc = bs 4 (hp i L a b)) ?_ (by omega) ⟨by omega, (bs_false (by omega) (fun k k0 k1 ⟨c, c1, c2, _⟩ => by omega)).symm⟩
  intro acc i hle ⟨i0, hacc⟩ hnext
  apply hX5
  refine ⟨fun hc => S_count ?_, fun hc => ?_⟩
  · rw [hacc, show i = n by omega, pc_bs (by omega)]; exact hq
  · rw [hs' i i0 hc]
    have ta := sd_tb (L := L) hk i a.toNat
    have tb' := sd_tb (L := L) hk i b.toNat
    rw [Int.toNat_of_nonneg ha.1] at ta
    rw [Int.toNat_of_nonneg hb.1] at tb'
    rw [bit_at ⟨ha.1, by omega⟩, bit_at ⟨hb.1, by omega⟩]
    have key : ∀ x y : Int, (x = 0 ∨ x = 1) → (y = 0 ∨ y = 1) → (hs L a i ↔ x = 1) → (hs L b i ↔ y = 1) → i_or acc (i_shl 1 (2 * x + y)) = bs 4 (hp (i + 1) L a b) := by
      intro x y hx hy h1 h2
      refine bs_eq (by omega) (r32_or _ _) (fun k _ => ?_)
      rw [tb_or, tb_shl1' ⟨by omega, by omega⟩, Bool.or_eq_true, hacc, bs_tb (by omega), decide_eq_true_eq]
      constructor
      · rintro (⟨k1, c, c1, c2, c3⟩ | h)
        · exact ⟨k1, c, c1, by omega, c3⟩
        · refine ⟨by omega, i, i0, by omega, ?_, ?_⟩
          · rw [h1]; omega
          · rw [h2]; omega
      · rintro ⟨k1, c, c1, c2, c3, c4⟩
        by_cases e : c = i
        · rw [e] at c3 c4
          rw [h1] at c3
          rw [h2] at c4
          exact Or.inr (by omega)
        · exact Or.inl ⟨k1, c, c1, by omega, c3, c4⟩
    have k2 := key (if tb (sd L (kc L) i) a.toNat = true then 1 else 0) (if tb (sd L (kc L) i) b.toNat = true then 1 else 0) (by split <;> omega) (by split <;> omega)
      (by rw [show hs L a i ↔ tb (sd L (kc L) i) a.toNat = true from ⟨fun h => ta.mpr ⟨ha.2, h⟩, fun h => (ta.mp h).2⟩]; split <;> simp_all)
      (by rw [show hs L b i ↔ tb (sd L (kc L) i) b.toNat = true from ⟨fun h => tb'.mpr ⟨hb.2, h⟩, fun h => (tb'.mp h).2⟩]; split <;> simp_all)
    have r1 : ∀ p : Prop, ∀ [Decidable p], 0 ≤ (if p then (1 : Int) else 0) ∧ (if p then (1 : Int) else 0) ≤ 1 := fun p _ => by split <;> omega
    have ra := r1 (tb (sd L (kc L) i) a.toNat = true)
    have rb := r1 (tb (sd L (kc L) i) b.toNat = true)
    refine ⟨by omega, by omega, by omega, by omega, fun l3 e3 => ⟨by omega, hnext hc _ ⟨by omega, ?_⟩⟩⟩
    rw [e3, k2]
noncomputable def sp_cross (n : Int) (L : List Ln) (a b : Int) : Int := @ite _ ((st n L ∧ 0 ≤ a ∧ a < kc L) ∧ (st n L ∧ 0 ≤ b ∧ b < kc L) ∧ a ≠ b) (Classical.propDecidable _) (np n L a b) (-1)
theorem SX_cross {a b : Int} (w : wfL n L) (hn : 0 ≤ n ∧ n ≤ 24) (h : XC v n L) (hq : ∀ v', XF v v' → XC v' n L → q (sp_cross n L a b) v') : P_X10_cross a b v q := by
  unfold P_X10_cross
  have no : ∀ v', XF v v' → XC v' n L → ¬ ((st n L ∧ 0 ≤ a ∧ a < kc L) ∧ (st n L ∧ 0 ≤ b ∧ b < kc L) ∧ a ≠ b) → q (-1) v' := fun v' f c hc => by
    have := hq v' f c
    unfold sp_cross at this; rwa [if_neg hc] at this
  refine ⟨fun e => no v (XF_rf v) h (fun g => g.2.2 e), fun e => ?_⟩
  refine S_isDirection w hn h (fun v1 f1 c1 k1 m1 d1 o1 s1 => ⟨fun ha => ⟨fun h => absurd h (by decide), fun _ => ?_⟩, fun ha => ⟨fun _ => no v1 f1 c1 (fun g => ha g.1), fun h => absurd rfl h⟩⟩)
  refine S_isDirection w hn c1 (fun v2 f2 c2 k2 m2 d2 o2 s2 => ⟨fun hb => ⟨fun _ => ?_, fun h => absurd h (by decide)⟩, fun hb => ⟨fun h => absurd rfl h, fun _ => no v2 (XF_trans f1 f2) c2 (fun g => hb g.2.1)⟩⟩)
  have := hq v2 (XF_trans f1 f2) c2
  unfold sp_cross at this
  rw [if_pos ⟨ha, hb, e⟩] at this
  rcases s2.2.2.2 with ⟨a1, a2, a3, a4, a5, a6, a7⟩ | ⟨a1, a2, a3⟩
  · exact S_countPairs hn s2.1 (by omega) a7 ha.2 hb.2 this
  · exact absurd ha.1 a2
theorem SM_cross {a b : Int} (w : wfL n L) (hn : 0 ≤ n ∧ n ≤ 24) (h : MC v n L) (hq : ∀ v', MF v v' → MC v' n L → q (sp_cross n L a b) v') : P_X11_cross a b v q := by
  unfold P_X11_cross
  have no : ∀ v', MF v v' → MC v' n L → ¬ ((st n L ∧ 0 ≤ a ∧ a < kc L) ∧ (st n L ∧ 0 ≤ b ∧ b < kc L) ∧ a ≠ b) → q (-1) v' := fun v' f c hc => by
    have := hq v' f c
    unfold sp_cross at this; rwa [if_neg hc] at this
  refine S_isDirectionM w hn h (fun v1 f1 c1 l1 s1 => ⟨fun ha => ⟨fun h => absurd h (by decide), fun _ => ?_⟩, fun ha => ⟨fun _ => no v1 f1 c1 (fun g => ha g.1), fun h => absurd rfl h⟩⟩)
  refine S_isDirectionM w hn c1 (fun v2 f2 c2 l2 s2 => ⟨fun hb => ⟨fun h => absurd h (by decide), fun _ => ⟨fun e => no v2 (MF_trans f1 f2) c2 (fun g => g.2.2 e), fun e => ?_⟩⟩, fun hb => ⟨fun _ => no v2 (MF_trans f1 f2) c2 (fun g => hb g.2.1), fun h => absurd rfl h⟩⟩)
  have := hq v2 (MF_trans f1 f2) c2
  unfold sp_cross at this
  rw [if_pos ⟨ha, hb, e⟩] at this
  obtain ⟨b1, b2, b3⟩ := s2.2.2.2 ha.1.1
  have b2 := b2 ha.1.2
  exact S_pairsOf hn c2.1 (by omega) b3 ha.2 hb.2 this
end Q4

/-! ===== rows seen: fits, tells ===== -/
theorem i_shl0 : ∀ k ∈ List.range 32, i_shl 0 (k : Int) = 0 := by decide +kernel
theorem i_or0 {x : Int} (h : r32 x) : i_or x 0 = x := tb_ext (r32_or _ _) h (fun k _ => by rw [tb_or, tb_0, Bool.or_false])
section Q12
variable {n : Int} {L : List Ln} {v : VT} {q : Int → VT → Prop}
def asS (L : List Ln) (m : Int) (g h : Int → Int) (c : Int) : Prop := ∀ i : Int, 0 ≤ i → i < m → dd L c (g i) = h i
noncomputable def fs (n : Int) (L : List Ln) (m : Int) (g h : Int → Int) : Int := bs n (asS L m g h)
noncomputable def sp_fits (n : Int) (L : List Ln) (m : Int) (g h : Int → Int) : Int := @ite _ (0 < m ∧ aln n m g) (Classical.propDecidable _) (fs n L m g h) (-1)
theorem SX_fitsB {m : Int} {g h : Int → Int} (w : wfL n L) (hn : 0 ≤ n ∧ n ≤ 24) (hX : XC v n L) (h16 : v 0 16 = m) (hm' : 0 ≤ m ∧ m ≤ 12) (hg : ∀ i : Int, 0 ≤ i → i < m → v 214 i.toNat = g i) (hh : ∀ i : Int, 0 ≤ i → i < m → v 215 i.toNat = h i) (hno : ∀ v', XF v v' → XC v' n L → ¬ (0 < m ∧ aln n m g) → q (-1) v') (hq : ∀ v', mB v v' n L → (0 < m ∧ aln n m g) → q (fs n L m g h) v') : P_X10_fits v q := by
  unfold P_X10_fits
  rw [h16]
  refine ⟨fun h1 => hno v (XF_rf v) hX (by omega), fun h1 => ?_⟩
  refine S_areNodesStill hX.1 (by omega) (by omega) hg (fun ha => ⟨fun g => absurd rfl g, fun _ => hno v (XF_rf v) hX (fun g => ha g.2)⟩) (fun ha => ⟨fun _ => S_measB w hn hX (fun v1 b1 => ?_), fun g => absurd g (by decide)⟩)
  have hmt := b1.2.2.2.1
  have e16 : v1 0 16 = m := by rw [b1.1 0 (by omega)]; exact h16
  have eg : ∀ i : Int, 0 ≤ i → i < m → v1 214 i.toNat = g i := fun i i0 i1 => by rw [b1.1 214 (by omega)]; exact hg i i0 i1
  have eh : ∀ i : Int, 0 ≤ i → i < m → v1 215 i.toNat = h i := fun i i0 i1 => by rw [b1.1 215 (by omega)]; exact hh i i0 i1
  rw [b1.2.1.1.1]
  intro X33 hX33
  refine up2r (X := X33) n (fun i acc => 0 ≤ i ∧ acc = bs i (asS L m g h)) ?_ (by omega) ⟨by omega, rfl⟩
  intro acc i hle ⟨i0, hacc⟩ hnext
  apply hX33
  refine ⟨fun hc => by rw [hacc, show i = n by omega]; exact hq v1 b1 ⟨by omega, ha⟩, fun hc => ?_⟩
  unfold P_X10_isAsSeen
  rw [e16]
  intro X2 hX2
  refine up1 (X := X2) m (fun j => 0 ≤ j ∧ ∀ k : Int, 0 ≤ k → k < j → dd L i (g k) = h k) ?_ (by omega) ⟨by omega, fun k k0 k1 => by omega⟩
  intro j hle2 ⟨j0, hb⟩ hnext2
  apply hX2
  refine ⟨fun hc2 => ⟨fun g => absurd g (by decide), fun _ l1 e1 => ⟨by omega, hnext hc _ ⟨by omega, ?_⟩⟩⟩, fun hc2 => ?_⟩
  · rw [e1, hacc, bs_yes i0 (fun k k0 k1 => hb k k0 (by omega))]
  · have hgj := ha j j0 hc2
    rw [eg j j0 hc2, eh j j0 hc2, hmt.2.2.1 i (g j) i0 hc hgj.1 hgj.2]
    refine ⟨by omega, by omega, by omega, by omega, fun e => ⟨by omega, hnext2 hc2 ⟨by omega, fun k k0 k1 => ?_⟩⟩, fun e => ⟨fun _ => ⟨by omega, hnext hc _ ⟨by omega, ?_⟩⟩, fun g => absurd rfl g⟩⟩
    · by_cases ek : k = j
      · rw [ek]; exact e
      · exact hb k k0 (by omega)
    · rw [hacc, bs_no i0 (fun g2 => e (g2 j j0 hc2))]
theorem SX_fits {m : Int} {g h : Int → Int} (w : wfL n L) (hn : 0 ≤ n ∧ n ≤ 24) (hX : XC v n L) (h16 : v 0 16 = m) (hm' : 0 ≤ m ∧ m ≤ 12) (hg : ∀ i : Int, 0 ≤ i → i < m → v 214 i.toNat = g i) (hh : ∀ i : Int, 0 ≤ i → i < m → v 215 i.toNat = h i) (hq : ∀ v', XF v v' → XC v' n L → q (sp_fits n L m g h) v') : P_X10_fits v q := by
  unfold sp_fits at hq
  refine SX_fitsB w hn hX h16 hm' hg hh (fun v' f c hc => ?_) (fun v' b hc => ?_)
  · have := hq v' f c; rwa [if_neg hc] at this
  · have := hq v' b.1 b.2.1; rwa [if_pos hc] at this
theorem S_canFit {m : Int} {g : Int → Int} {q : Int → VT → Prop} (w : wfL n L) (hn : 0 ≤ n ∧ n ≤ 24) (hM : MC v n L) (h33 : v 218 33 = m) (hm' : 0 ≤ m ∧ m ≤ 12) (hg : ∀ i : Int, 0 ≤ i → i < m → v 238 (2 * i).toNat = g i) (hq : ∀ v', MF v v' → MC v' n L → laid v' n L → (¬ (0 < m ∧ aln n m g) → q 0 v') ∧ ((0 < m ∧ aln n m g) → q 1 v')) : P_X11_canFit v q := by
  unfold P_X11_canFit
  refine S_lays w hn hM (fun v1 f1 c1 l1 => ?_)
  have hq1 := hq v1 f1 c1 l1
  have e33 : v1 218 33 = m := by rw [f1.2 33 (by decide) (by decide) (by decide)]; exact h33
  rw [e33]
  intro X6 hX6
  refine up1 (X := X6) m (fun i => 0 ≤ i ∧ ∀ k : Int, 0 ≤ k → k < i → 0 ≤ g k ∧ g k < n) ?_ (by omega) ⟨by omega, fun k k0 k1 => by omega⟩
  intro i hle ⟨i0, hb⟩ hnext
  apply hX6
  refine ⟨fun hc => ⟨fun h => hq1.1 (by omega), fun h => hq1.2 ⟨h, fun k k0 k1 => hb k k0 (by omega)⟩⟩, fun hc => ⟨by omega, by omega, ?_⟩⟩
  rw [f1.1 238 (by omega), hg i i0 hc]
  refine S_isNodeM hn c1.1 (fun h => ⟨fun g => absurd rfl g, fun _ => hq1.1 (fun g => h (g.2 i i0 hc))⟩) (fun h => ⟨fun _ => ⟨by omega, hnext hc ⟨by omega, fun k k0 k1 => ?_⟩⟩, fun g => absurd g (by decide)⟩)
  by_cases e : k = i
  · rw [e]; exact h
  · exact hb k k0 (by omega)
theorem S_fitting {m : Int} {g h : Int → Int} {q : Int → Prop} (w : wfL n L) (hn : 0 ≤ n ∧ n ≤ 24) (hG : mG v 222 n L) (hf : frOK v n L) (h33 : v 218 33 = m) (hm' : 0 ≤ m ∧ m ≤ 12) (hg : ∀ i : Int, 0 ≤ i → i < m → v 238 (2 * i).toNat = g i) (hh : ∀ i : Int, 0 ≤ i → i < m → v 238 ((2 * i) + 1).toNat = h i) (hr : ∀ i : Int, 0 ≤ i → i < m → 0 ≤ h i ∧ h i ≤ 23) (ha : aln n m g) (hq : q (fs n L m g h)) : P_X11_fitting v q := by
  unfold P_X11_fitting
  rw [hG.1, h33]
  intro X4 hX4
  refine up2r (X := X4) n (fun i acc => 0 ≤ i ∧ acc = bs i (asS L m g h)) ?_ (by omega) ⟨by omega, rfl⟩
  intro acc i hle ⟨i0, hacc⟩ hnext
  apply hX4
  refine ⟨fun hc => by rw [hacc, show i = n by omega]; exact hq, fun hc => ?_⟩
  intro X19 hX19
  refine up2r (X := X19) m (fun j r => 0 ≤ j ∧ ((r = 0 ∧ ¬ asS L m g h i) ∨ (r = 1 ∧ ∀ k : Int, 0 ≤ k → k < j → dd L i (g k) = h k))) ?_ (by omega) ⟨by omega, Or.inr ⟨rfl, fun k k0 k1 => by omega⟩⟩
  intro r j hle2 ⟨j0, hb⟩ hnext2
  apply hX19
  refine ⟨fun hc2 => S_flag (fun h0 l1 e1 => ⟨by omega, hnext hc _ ⟨by omega, ?_⟩⟩) (fun h0 l1 e1 => ⟨by omega, hnext hc _ ⟨by omega, ?_⟩⟩), fun hc2 => ⟨fun h0 => ⟨by omega, hnext2 hc2 _ ⟨by omega, Or.inl ⟨rfl, ?_⟩⟩⟩, fun h0 => ⟨by omega, by omega, ?_⟩⟩⟩
  · have hno : ¬ asS L m g h i := by
      rcases hb with ⟨-, hb⟩ | ⟨hb, -⟩
      · exact hb
      · omega
    have := i_shl0 i.toNat (List.mem_range.mpr (by omega))
    rw [Int.toNat_of_nonneg i0] at this
    rw [e1, this, hacc, i_or0 (bs_r _ _), bs_no i0 hno]
  · have hyes : asS L m g h i := by
      rcases hb with ⟨hb, -⟩ | ⟨-, hb⟩
      · exact absurd hb h0
      · exact fun k k0 k1 => hb k k0 (by omega)
    rw [e1, hacc, bs_yes i0 hyes]
  · rcases hb with ⟨-, hb⟩ | ⟨hb, -⟩
    · exact hb
    · omega
  · have hbj : ∀ k : Int, 0 ≤ k → k < j → dd L i (g k) = h k := by
      rcases hb with ⟨hb, -⟩ | ⟨-, hb⟩
      · exact absurd hb h0
      · exact hb
    have hgj := ha j j0 hc2
    have hhj := hr j j0 hc2
    rw [hg j j0 hc2, hh j j0 hc2]
    refine S_farOf hn hf hgj ⟨i0, hc⟩ ⟨by omega, by omega, by omega, fun e => ⟨by omega, hnext2 hc2 _ ⟨by omega, Or.inl ⟨rfl, fun g2 => ?_⟩⟩⟩, fun e => ⟨by omega, hnext2 hc2 _ ⟨by omega, Or.inr ⟨rfl, fun k k0 k1 => ?_⟩⟩⟩⟩
    · have h1 := g2 j j0 hc2
      rw [dd_symm] at h1
      exact e (by rw [(f9_r w hn (a := g j) (b := i) hgj).2.2.2 (by omega)]; exact h1)
    · by_cases ek : k = j
      · have f0 := f9_r w hn (a := g j) (b := i) hgj
        have h1 := f0.2.2.1.mp (by omega)
        rw [ek, dd_symm, ← f0.2.2.2 h1]; exact e
      · exact hbj k k0 (by omega)
theorem SM_fits {m : Int} {g h : Int → Int} (w : wfL n L) (hn : 0 ≤ n ∧ n ≤ 24) (hM : MC v n L) (h33 : v 218 33 = m) (hm' : 0 ≤ m ∧ m ≤ 12) (hg : ∀ i : Int, 0 ≤ i → i < m → v 238 (2 * i).toNat = g i) (hh : ∀ i : Int, 0 ≤ i → i < m → v 238 ((2 * i) + 1).toNat = h i) (hr : ∀ i : Int, 0 ≤ i → i < m → 0 ≤ h i ∧ h i ≤ 23) (hq : ∀ v', MF v v' → MC v' n L → q (sp_fits n L m g h) v') : P_X11_fits v q := by
  unfold P_X11_fits
  unfold sp_fits at hq
  refine S_canFit w hn hM h33 hm' hg (fun v1 f1 c1 l1 => ⟨fun hc => ⟨fun _ => ?_, fun g => absurd rfl g⟩, fun hc => ⟨fun g => absurd g (by decide), fun _ => ?_⟩⟩)
  · have := hq v1 f1 c1; rwa [if_neg hc] at this
  · have := hq v1 f1 c1
    rw [if_pos hc] at this
    exact S_fitting w hn c1.1 l1.1 (by rw [f1.2 33 (by decide) (by decide) (by decide)]; exact h33) hm' (fun i i0 i1 => by rw [f1.1 238 (by omega)]; exact hg i i0 i1) (fun i i0 i1 => by rw [f1.1 238 (by omega)]; exact hh i i0 i1) hr hc.2 this
/-! tells: how many nodes of a set lie equally far -/
noncomputable def ec (L : List Ln) (c s t : Int) (i : Nat) : Int := (fb_ct (fun k => tb s k && decide (f9 L c (k : Int) = t)) i : Nat)
theorem mxf_ge (f : Int → Int) : ∀ (k : Nat) (t : Int), 0 ≤ t → t < (k : Int) → f t ≤ mxf f k
  | 0, t, h1, h2 => by omega
  | k + 1, t, h1, h2 => by
    show f t ≤ max (mxf f k) (f (k : Int))
    by_cases e : t = (k : Int)
    · rw [e]; omega
    · have := mxf_ge f k t h1 (by omega); omega
theorem mxf_le (f : Int → Int) (M : Int) (hM : 0 ≤ M) : ∀ (k : Nat), (∀ t : Int, 0 ≤ t → t < (k : Int) → f t ≤ M) → mxf f k ≤ M
  | 0, h => hM
  | k + 1, h => by
    show max (mxf f k) (f (k : Int)) ≤ M
    have h1 := mxf_le f M hM k (fun t t0 t1 => h t t0 (by omega))
    have h2 := h (k : Int) (by omega) (by omega)
    omega
/-- the most that lie equally far -/
noncomputable def ml (n : Int) (L : List Ln) (c s : Int) : Int := mxf (fun t => ec L c s t n.toNat) 100
theorem ec_s {c s t i : Int} (h : 0 ≤ i) : ec L c s t (i + 1).toNat = ec L c s t i.toNat + (if tb s i.toNat = true ∧ f9 L c i = t then 1 else 0) := by
  unfold ec
  rw [show (i + 1).toNat = i.toNat + 1 by omega, fb_ct_succ, Int.toNat_of_nonneg h]
  by_cases hh : tb s i.toNat = true ∧ f9 L c i = t
  · rw [if_pos hh, if_pos (by rw [hh.1, Bool.true_and, decide_eq_true_eq]; exact hh.2)]; omega
  · rw [if_neg hh, if_neg (by rw [Bool.and_eq_true, decide_eq_true_eq]; exact hh)]; omega
theorem ec_r (c s t : Int) (i : Nat) : 0 ≤ ec L c s t i ∧ ec L c s t i ≤ (i : Int) := by
  unfold ec
  have := fb_ct_le (fun k => tb s k && decide (f9 L c (k : Int) = t)) i
  omega
theorem S_mostBy {c s : Int} {q : Int → Prop} (hn : 0 ≤ n ∧ n ≤ 24) (hG : mG v 222 n L) (hf : frOK v n L) (hc : 0 ≤ c ∧ c < n) (hq : q (ml n L c s)) : P_X11_mostBy c s v q := by
  unfold P_X11_mostBy
  rw [hG.1]
  intro X5 hX5
  refine up2r (X := X5) 100 (fun t acc => 0 ≤ t ∧ acc = mxf (fun t => ec L c s t n.toNat) t.toNat) ?_ (by omega) ⟨by omega, rfl⟩
  intro acc t hle ⟨t0, hacc⟩ hnext
  apply hX5
  refine ⟨fun h => by rw [hacc, show t = 100 by omega]; exact hq, fun h => ?_⟩
  intro X18 hX18
  refine up2r (X := X18) n (fun i a => 0 ≤ i ∧ a = ec L c s t i.toNat) ?_ (by omega) ⟨by omega, rfl⟩
  intro a i hle2 ⟨i0, hai⟩ hnext2
  apply hX18
  have hr := ec_r (L := L) c s t i.toNat
  have hs2 := ec_s (L := L) (c := c) (s := s) (t := t) i0
  refine ⟨fun hc2 => ?_, fun hc2 => S_isOf ⟨i0, by omega⟩ (fun hb => ⟨fun _ => S_flag (fun _ => ⟨by omega, by omega, hnext2 hc2 _ ⟨by omega, ?_⟩⟩) (fun g => absurd rfl g), fun g => absurd rfl g⟩) (fun hb => ⟨fun g => absurd g (by decide), fun _ => S_farOf hn hf hc ⟨i0, hc2⟩ ⟨fun e => S_flag (fun _ => ⟨by omega, by omega, hnext2 hc2 _ ⟨by omega, ?_⟩⟩) (fun g => absurd rfl g), fun e => S_flag (fun g => absurd g (by decide)) (fun _ => ⟨by omega, by omega, hnext2 hc2 _ ⟨by omega, ?_⟩⟩)⟩⟩)⟩
  · have e : i = n := by omega
    have hm := mxf_s (fun t => ec L c s t n.toNat) t0
    have hm : mxf (fun t => ec L c s t n.toNat) (t + 1).toNat = max (mxf (fun t => ec L c s t n.toNat) t.toNat) (ec L c s t n.toNat) := hm
    rw [e] at hai
    exact ⟨fun g => ⟨by omega, hnext (by omega) _ ⟨by omega, by rw [hm, ← hacc, ← hai]; omega⟩⟩, fun g => ⟨by omega, hnext (by omega) _ ⟨by omega, by rw [hm, ← hacc, ← hai]; omega⟩⟩⟩
  · rw [hs2, if_neg (by rw [hb]; simp), hai]
  · rw [hs2, if_neg (fun g => e g.2), hai]
  · rw [hs2, if_pos ⟨hb, e⟩, hai]
end Q12

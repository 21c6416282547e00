/-! ===== tells ===== -/
section Q13
variable {n : Int} {L : List Ln} {v : VT} {q : Int → VT → Prop}
theorem mB_216 {v0 v' : VT} (hn : n ≤ 24) (h : mB v0 v n L) (hf : ∀ a, a ≠ 216 → v' a = v a) : mB v0 v' n L :=
  ⟨fun a ha => by rw [hf a (by omega)]; exact h.1 a ha, XC_frame hn h.2.1 (fun a ha => hf a (by omega)), by rw [hf 138 (by omega)]; exact h.2.2.1, mt_frame h.2.2.2.1 (fun a ha => hf a (by omega)) hn, md_frame hn h.2.2.2.2 (fun a ha => hf a (by omega))⟩
noncomputable def mli (L : List Ln) (c s : Int) (i : Nat) : Int := mxf (fun t => ec L c s t i) 100
theorem mli_0 (c s : Int) : mli L c s 0 = 0 := by
  have h1 := mxf_0 (fun t => ec L c s t 0) 100
  have h2 := mxf_le (fun t => ec L c s t 0) 0 (by decide) 100 (fun t _ _ => by
    show ec L c s t 0 ≤ 0
    have := (ec_r (L := L) c s t 0).2
    omega)
  unfold mli
  omega
theorem mli_no {c s i : Int} (h : 0 ≤ i) (hb : tb s i.toNat = false) : mli L c s (i + 1).toNat = mli L c s i.toNat := by
  unfold mli
  congr 1
  funext t
  rw [ec_s h, if_neg (by rw [hb]; simp)]
  omega
theorem mli_yes {c s i : Int} (h : 0 ≤ i) (hb : tb s i.toNat = true) (hr : 0 ≤ f9 L c i ∧ f9 L c i ≤ 99) : mli L c s (i + 1).toNat = max (mli L c s i.toNat) (ec L c s (f9 L c i) (i + 1).toNat) := by
  have a1 := mxf_le (fun t => ec L c s t (i + 1).toNat) (max (mli L c s i.toNat) (ec L c s (f9 L c i) (i + 1).toNat)) (by have := mxf_0 (fun t => ec L c s t i.toNat) 100; unfold mli; omega) 100 (fun t t0 t1 => by
    show ec L c s t (i + 1).toNat ≤ _
    by_cases e : f9 L c i = t
    · rw [e]; omega
    · rw [ec_s h, if_neg (fun g => e g.2)]
      have : ec L c s t i.toNat ≤ mli L c s i.toNat := mxf_ge (fun t => ec L c s t i.toNat) 100 t t0 t1
      omega)
  have a2 : ec L c s (f9 L c i) (i + 1).toNat ≤ mli L c s (i + 1).toNat := mxf_ge (fun t => ec L c s t (i + 1).toNat) 100 (f9 L c i) hr.1 (by show f9 L c i < 100; omega)
  have a3 := mxf_le (fun t => ec L c s t i.toNat) (mli L c s (i + 1).toNat) (mxf_0 _ _) 100 (fun t t0 t1 => by
    show ec L c s t i.toNat ≤ _
    have h1 : ec L c s t (i + 1).toNat ≤ mli L c s (i + 1).toNat := mxf_ge (fun t => ec L c s t (i + 1).toNat) 100 t t0 t1
    rw [ec_s h] at h1
    have : (0 : Int) ≤ (if tb s i.toNat = true ∧ f9 L c i = t then 1 else 0) := by split <;> omega
    omega)
  have a1 : mli L c s (i + 1).toNat ≤ max (mli L c s i.toNat) (ec L c s (f9 L c i) (i + 1).toNat) := a1
  have a3 : mli L c s i.toNat ≤ mli L c s (i + 1).toNat := a3
  omega
theorem S_mostLeft {v0 : VT} {c s : Int} {q : Int → VT → Prop} (w : wfL n L) (hn : 0 ≤ n ∧ n ≤ 24) (h : mB v0 v n L) (hc : 0 ≤ c ∧ c < n) (hq : ∀ v', mB v0 v' n L → q (ml n L c s) v') : P_X10_mostLeft c s v q := by
  unfold P_X10_mostLeft
  intro K24 hK24 X2 hX2
  have s1 : ∀ v24 : VT, mB v0 v24 n L → (∀ t : Int, 0 ≤ t → t < 25 → v24 216 t.toNat = 0) → K24 v24 := by
    intro v24 hb hz
    apply hK24
    intro X29 hX29
    refine up3m (X := X29) n (fun i acc v29 => 0 ≤ i ∧ mB v0 v29 n L ∧ acc = mli L c s i.toNat ∧ (∀ t : Int, 0 ≤ t → t < 24 → v29 216 t.toNat = ec L c s t i.toNat) ∧ v29 216 24 = ec L c s 99 i.toNat) ?_ (by omega) ⟨by omega, hb, (mli_0 c s).symm, fun t t0 t1 => by rw [hz t t0 (by omega)]; rfl, by have := hz 24 (by omega) (by omega); exact this⟩
    intro acc i v29 hle ⟨i0, hb2, hacc, ht, ht9⟩ hnext
    apply hX29
    rw [hb2.2.1.1.1]
    refine ⟨fun hc2 => by rw [hacc, show i = n by omega]; exact hq v29 hb2, fun hc2 => S_hasBit ⟨i0, by omega⟩ (fun hf => ⟨fun _ => ⟨by omega, hnext hc2 _ _ ⟨by omega, hb2, by rw [hacc, mli_no i0 hf], fun t t0 t1 => ?_, ?_⟩⟩, fun g => absurd rfl g⟩) (fun hbt => ⟨fun g => absurd g (by decide), fun _ => ⟨by omega, by omega, ?_⟩⟩)⟩
    · rw [ec_s i0, if_neg (by rw [hf]; simp), ht t t0 t1]; omega
    · rw [ec_s i0, if_neg (by rw [hf]; simp), ht9]; omega
    · intro l5 e5 K77 hK77
      rw [hb2.2.2.2.1.2.2.1 c i hc.1 hc.2 i0 hc2] at e5
      have hge := dd_ge (L := L) (a := c) (b := i)
      have hlt := dd_lt w hc (b := i)
      have f0 := f9_r w hn (a := c) (b := i) hc
      have body : ∀ s0 : Int, 0 ≤ s0 → s0 < 25 → (s0 < 24 → f9 L c i = s0) → (s0 = 24 → f9 L c i = 99) → v29 216 s0.toNat = ec L c s (f9 L c i) i.toNat → K77 s0 := by
        intro s0 s00 s01 sA sB ev
        apply hK77
        have hr := ec_r (L := L) c s (f9 L c i) i.toNat
        have hs2 := ec_s (L := L) (c := c) (s := s) (t := f9 L c i) i0
        rw [if_pos ⟨hbt, rfl⟩] at hs2
        rw [ev]
        refine ⟨by omega, by omega, by omega, fun v89 e89 => ⟨by omega, fun l3 e3 => ⟨by omega, hnext hc2 _ _ ⟨by omega, mB_216 hn.2 hb2 (fun a ha => by rw [e89, upd2_off _ _ _ ha]), ?_, fun t t0 t1 => ?_, ?_⟩⟩⟩⟩
        · rw [e3, e89, upd2_same, hacc, mli_yes i0 hbt ⟨f0.1, f0.2.1⟩, hs2]
        · rw [e89, upd2_at _ _ _ s00 t0]
          by_cases e : t = s0
          · rw [if_pos e, ← hs2, sA (by omega), e]
          · have hne : ¬ (tb s i.toNat = true ∧ f9 L c i = t) := fun g => by
              have g2 := g.2
              by_cases h24 : s0 < 24
              · have := sA h24; omega
              · have := sB (by omega); omega
            rw [if_neg e, ht t t0 t1, ec_s i0, if_neg hne]
            omega
        · have e24 := upd2_at v29 216 (ec L c s (f9 L c i) i.toNat + 1) s00 (show (0 : Int) ≤ 24 by decide)
          have e24 : upd2 v29 216 s0.toNat (ec L c s (f9 L c i) i.toNat + 1) 216 24 = if (24 : Int) = s0 then ec L c s (f9 L c i) i.toNat + 1 else v29 216 24 := e24
          rw [e89, e24]
          by_cases e : (24 : Int) = s0
          · rw [if_pos e, ← hs2, sB e.symm]
          · rw [if_neg e, ht9, ec_s i0, if_neg (fun g => by have := sA (by omega); omega)]
            omega
      refine ⟨fun hne => body l5 (by omega) (by omega) (fun _ => by rw [e5]; exact f0.2.2.2 (by omega)) (fun g => by omega) ?_, fun he => body 24 (by omega) (by omega) (fun g => by omega) (fun _ => ?_) ?_⟩
      · rw [f0.2.2.2 (by omega), ← e5]; exact ht l5 (by omega) (by omega)
      · unfold f9; rw [if_pos (by omega)]
      · have : f9 L c i = 99 := by unfold f9; rw [if_pos (by omega)]
        rw [this]; exact ht9
  refine up2 (X := X2) 25 (fun i v2 => 0 ≤ i ∧ mB v0 v2 n L ∧ ∀ t : Int, 0 ≤ t → t < i → v2 216 t.toNat = 0) ?_ (by omega) ⟨by omega, h, fun t t0 t1 => by omega⟩
  intro i v2 hle ⟨i0, hb2, hz⟩ hnext
  apply hX2
  refine ⟨fun hc2 => s1 v2 hb2 (fun t t0 t1 => hz t t0 (by omega)), fun hc2 => ⟨by omega, fun v17 e17 => ⟨by omega, hnext hc2 _ ⟨by omega, mB_216 hn.2 hb2 (fun a ha => by rw [e17, upd2_off _ _ _ ha]), fun t t0 t1 => ?_⟩⟩⟩⟩
  rw [e17, upd2_at _ _ _ i0 t0]
  by_cases e : t = i
  · rw [if_pos e]
  · rw [if_neg e]; exact hz t t0 (by omega)
noncomputable def sp_tells (n : Int) (L : List Ln) (m : Int) (g h : Int → Int) (x : Int) : Int := @ite _ ((0 ≤ x ∧ x ≤ 1) ∧ (0 < m ∧ aln n m g) ∧ fs n L m g h ≠ 0) (Classical.propDecidable _) (if x = 0 then bx (fun c => - ml n L c (fs n L m g h)) n.toNat else ml n L (bx (fun c => - ml n L c (fs n L m g h)) n.toNat) (fs n L m g h)) (-1)
theorem SX_tells {m : Int} {g h : Int → Int} {x : Int} (w : wfL n L) (hn : 0 ≤ n ∧ n ≤ 24) (hX : XC v n L) (h16 : v 0 16 = m) (hm' : 0 ≤ m ∧ m ≤ 12) (hg : ∀ i : Int, 0 ≤ i → i < m → v 214 i.toNat = g i) (hh : ∀ i : Int, 0 ≤ i → i < m → v 215 i.toNat = h i) (hq : ∀ v', XF v v' → XC v' n L → q (sp_tells n L m g h x) v') : P_X10_tells x v q := by
  unfold P_X10_tells
  have no : ∀ v', XF v v' → XC v' n L → ¬ ((0 ≤ x ∧ x ≤ 1) ∧ (0 < m ∧ aln n m g) ∧ fs n L m g h ≠ 0) → q (-1) v' := fun v' f' c hc => by
    have := hq v' f' c
    unfold sp_tells at this; rwa [if_neg hc] at this
  intro K17 hK17 K9 hK9
  have out : ¬ (0 ≤ x ∧ x ≤ 1) → K9 := fun hc => hK9 (hK17 _ _ ⟨fun _ => no v (XF_rf v) hX (fun g => hc g.1), fun g => absurd rfl g⟩)
  refine ⟨fun h1 => out (by omega), fun h1 => ⟨fun h2 => ?_, fun h2 => out (by omega)⟩⟩
  refine SX_fitsB w hn hX h16 hm' hg hh (fun v' f c hc => hK17 _ _ ⟨fun _ => no v' f c (fun g => hc g.2.1), fun g => absurd rfl g⟩) (fun v1 b1 hc => hK17 _ _ ?_)
  have hsm := bs_small hn.2 (asS L m g h)
  have hsm : 0 ≤ fs n L m g h ∧ fs n L m g h < 16777216 := hsm
  refine ⟨fun e => by omega, fun _ => ⟨fun hne => ?_, fun e => no v1 b1.1 b1.2.1 (fun g => g.2.2 e)⟩⟩
  have hn0 : 0 < n := by have := hc.2 0 (by omega) (by omega); omega
  have hq' : ∀ v', XF v v' → XC v' n L → q (if x = 0 then bx (fun c => - ml n L c (fs n L m g h)) n.toNat else ml n L (bx (fun c => - ml n L c (fs n L m g h)) n.toNat) (fs n L m g h)) v' := fun v' f' c' => by
    have := hq v' f' c'
    unfold sp_tells at this; rwa [if_pos ⟨⟨h1, h2⟩, hc, hne⟩] at this
  refine S_mostLeft w hn b1 ⟨by omega, hn0⟩ (fun v34 b34 => ?_)
  intro X42 hX42
  refine wh4 (X := X42) (fun b y i v42 => 1 ≤ i ∧ i ≤ n ∧ mB v v42 n L ∧ b = bx (fun c => - ml n L c (fs n L m g h)) i.toNat ∧ y = ml n L b (fs n L m g h)) (fun b y i v42 => (n - i).toNat) ?_ ⟨by omega, by omega, b34, (bx_one _).symm, rfl⟩
  intro b y i v42 ⟨i0, hle, b42, hb, hy⟩ hnext
  apply hX42
  have hbr := bx_r (fun c => - ml n L c (fs n L m g h)) i.toNat (by omega)
  rw [b42.2.1.1.1]
  refine ⟨fun hc2 => ?_, fun hc2 => S_mostLeft w hn b42 ⟨by omega, hc2⟩ (fun v58 b58 => ⟨fun g => ⟨by omega, hnext _ _ _ _ ⟨by omega, by omega, b58, ?_, hy⟩ (by omega)⟩, fun g => ⟨by omega, hnext _ _ _ _ ⟨by omega, by omega, b58, ?_, rfl⟩ (by omega)⟩⟩)⟩
  · have e : i = n := by omega
    have := hq' v42 b42.1 b42.2.1
    refine ⟨fun g => ?_, fun g => ?_⟩
    · rw [if_neg g] at this; rw [hy, hb, e]; exact this
    · rw [if_pos g] at this; rw [hb, e]; exact this
  · rw [bx_s _ (by omega), ← hb, if_neg (by omega)]
  · rw [bx_s _ (by omega), ← hb, if_pos (by omega)]
theorem SM_tells {m : Int} {g h : Int → Int} {x : Int} (w : wfL n L) (hn : 0 ≤ n ∧ n ≤ 24) (hM : MC v n L) (h33 : v 218 33 = m) (hm' : 0 ≤ m ∧ m ≤ 12) (hg : ∀ i : Int, 0 ≤ i → i < m → v 238 (2 * i).toNat = g i) (hh : ∀ i : Int, 0 ≤ i → i < m → v 238 ((2 * i) + 1).toNat = h i) (hr : ∀ i : Int, 0 ≤ i → i < m → 0 ≤ h i ∧ h i ≤ 23) (hq : ∀ v', MF v v' → MC v' n L → q (sp_tells n L m g h x) v') : P_X11_tells x v q := by
  unfold P_X11_tells
  have no : ∀ v', MF v v' → MC v' n L → ¬ ((0 ≤ x ∧ x ≤ 1) ∧ (0 < m ∧ aln n m g) ∧ fs n L m g h ≠ 0) → q (-1) v' := fun v' f' c hc => by
    have := hq v' f' c
    unfold sp_tells at this; rwa [if_neg hc] at this
  refine S_canFit w hn hM h33 hm' hg (fun v1 f1 c1 l1 => ⟨fun hc => ⟨fun _ => no v1 f1 c1 (fun g => hc g.2.1), fun g => absurd rfl g⟩, fun hc => ⟨fun g => absurd g (by decide), fun _ => S_isIn (fun hx => ⟨fun g => absurd rfl g, fun _ => no v1 f1 c1 (fun g => hx g.1)⟩) (fun hx => ⟨fun _ => ?_, fun g => absurd g (by decide)⟩)⟩⟩)
  refine S_fitting w hn c1.1 l1.1 (by rw [f1.2 33 (by decide) (by decide) (by decide)]; exact h33) hm' (fun i i0 i1 => by rw [f1.1 238 (by omega)]; exact hg i i0 i1) (fun i i0 i1 => by rw [f1.1 238 (by omega)]; exact hh i i0 i1) hr hc.2 ⟨fun hne => ?_, fun e => no v1 f1 c1 (fun g => g.2.2 e)⟩
  have hn0 : 0 < n := by have := hc.2 0 (by omega) (by omega); omega
  have this := hq v1 f1 c1
  unfold sp_tells at this
  rw [if_pos ⟨hx, hc, hne⟩] at this
  rw [c1.1.1]
  intro X35 hX35
  refine up2r (X := X35) n (fun i b => 1 ≤ i ∧ b = bx (fun c => - ml n L c (fs n L m g h)) i.toNat) ?_ (by omega) ⟨by omega, (bx_one _).symm⟩
  intro b i hle ⟨i0, hb⟩ hnext
  apply hX35
  have hbr := bx_r (fun c => - ml n L c (fs n L m g h)) i.toNat (by omega)
  refine ⟨fun hc2 => ?_, fun hc2 => S_mostBy hn c1.1 l1.1 ⟨by omega, hc2⟩ (S_mostBy hn c1.1 l1.1 ⟨by omega, by omega⟩ ⟨fun g => ⟨by omega, hnext hc2 _ ⟨by omega, ?_⟩⟩, fun g => ⟨by omega, hnext hc2 _ ⟨by omega, ?_⟩⟩⟩)⟩
  · have e : i = n := by omega
    refine ⟨fun g => S_mostBy hn c1.1 l1.1 ⟨by omega, by omega⟩ ?_, fun g => ?_⟩
    · rw [if_neg g] at this; rw [hb, e]; exact this
    · rw [if_pos g] at this; rw [hb, e]; exact this
  · rw [bx_s _ (by omega), ← hb, if_neg (by omega)]
  · rw [bx_s _ (by omega), ← hb, if_pos (by omega)]
end Q13

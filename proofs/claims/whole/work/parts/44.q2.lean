/-! ===== reach, spread, alike, line, degree ===== -/
def mxf (f : Int → Int) : Nat → Int
  | 0 => 0
  | k + 1 => max (mxf f k) (f (k : Int))
theorem mxf_s (f : Int → Int) {k : Int} (h : 0 ≤ k) : mxf f (k + 1).toNat = max (mxf f k.toNat) (f k) := by
  rw [show (k + 1).toNat = k.toNat + 1 by omega]
  show max _ _ = _
  rw [Int.toNat_of_nonneg h]
theorem mxf_0 (f : Int → Int) : ∀ k, 0 ≤ mxf f k
  | 0 => Int.le_refl 0
  | k + 1 => by have := mxf_0 f k; show 0 ≤ max _ _; omega
theorem S_mostFrom {n a : Int} {L : List Ln} {v : VT} {q : Int → Prop} (hn : 0 ≤ n ∧ n ≤ 24) (hm : mt v n L) (ha : 0 ≤ a ∧ a < n) (hq : q (mxf (dd L a) n.toNat)) : P_X2_mostFrom a v q := by
  unfold P_X2_mostFrom
  rw [hm.1]
  intro X4 hX4
  refine up2r (X := X4) n (fun i acc => 0 ≤ i ∧ acc = mxf (dd L a) i.toNat) ?_ (by omega) ⟨by omega, rfl⟩
  intro acc i hle ⟨i0, hacc⟩ hnext
  apply hX4
  refine ⟨fun hc => by rw [hacc, show i = n by omega]; exact hq, fun hc => ⟨by omega, by omega, fun l2 e2 => ⟨by omega, hnext hc _ ⟨by omega, ?_⟩⟩⟩⟩
  rw [e2, hacc, hm.2.2.1 a i ha.1 ha.2 i0 hc, mxf_s _ i0]
noncomputable def sp_reach (n : Int) (L : List Ln) (a : Int) : Int := if 0 ≤ a ∧ a < n then mxf (dd L a) n.toNat else -1
/-- the sum of all distances -/
noncomputable def inn (L : List Ln) (i : Int) (j : Nat) : Int := fb_si (fun k => if i < (k : Int) then max 0 (dd L i (k : Int)) else 0) j
noncomputable def out2 (n : Int) (L : List Ln) (i : Nat) : Int := fb_si (fun k => inn L (k : Int) n.toNat) i
theorem si_s (f : Nat → Int) {k : Int} (h : 0 ≤ k) : fb_si f (k + 1).toNat = fb_si f k.toNat + f k.toNat := by
  rw [show (k + 1).toNat = k.toNat + 1 by omega, fb_si_succ]
theorem inn_r {n : Int} {L : List Ln} (w : wfL n L) (hn : 0 ≤ n ∧ n ≤ 24) {i : Int} (hi' : 0 ≤ i ∧ i < n) {j : Nat} (hj : j ≤ 24) : 0 ≤ inn L i j ∧ inn L i j ≤ 24 * j := by
  induction j with
  | zero => exact ⟨Int.le_refl 0, Int.le_refl 0⟩
  | succ j ih =>
    have := ih (by omega)
    have h2 := dd_lt w hi' (b := (j : Int))
    unfold inn at this ⊢
    rw [fb_si_succ]
    have h3 : 0 ≤ (if i < (j : Int) then max 0 (dd L i (j : Int)) else 0) ∧ (if i < (j : Int) then max 0 (dd L i (j : Int)) else 0) ≤ 24 := by split <;> omega
    omega
theorem out2_r {n : Int} {L : List Ln} (w : wfL n L) (hn : 0 ≤ n ∧ n ≤ 24) {i : Nat} (hi' : (i : Int) ≤ n) : 0 ≤ out2 n L i ∧ out2 n L i ≤ 576 * i := by
  induction i with
  | zero => exact ⟨Int.le_refl 0, Int.le_refl 0⟩
  | succ i ih =>
    have h1 := ih (by omega)
    have h2 := inn_r w hn (i := (i : Int)) (by omega) (j := n.toNat) (by omega)
    unfold out2 at h1 ⊢
    rw [fb_si_succ]
    omega
theorem inn_lo {L : List Ln} {i : Int} (hi' : 0 ≤ i) : inn L i (i + 1).toNat = 0 := by
  have : ∀ j : Nat, (j : Int) ≤ i + 1 → inn L i j = 0 := by
    intro j
    induction j with
    | zero => intro _; rfl
    | succ j ih =>
      intro hj
      unfold inn at ih ⊢
      rw [fb_si_succ, ih (by omega), if_neg (by omega)]; rfl
  exact this _ (by omega)
theorem inn_s {L : List Ln} {i j : Int} (hj : 0 ≤ j) (h : i < j) : inn L i (j + 1).toNat = inn L i j.toNat + max 0 (dd L i j) := by
  unfold inn
  rw [si_s _ hj]
  congr 1
  show (if i < ((j.toNat : Nat) : Int) then _ else _) = _
  rw [Int.toNat_of_nonneg hj, if_pos h]
theorem out_s {n : Int} {L : List Ln} {i : Int} (hi' : 0 ≤ i) : out2 n L (i + 1).toNat = out2 n L i.toNat + inn L i n.toNat := by
  unfold out2
  rw [si_s _ hi']
  show _ + inn L ((i.toNat : Nat) : Int) n.toNat = _
  rw [Int.toNat_of_nonneg hi']
theorem S_sumAll {n : Int} {L : List Ln} {v : VT} {q : Int → Prop} (w : wfL n L) (hn : 0 ≤ n ∧ n ≤ 24) (hm : mt v n L) (hq : q (out2 n L n.toNat)) : P_X2_sumAll v q := by
  unfold P_X2_sumAll
  rw [hm.1]
  intro X4 hX4
  refine up2r (X := X4) n (fun i acc => 0 ≤ i ∧ acc = out2 n L i.toNat) ?_ (by omega) ⟨by omega, rfl⟩
  intro acc i hle ⟨i0, hacc⟩ hnext
  apply hX4
  refine ⟨fun hc => by rw [hacc, show i = n by omega]; exact hq, fun hc => ⟨by omega, ?_⟩⟩
  intro X16 hX16
  have ho := out2_r w hn (i := i.toNat) (by omega)
  refine up2r (X := X16) n (fun j acc' => i + 1 ≤ j ∧ acc' = acc + inn L i j.toNat) ?_ (by omega) ⟨by omega, by rw [inn_lo i0]; omega⟩
  intro acc' j hle2 ⟨j0, hacc'⟩ hnext2
  apply hX16
  have hi2 := inn_r w hn (i := i) ⟨i0, hc⟩ (j := j.toNat) (by omega)
  refine ⟨fun hc2 => ⟨by omega, hnext hc _ ⟨by omega, by rw [hacc', hacc, out_s i0, show j = n by omega]⟩⟩, fun hc2 => ?_⟩
  rw [hm.2.2.1 i j i0 hc (by omega) hc2]
  have hd := dd_lt w (a := i) ⟨i0, hc⟩ (b := j)
  exact ⟨by omega, by omega, by omega, fun l1 e1 => ⟨by omega, hnext2 hc2 _ ⟨by omega, by rw [e1, hacc', inn_s (by omega) (by omega)]; omega⟩⟩⟩
section Q2
variable {n : Int} {L : List Ln} {v : VT} {a b : Int} {q : Int → VT → Prop}
theorem SX_reach (w : wfL n L) (hn : 0 ≤ n ∧ n ≤ 24) (h : XC v n L) (hq : ∀ v', XF v v' → XC v' n L → q (sp_reach n L a) v') : P_X10_reach a v q := by
  unfold P_X10_reach
  refine S_isNode h.1 (fun hc => ⟨fun h => absurd rfl h, fun _ => ?_⟩) (fun ha => ⟨fun _ => ?_, fun h => absurd h (by decide)⟩)
  · have := hq v (XF_rf v) h
    unfold sp_reach at this; rwa [if_neg hc] at this
  · refine S_measured w hn h (fun v' f c k0 m d => S_mostFrom hn m ha ?_)
    have := hq v' f c
    unfold sp_reach at this; rwa [if_pos ha] at this
theorem SM_reach (w : wfL n L) (hn : 0 ≤ n ∧ n ≤ 24) (h : MC v n L) (hq : ∀ v', MF v v' → MC v' n L → q (sp_reach n L a) v') : P_X11_reach a v q := by
  unfold P_X11_reach
  refine S_areNodesM w hn h (fun v' f c l => ⟨fun hc => ⟨fun h => absurd rfl h, fun _ => ?_⟩, fun ha _ => ⟨fun _ => ?_, fun h => absurd h (by decide)⟩⟩)
  · have := hq v' f c
    unfold sp_reach at this; rwa [if_neg (fun h => hc ⟨h, h⟩)] at this
  · have hq' := hq v' f c
    unfold sp_reach at hq'; rw [if_pos ha] at hq'
    rw [c.1.1]
    intro X15 hX15
    refine up2r (X := X15) n (fun i acc => 0 ≤ i ∧ acc = mxf (dd L a) i.toNat) ?_ (by omega) ⟨by omega, rfl⟩
    intro acc i hle ⟨i0, hacc⟩ hnext
    apply hX15
    refine ⟨fun hc => by rw [hacc, show i = n by omega]; exact hq', fun hc => S_farOf hn l.1 ha ⟨i0, hc⟩ ?_⟩
    have f0 := f9_r w hn (a := a) (b := i) ha
    have g := dd_ge (L := L) (a := a) (b := i)
    have hm0 := mxf_0 (dd L a) i.toNat
    refine ⟨fun hc2 => ⟨by omega, hnext hc _ ⟨by omega, ?_⟩⟩, fun hc2 => S_farOf hn l.1 ha ⟨i0, hc⟩ ⟨fun hc3 => ⟨by omega, hnext hc _ ⟨by omega, ?_⟩⟩, fun hc3 => S_farOf hn l.1 ha ⟨i0, hc⟩ ⟨by omega, hnext hc _ ⟨by omega, ?_⟩⟩⟩⟩
    · rw [mxf_s _ i0, hacc]; omega
    · have := f0.2.2.2 (f0.2.2.1.mp hc2)
      rw [mxf_s _ i0, ← hacc]; omega
    · have := f0.2.2.2 (f0.2.2.1.mp hc2)
      rw [mxf_s _ i0, ← hacc]; omega
theorem SX_spread (w : wfL n L) (hn : 0 ≤ n ∧ n ≤ 24) (h : XC v n L) (hq : ∀ v', XF v v' → XC v' n L → q (out2 n L n.toNat) v') : P_X10_spread v q := by
  unfold P_X10_spread
  exact S_measured w hn h (fun v' f c k0 m d => S_sumAll w hn m (hq v' f c))
theorem SM_spread (w : wfL n L) (hn : 0 ≤ n ∧ n ≤ 24) (h : MC v n L) (hq : ∀ v', MF v v' → MC v' n L → q (out2 n L n.toNat) v') : P_X11_spread v q := by
  unfold P_X11_spread
  refine S_lays w hn h (fun v' f c l => ?_)
  rw [c.1.1]
  intro X8 hX8
  refine up2r (X := X8) n (fun i acc => 0 ≤ i ∧ acc = out2 n L i.toNat) ?_ (by omega) ⟨by omega, rfl⟩
  intro acc i hle ⟨i0, hacc⟩ hnext
  apply hX8
  refine ⟨fun hc => by rw [hacc, show i = n by omega]; exact hq v' f c, fun hc => ⟨by omega, ?_⟩⟩
  intro X22 hX22
  have ho := out2_r w hn (i := i.toNat) (by omega)
  refine up2r (X := X22) n (fun j acc' => i + 1 ≤ j ∧ acc' = acc + inn L i j.toNat) ?_ (by omega) ⟨by omega, by rw [inn_lo i0]; omega⟩
  intro acc' j hle2 ⟨j0, hacc'⟩ hnext2
  apply hX22
  have hi2 := inn_r w hn (i := i) ⟨i0, hc⟩ (j := j.toNat) (by omega)
  refine ⟨fun hc2 => ⟨by omega, hnext hc _ ⟨by omega, by rw [hacc', hacc, out_s i0, show j = n by omega]⟩⟩, fun hc2 => S_farOf hn l.1 ⟨i0, hc⟩ ⟨by omega, hc2⟩ ?_⟩
  have f0 := f9_r w hn (a := i) (b := j) ⟨i0, hc⟩
  have g := dd_ge (L := L) (a := i) (b := j)
  have e := inn_s (L := L) (i := i) (j := j) (by omega) (by omega)
  refine ⟨fun hc3 => ⟨by omega, hnext2 hc2 _ ⟨by omega, by rw [e, hacc']; omega⟩⟩, fun hc3 => S_farOf hn l.1 ⟨i0, hc⟩ ⟨by omega, hc2⟩ ⟨by omega, by omega, hnext2 hc2 _ ⟨by omega, ?_⟩⟩⟩
  have := f0.2.2.2 (f0.2.2.1.mp hc3)
  rw [e, hacc']; omega
noncomputable def sp_alike (L : List Ln) (a b : Int) : Int := @ite _ ((0 ≤ a ∧ a < L.length) ∧ (0 ≤ b ∧ b < L.length)) (Classical.propDecidable _) (@ite _ (alk L a b) (Classical.propDecidable _) 1 0) (-1)
theorem S_flag {x : Int} {v : VT} {q : Int → Prop} (h0 : x = 0 → q 0) (h1 : ¬ x = 0 → q 1) : P_X11_flag x v q := ⟨h0, h1⟩
theorem SX_alike (w : wfL n L) (hn : 0 ≤ n ∧ n ≤ 24) (h : XC v n L) (hq : ∀ v', XF v v' → XC v' n L → q (sp_alike L a b) v') : P_X10_alike a b v q := by
  unfold P_X10_alike
  have no : ¬ ((0 ≤ a ∧ a < L.length) ∧ (0 ≤ b ∧ b < L.length)) → q (-1) v := fun hc => by
    have := hq v (XF_rf v) h
    unfold sp_alike at this; rwa [if_neg hc] at this
  refine S_isLine h.1 (fun hc => ⟨fun _ => no (fun h => hc h.1), fun h => absurd rfl h⟩) (fun ha => ⟨fun h => absurd h (by decide), fun _ => S_isLine h.1 (fun hc => ⟨fun h => absurd rfl h, fun _ => no (fun h => hc h.2)⟩) (fun hb => ⟨fun _ => ?_, fun h => absurd h (by decide)⟩)⟩)
  refine S_measured w hn h (fun v' f c k0 m d => ?_)
  have := hq v' f c
  unfold sp_alike at this
  rw [if_pos ⟨ha, hb⟩] at this
  exact S_areAlike w hn c.1 m ha hb (fun hna => ⟨fun _ => by rwa [if_neg hna] at this, fun h => absurd rfl h⟩) (fun hal => ⟨fun h => absurd h (by decide), fun _ => by rwa [if_pos hal] at this⟩)
theorem SM_alike (w : wfL n L) (hn : 0 ≤ n ∧ n ≤ 24) (h : MC v n L) (hq : ∀ v', MF v v' → MC v' n L → q (sp_alike L a b) v') : P_X11_alike a b v q := by
  unfold P_X11_alike
  have no : ¬ ((0 ≤ a ∧ a < L.length) ∧ (0 ≤ b ∧ b < L.length)) → q (-1) v := fun hc => by
    have := hq v (MF_rf v) h
    unfold sp_alike at this; rwa [if_neg hc] at this
  refine S_isLineM w h.1 (fun hc => ⟨fun _ => no (fun h => hc h.1), fun h => absurd rfl h⟩) (fun ha => ⟨fun h => absurd h (by decide), fun _ => S_isLineM w h.1 (fun hc => ⟨fun h => absurd rfl h, fun _ => no (fun h => hc h.2)⟩) (fun hb => ⟨fun _ => ?_, fun h => absurd h (by decide)⟩)⟩)
  refine S_lays w hn h (fun v' f c l => ?_)
  have := hq v' f c
  unfold sp_alike at this
  rw [if_pos ⟨ha, hb⟩] at this
  exact S_areAlikeM w hn c.1 l.1 ha hb (fun hna => S_flag (fun _ => by rwa [if_neg hna] at this) (fun h => absurd rfl h)) (fun hal => S_flag (fun h => absurd h (by decide)) (fun _ => by rwa [if_pos hal] at this))
noncomputable def sp_line (L : List Ln) (k x : Int) : Int := if 0 ≤ k ∧ k < L.length then (if x = 0 then lo L k else if x = 1 then hi L k else if x = 2 then kd L.length (RA L) k else if x = 3 then pr L k else -1) else -1
theorem SX_line {k x : Int} (w : wfL n L) (hn : 0 ≤ n ∧ n ≤ 24) (h : XC v n L) (hq : ∀ v', XF v v' → XC v' n L → q (sp_line L k x) v') : P_X10_line k x v q := by
  obtain ⟨g0, g1, g2⟩ := xG_10 h.1
  have hlen := w.2.2
  have hq0 := hq v (XF_rf v) h
  unfold P_X10_line
  refine S_isLine h.1 (fun hc => ⟨fun h => absurd rfl h, fun _ => ?_⟩) (fun hk => ⟨fun _ => ⟨fun hx => ⟨by omega, ?_⟩, fun hx => ⟨by omega, ?_⟩, fun hx => ?_, fun hx => ⟨by omega, ?_⟩, fun hx => ?_⟩, fun h => absurd h (by decide)⟩)
  · unfold sp_line at hq0; rwa [if_neg hc] at hq0
  · unfold sp_line at hq0; rw [if_pos hk, if_pos hx] at hq0; rwa [(g2 k hk.1 hk.2).1]
  · unfold sp_line at hq0; rw [if_pos hk, if_neg (by omega), if_pos hx] at hq0; rwa [(g2 k hk.1 hk.2).2.1]
  · refine S_sorted w hn h (fun v' f c k0 m d o => ⟨by omega, ?_⟩)
    have := hq v' f c
    unfold sp_line at this; rw [if_pos hk, if_neg (by omega), if_neg (by omega), if_pos hx] at this; rwa [o.2.1 k hk.1 hk.2]
  · unfold sp_line at hq0; rw [if_pos hk, if_neg (by omega), if_neg (by omega), if_neg (by omega), if_pos hx] at hq0; rwa [(g2 k hk.1 hk.2).2.2]
  · unfold sp_line at hq0; rwa [if_pos hk, if_neg (by omega), if_neg (by omega), if_neg (by omega), if_neg (by omega)] at hq0
theorem SM_line {k x : Int} (w : wfL n L) (hn : 0 ≤ n ∧ n ≤ 24) (h : MC v n L) (hq : ∀ v', MF v v' → MC v' n L → q (sp_line L k x) v') : P_X11_line k x v q := by
  have hlen := w.2.2
  have hq0 := hq v (MF_rf v) h
  unfold P_X11_line
  refine S_isLineM w h.1 (fun hc => ⟨fun h => absurd rfl h, fun _ => ?_⟩) (fun hk => ⟨fun _ => S_lays w hn h (fun v' f c l => ?_), fun h => absurd h (by decide)⟩)
  · unfold sp_line at hq0; rwa [if_neg hc] at hq0
  · have := hq v' f c
    unfold sp_line at this
    rw [if_pos hk] at this
    refine ⟨fun h0 => ⟨fun h1 => ⟨fun h2 => ⟨fun h3 => ?_, fun h3 => S_priceOf w c.1 hk ?_⟩, fun h2 => ⟨by omega, ?_⟩⟩, fun h1 => S_high w c.1 hk ?_⟩, fun h0 => S_low w c.1 hk ?_⟩
    · rwa [if_neg h0, if_neg h1, if_neg h2, if_neg h3] at this
    · rwa [if_neg h0, if_neg h1, if_neg h2, if_pos h3] at this
    · rw [if_neg h0, if_neg h1, if_pos h2] at this; rwa [l.2.1.2.1 k hk.1 hk.2]
    · rwa [if_neg h0, if_pos h1] at this
    · rwa [if_pos h0] at this
end Q2
/-! degree -/
noncomputable def dg (L : List Ln) (a : Int) : Int := (fb_ct (fun k => decide (lo L (k : Int) = a ∨ hi L (k : Int) = a)) L.length : Nat)
theorem dg_nb {n a x : Int} {L : List Ln} (w : wfL n L) (hn : 0 ≤ n ∧ n ≤ 24) (h : ∀ k : Nat, tb x k = true ↔ adj L a (k : Int)) : pc x = dg L a := by
  unfold pc dg
  congr 1
  -- the p-th line at a, by its other end
  have ex : ∀ p : Nat, ∃ k : Nat, p < fb_ct (fun k => decide (lo L (k : Int) = a ∨ hi L (k : Int) = a)) L.length → k < L.length ∧ (lo L (k : Int) = a ∨ hi L (k : Int) = a) ∧ fb_ct (fun k => decide (lo L (k : Int) = a ∨ hi L (k : Int) = a)) k = p := by
    intro p
    by_cases hp : p < fb_ct (fun k => decide (lo L (k : Int) = a ∨ hi L (k : Int) = a)) L.length
    · obtain ⟨k, k1, k2, k3⟩ := fb_ct_kth hp
      exact ⟨k, fun _ => ⟨k1, by simpa using k2, k3⟩⟩
    · exact ⟨0, fun h => absurd h hp⟩
  obtain ⟨f, hf⟩ := Classical.axiomOfChoice ex
  refine ct_bij (f := fun p => (if lo L (f p : Int) = a then hi L (f p : Int) else lo L (f p : Int)).toNat) (fun p hp => ?_) (fun p p' hpp hp' e => ?_) (fun j hj hb => ?_)
  · obtain ⟨k1, k2, k3⟩ := hf p hp
    have hw := w.1 (f p : Int) (by omega) (by omega)
    refine ⟨?_, ?_⟩
    · show (if lo L (f p : Int) = a then hi L (f p : Int) else lo L (f p : Int)).toNat < 24
      split <;> omega
    · rw [h]
      show adj L a (((if lo L (f p : Int) = a then hi L (f p : Int) else lo L (f p : Int)).toNat : Nat) : Int)
      by_cases e : lo L (f p : Int) = a
      · rw [if_pos e, Int.toNat_of_nonneg (by omega)]
        exact ⟨(f p : Int), by omega, by omega, Or.inl ⟨e, rfl⟩⟩
      · rw [if_neg e, Int.toNat_of_nonneg (by omega)]
        exact ⟨(f p : Int), by omega, by omega, Or.inr ⟨rfl, by omega⟩⟩
  · obtain ⟨k1, k2, k3⟩ := hf p (by omega)
    obtain ⟨l1, l2, l3⟩ := hf p' hp'
    have hw := w.1 (f p : Int) (by omega) (by omega)
    have hw' := w.1 (f p' : Int) (by omega) (by omega)
    have e : (if lo L (f p : Int) = a then hi L (f p : Int) else lo L (f p : Int)).toNat = (if lo L (f p' : Int) = a then hi L (f p' : Int) else lo L (f p' : Int)).toNat := e
    have he : (f p : Int) = (f p' : Int) := by
      by_cases c1 : lo L (f p : Int) = a <;> by_cases c2 : lo L (f p' : Int) = a
      · rw [if_pos c1, if_pos c2] at e
        exact w.2.1 _ _ (by omega) (by omega) (by omega) (by omega) (by omega) (by omega)
      · rw [if_pos c1, if_neg c2] at e; omega
      · rw [if_neg c1, if_pos c2] at e; omega
      · rw [if_neg c1, if_neg c2] at e
        exact w.2.1 _ _ (by omega) (by omega) (by omega) (by omega) (by omega) (by omega)
    have : f p = f p' := by omega
    rw [this] at k3
    omega
  · obtain ⟨k, k1, k2, k3⟩ := (h j).mp hb
    have hw := w.1 k k1 k2
    have hin : decide (lo L ((k.toNat : Nat) : Int) = a ∨ hi L ((k.toNat : Nat) : Int) = a) = true := by
      rw [Int.toNat_of_nonneg k1]; simp; omega
    have hlt : fb_ct (fun k => decide (lo L (k : Int) = a ∨ hi L (k : Int) = a)) k.toNat < fb_ct (fun k => decide (lo L (k : Int) = a ∨ hi L (k : Int) = a)) L.length := by
      have h1 := fb_ct_mono (fun k => decide (lo L (k : Int) = a ∨ hi L (k : Int) = a)) (show k.toNat + 1 ≤ L.length by omega)
      rw [fb_ct_succ, if_pos hin] at h1
      omega
    refine ⟨_, hlt, ?_⟩
    obtain ⟨l1, l2, l3⟩ := hf _ hlt
    have he := fb_ct_kth_one (p := fun k => decide (lo L (k : Int) = a ∨ hi L (k : Int) = a)) (by simpa using l2) hin l3
    show (if lo L (f _ : Int) = a then hi L (f _ : Int) else lo L (f _ : Int)).toNat = j
    rw [he, Int.toNat_of_nonneg k1]
    rcases k3 with ⟨c1, c2⟩ | ⟨c1, c2⟩
    · rw [if_pos c1, c2]; omega
    · rw [if_neg (by omega), c1]; omega
noncomputable def sp_degree (n : Int) (L : List Ln) (a : Int) : Int := if 0 ≤ a ∧ a < n then dg L a else -1
theorem SX_degree {n a : Int} {L : List Ln} {v : VT} {q : Int → VT → Prop} (w : wfL n L) (hn : 0 ≤ n ∧ n ≤ 24) (h : XC v n L) (hq : ∀ v', XF v v' → XC v' n L → q (sp_degree n L a) v') : P_X10_degree a v q := by
  unfold P_X10_degree
  refine S_isNode h.1 (fun hc => ⟨fun h => absurd rfl h, fun _ => ?_⟩) (fun ha => ⟨fun _ => ?_, fun h => absurd h (by decide)⟩)
  · have := hq v (XF_rf v) h
    unfold sp_degree at this; rwa [if_neg hc] at this
  · refine S_measured w hn h (fun v' f c k0 m d => ⟨by omega, S_bitCount ?_ ?_⟩)
    · refine tb_small (m.2.1 a ha.1 ha.2).1 (fun k k1 k2 => ?_)
      cases hb : tb (v' 139 a.toNat) k
      · rfl
      · have := adj_in w (((m.2.1 a ha.1 ha.2).2 k).mp hb)
        omega
    · rw [dg_nb w hn (m.2.1 a ha.1 ha.2).2]
      have := hq v' f c
      unfold sp_degree at this; rwa [if_pos ha] at this
theorem SM_degree {n a : Int} {L : List Ln} {v : VT} {q : Int → Prop} (w : wfL n L) (hn : 0 ≤ n ∧ n ≤ 24) (h : MC v n L) (hq : q (sp_degree n L a)) : P_X11_degree a v q := by
  unfold P_X11_degree
  have hlen := w.2.2
  refine S_isNodeM hn h.1 (fun hc => ⟨fun _ => ?_, fun h => absurd rfl h⟩) (fun ha => ⟨fun h => absurd h (by decide), fun _ => ?_⟩)
  · unfold sp_degree at hq; rwa [if_neg hc] at hq
  · unfold sp_degree at hq; rw [if_pos ha] at hq
    unfold P_X11_degreeOf
    rw [h.1.2.1]
    intro X4 hX4
    refine up2r (X := X4) (L.length : Int) (fun i acc => 0 ≤ i ∧ acc = (fb_ct (fun k => decide (lo L (k : Int) = a ∨ hi L (k : Int) = a)) i.toNat : Nat)) ?_ (by omega) ⟨by omega, rfl⟩
    intro acc i hle ⟨i0, hacc⟩ hnext
    apply hX4
    have hb := fb_ct_le (fun k => decide (lo L (k : Int) = a ∨ hi L (k : Int) = a)) i.toNat
    have hs : fb_ct (fun k => decide (lo L (k : Int) = a ∨ hi L (k : Int) = a)) (i + 1).toNat = fb_ct (fun k => decide (lo L (k : Int) = a ∨ hi L (k : Int) = a)) i.toNat + (if lo L i = a ∨ hi L i = a then 1 else 0) := by
      rw [show (i + 1).toNat = i.toNat + 1 by omega, fb_ct_succ]
      simp only [decide_eq_true_eq]
      rw [Int.toNat_of_nonneg i0]
    refine ⟨fun hc => ?_, fun hc => S_low w h.1 ⟨i0, hc⟩ ⟨fun h1 => S_flag (fun h => absurd h (by decide)) (fun _ => ⟨by omega, by omega, hnext hc _ ⟨by omega, ?_⟩⟩), fun h1 => S_high w h.1 ⟨i0, hc⟩ ⟨fun h2 => S_flag (fun _ => ⟨by omega, by omega, hnext hc _ ⟨by omega, ?_⟩⟩) (fun h => absurd rfl h), fun h2 => S_flag (fun h => absurd h (by decide)) (fun _ => ⟨by omega, by omega, hnext hc _ ⟨by omega, ?_⟩⟩)⟩⟩⟩
    · rw [hacc, show i = (L.length : Int) by omega]; exact hq
    · rw [hs, if_pos (Or.inl h1)]; omega
    · rw [hs, if_neg (by omega)]; omega
    · rw [hs, if_pos (Or.inr h2)]; omega

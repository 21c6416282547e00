/-! ===== votes: winner; rows seen: fits ===== -/
def aln (n m : Int) (f : Int → Int) : Prop := ∀ i : Int, 0 ≤ i → i < m → 0 ≤ f i ∧ f i < n
section Q11
variable {n : Int} {L : List Ln} {v : VT} {q : Int → VT → Prop}
theorem S_areNodesStill {a1 n1 : Nat} {m : Int} {f : Int → Int} {q : Int → Prop} (hg : xG v 10 n L) (hm : 0 ≤ m ∧ m ≤ n1) (hn1 : n1 ≤ 24) (hv : ∀ i : Int, 0 ≤ i → i < m → v a1 i.toNat = f i) (h0 : ¬ aln n m f → q 0) (h1 : aln n m f → q 1) : P_X10_areNodesStill a1 n1 m v q := by
  unfold P_X10_areNodesStill
  intro X2 hX2
  refine up1 (X := X2) m (fun i => 0 ≤ i ∧ ∀ k : Int, 0 ≤ k → k < i → 0 ≤ f k ∧ f k < n) ?_ (by omega) ⟨by omega, fun k k0 k1 => by omega⟩
  intro i hle ⟨i0, hb⟩ hnext
  apply hX2
  refine ⟨fun hc => h1 (fun k k0 k1 => hb k k0 (by omega)), fun hc => ⟨fun hc2 => h1 (fun k k0 k1 => by omega), fun hc2 => ⟨by omega, ?_⟩⟩⟩
  rw [hv i i0 hc]
  refine S_isNode hg (fun h => ⟨fun g => absurd rfl g, fun _ => h0 (fun g => h (g i i0 hc))⟩) (fun h => ⟨fun _ => ⟨by omega, hnext hc ⟨by omega, fun k k0 k1 => ?_⟩⟩, fun g => absurd g (by decide)⟩)
  by_cases e : k = i
  · rw [e]; exact h
  · exact hb k k0 (by omega)
noncomputable def ff (L : List Ln) (m : Int) (f : Int → Int) (c : Int) : Int := fb_si (fun k => dd L c (f (k : Int))) m.toNat
theorem ff_s {L : List Ln} {f : Int → Int} {c i : Int} (h : 0 ≤ i) : ff L (i + 1) f c = ff L i f c + dd L c (f i) := by
  unfold ff
  rw [show (i + 1).toNat = i.toNat + 1 by omega, fb_si_succ, Int.toNat_of_nonneg h]
theorem ff_r (w : wfL n L) (hn : 0 ≤ n ∧ n ≤ 24) {m : Int} {f : Int → Int} {c i : Int} (hm : m ≤ 15) (hi' : 0 ≤ i ∧ i ≤ m) (ha : aln n m f) (hc : 0 ≤ c ∧ c < n) : -360 ≤ ff L i f c ∧ ff L i f c ≤ 360 := by
  have := fb_si_bound (f := fun k => dd L c (f (k : Int))) (c := 24) (by decide) (n := i.toNat) (fun k hk => by
    have h1 := dd_ge (L := L) (a := c) (b := f (k : Int))
    have h2 := dd_lt w hc (b := f (k : Int))
    exact ⟨by omega, by omega⟩)
  unfold ff
  omega
theorem S_farFromVotes {m : Int} {f : Int → Int} {c : Int} {q : Int → Prop} (w : wfL n L) (hn : 0 ≤ n ∧ n ≤ 24) (hm : mt v n L) (h15 : v 0 15 = m) (hm' : 0 ≤ m ∧ m ≤ 15) (hv : ∀ i : Int, 0 ≤ i → i < m → v 213 i.toNat = f i) (ha : aln n m f) (hc : 0 ≤ c ∧ c < n) (hq : q (ff L m f c)) : P_X10_farFromVotes c v q := by
  unfold P_X10_farFromVotes
  rw [h15]
  intro X4 hX4
  refine up2r (X := X4) m (fun i acc => 0 ≤ i ∧ acc = ff L i f c) ?_ (by omega) ⟨by omega, rfl⟩
  intro acc i hle ⟨i0, hacc⟩ hnext
  apply hX4
  refine ⟨fun hc2 => by rw [hacc, show i = m by omega]; exact hq, fun hc2 => ?_⟩
  have hfi := ha i i0 hc2
  rw [hv i i0 hc2, hm.2.2.1 c (f i) hc.1 hc.2 hfi.1 hfi.2]
  have h1 := dd_ge (L := L) (a := c) (b := f i)
  have h2 := dd_lt w hc (b := f i)
  have h3 := ff_r w hn hm'.2 ⟨i0, by omega⟩ ha hc (i := i)
  exact ⟨by omega, by omega, by omega, by omega, fun l2 e2 => ⟨by omega, hnext hc2 _ ⟨by omega, by rw [e2, hacc, ff_s i0]⟩⟩⟩
theorem S_farFromVotesM {m : Int} {f : Int → Int} {c : Int} {q : Int → Prop} (w : wfL n L) (hn : 0 ≤ n ∧ n ≤ 24) (hcn : conn n L) (hf : frOK v n L) (h15 : v 218 30 = m) (hm' : 0 ≤ m ∧ m ≤ 15) (hv : ∀ i : Int, 0 ≤ i → i < m → v 236 i.toNat = f i) (ha : aln n m f) (hc : 0 ≤ c ∧ c < n) (hq : q (ff L m f c)) : P_X11_farFromVotes c v q := by
  unfold P_X11_farFromVotes
  rw [h15]
  intro X4 hX4
  refine up2r (X := X4) m (fun i acc => 0 ≤ i ∧ acc = ff L i f c) ?_ (by omega) ⟨by omega, rfl⟩
  intro acc i hle ⟨i0, hacc⟩ hnext
  apply hX4
  refine ⟨fun hc2 => by rw [hacc, show i = m by omega]; exact hq, fun hc2 => ⟨by omega, ?_⟩⟩
  have hfi := ha i i0 hc2
  rw [hv i i0 hc2]
  refine S_farOf hn hf hc hfi ?_
  have h1 := hcn c (f i) hc.1 hc.2 hfi.1 hfi.2
  rw [(f9_r w hn (a := c) (b := f i) hc).2.2.2 h1]
  have h2 := dd_lt w hc (b := f i)
  have h3 := ff_r w hn hm'.2 ⟨i0, by omega⟩ ha hc (i := i)
  exact ⟨by omega, by omega, hnext hc2 _ ⟨by omega, by rw [hacc, ff_s i0]⟩⟩
/-- how many votes lie on side 1 -/
noncomputable def vc (L : List Ln) (f : Int → Int) (d i : Int) : Int := (fb_ct (fun k => @decide (hs L d (f (k : Int))) (Classical.propDecidable _)) i.toNat : Nat)
theorem vc_s {f : Int → Int} {d i : Int} (h : 0 ≤ i) : vc L f d (i + 1) = vc L f d i + @ite _ (hs L d (f i)) (Classical.propDecidable _) 1 0 := by
  unfold vc
  rw [show (i + 1).toNat = i.toNat + 1 by omega, fb_ct_succ, Int.toNat_of_nonneg h]
  by_cases hh : hs L d (f i)
  · rw [if_pos (by simpa using hh), if_pos hh]; omega
  · rw [if_neg (by simpa using hh), if_neg hh]; omega
theorem vc_r {f : Int → Int} {d i : Int} (h : 0 ≤ i) : 0 ≤ vc L f d i ∧ vc L f d i ≤ i := by
  unfold vc
  have := fb_ct_le (fun k => @decide (hs L d (f (k : Int))) (Classical.propDecidable _)) i.toNat
  omega
noncomputable def mj (L : List Ln) (m : Int) (f : Int → Int) : Int := bs (kc L) (fun d => m < 2 * vc L f d m)
theorem side_bit {c d : Int} (hk : kc L ≤ 23) (hd : 0 ≤ d ∧ d < kc L) : i_and (i_shr (sd L (kc L) c) d) 1 = @ite _ (hs L d c) (Classical.propDecidable _) 1 0 := by
  have ht := sd_tb (L := L) hk c d.toNat
  rw [Int.toNat_of_nonneg hd.1] at ht
  rw [bit_at ⟨hd.1, by omega⟩]
  by_cases hh : hs L d c
  · rw [if_pos (ht.mpr ⟨hd.2, hh⟩), if_pos hh]
  · rw [if_neg (fun g => hh (ht.mp g).2), if_neg hh]
theorem ite_r (p : Prop) : 0 ≤ @ite Int p (Classical.propDecidable _) 1 0 ∧ @ite Int p (Classical.propDecidable _) 1 0 ≤ 1 := by
  by_cases h : p
  · rw [if_pos h]; omega
  · rw [if_neg h]; omega
theorem S_majority {m : Int} {f : Int → Int} {q : Int → Prop} (hn : 0 ≤ n ∧ n ≤ 24) (hk : kc L ≤ 23) (h6 : v 197 6 = kc L) (h8 : ∀ c : Int, 0 ≤ c → c < n → v 198 c.toNat = sd L (kc L) c) (h15 : v 0 15 = m) (hm' : 0 ≤ m ∧ m ≤ 15) (hv : ∀ i : Int, 0 ≤ i → i < m → v 213 i.toNat = f i) (ha : aln n m f) (hq : q (mj L m f)) : P_X10_majority v q := by
  have hk0 := kc_pos (L := L)
  unfold P_X10_majority
  rw [h6, h15]
  intro X4 hX4
  refine up2r (X := X4) (kc L) (fun d acc => 0 ≤ d ∧ acc = bs d (fun d => m < 2 * vc L f d m)) ?_ (by omega) ⟨by omega, rfl⟩
  intro acc d hle ⟨d0, hacc⟩ hnext
  apply hX4
  refine ⟨fun hc => by rw [hacc, show d = kc L by omega]; exact hq, fun hc => ?_⟩
  intro K57 hK57 X20 hX20
  refine up2r (X := X20) m (fun i a => 0 ≤ i ∧ a = vc L f d i) ?_ (by omega) ⟨by omega, rfl⟩
  intro a i hle2 ⟨i0, hai⟩ hnext2
  apply hX20
  have hr := vc_r (L := L) (f := f) (d := d) i0
  refine ⟨fun hc2 => hK57 _ ⟨by omega, fun h => ⟨by omega, hnext hc _ ⟨by omega, ?_⟩⟩, fun h l1 e1 => ⟨by omega, hnext hc _ ⟨by omega, ?_⟩⟩⟩, fun hc2 => ?_⟩
  · have e : i = m := by omega
    rw [hacc, bs_no d0 (by rw [← e, ← hai]; omega)]
  · have e : i = m := by omega
    rw [e1, hacc, bs_yes d0 (by rw [← e, ← hai]; omega)]
  · have hfi := ha i i0 hc2
    rw [hv i i0 hc2, h8 (f i) hfi.1 hfi.2, side_bit hk ⟨d0, hc⟩]
    have hir := ite_r (hs L d (f i))
    exact ⟨by omega, by omega, by omega, fun l3 e3 => ⟨by omega, hnext2 hc2 _ ⟨by omega, by rw [e3, hai, vc_s i0]⟩⟩⟩
theorem S_majorityM {m : Int} {f : Int → Int} {q : Int → Prop} (hn : 0 ≤ n ∧ n ≤ 24) (hk : kc L ≤ 23) (h6 : v 218 18 = kc L) (hg : v 222 0 = n) (h8 : ∀ c : Int, 0 ≤ c → c < n → v 228 c.toNat = sd L (kc L) c) (h15 : v 218 30 = m) (hm' : 0 ≤ m ∧ m ≤ 15) (hv : ∀ i : Int, 0 ≤ i → i < m → v 236 i.toNat = f i) (ha : aln n m f) (hq : q (na n L (mj L m f))) : P_X11_majority v q := by
  have hk0 := kc_pos (L := L)
  unfold P_X11_majority
  rw [h6, h15]
  intro X4 hX4
  refine up2r (X := X4) (kc L) (fun d acc => 0 ≤ d ∧ acc = bs d (fun d => m < 2 * vc L f d m)) ?_ (by omega) ⟨by omega, rfl⟩
  intro acc d hle ⟨d0, hacc⟩ hnext
  apply hX4
  refine ⟨fun hc => S_nodeAtM hn hg h8 (by rw [hacc, show d = kc L by omega]; exact hq), fun hc => ?_⟩
  intro K51 hK51 X17 hX17
  refine up2r (X := X17) m (fun i a => 0 ≤ i ∧ a = vc L f d i) ?_ (by omega) ⟨by omega, rfl⟩
  intro a i hle2 ⟨i0, hai⟩ hnext2
  apply hX17
  have hr := vc_r (L := L) (f := f) (d := d) i0
  refine ⟨fun hc2 => hK51 _ ⟨by omega, fun h => ⟨by omega, hnext hc _ ⟨by omega, ?_⟩⟩, fun h l1 e1 => ⟨by omega, hnext hc _ ⟨by omega, ?_⟩⟩⟩, fun hc2 => ?_⟩
  · have e : i = m := by omega
    rw [hacc, bs_no d0 (by rw [← e, ← hai]; omega)]
  · have e : i = m := by omega
    rw [e1, hacc, bs_yes d0 (by rw [← e, ← hai]; omega)]
  · have hfi := ha i i0 hc2
    rw [hv i i0 hc2, h8 (f i) hfi.1 hfi.2, side_bit hk ⟨d0, hc⟩]
    have hir := ite_r (hs L d (f i))
    exact ⟨by omega, by omega, by omega, fun l3 e3 => ⟨by omega, hnext2 hc2 _ ⟨by omega, by rw [e3, hai, vc_s i0]⟩⟩⟩
noncomputable def sp_winner (n : Int) (L : List Ln) (m : Int) (f : Int → Int) (x : Int) : Int := @ite _ ((0 ≤ x ∧ x ≤ 2) ∧ 0 < m ∧ conn n L ∧ aln n m f) (Classical.propDecidable _) (if x = 2 then @ite _ (st n L) (Classical.propDecidable _) (na n L (mj L m f)) (-1) else if x = 0 then bx (fun c => - ff L m f c) n.toNat else ff L m f (bx (fun c => - ff L m f c) n.toNat)) (-1)
theorem SX_winner {m : Int} {f : Int → Int} {x : Int} (w : wfL n L) (hn : 0 ≤ n ∧ n ≤ 24) (h : XC v n L) (h15 : v 0 15 = m) (hm' : 0 ≤ m ∧ m ≤ 15) (hv : ∀ i : Int, 0 ≤ i → i < m → v 213 i.toNat = f i) (hq : ∀ v', XF v v' → XC v' n L → q (sp_winner n L m f x) v') : P_X10_winner x v q := by
  unfold P_X10_winner
  have no : ∀ v', XF v v' → XC v' n L → ¬ ((0 ≤ x ∧ x ≤ 2) ∧ 0 < m ∧ conn n L ∧ aln n m f) → q (-1) v' := fun v' f' c hc => by
    have := hq v' f' c
    unfold sp_winner at this; rwa [if_neg hc] at this
  rw [h15]
  refine ⟨fun h1 => no v (XF_rf v) h (by omega), fun h1 => ⟨fun h2 => no v (XF_rf v) h (by omega), fun h2 => ⟨fun h3 => no v (XF_rf v) h (by omega), fun h3 => S_measB w hn h (fun v1 b1 => ?_)⟩⟩⟩
  have hmt := b1.2.2.2.1
  refine ⟨fun h4 => no v1 b1.1 b1.2.1 (fun g => by have := hmt.2.2.2.2.mpr g.2.2.1; omega), fun h4 => ?_⟩
  have hcn := hmt.2.2.2.2.mp (by have := hmt.2.2.2.1; omega)
  have e15 : v1 0 15 = m := by rw [b1.1 0 (by omega)]; exact h15
  have ev : ∀ i : Int, 0 ≤ i → i < m → v1 213 i.toNat = f i := fun i i0 i1 => by rw [b1.1 213 (by omega)]; exact hv i i0 i1
  rw [e15, b1.2.1.1.1]
  refine S_areNodesStill b1.2.1.1 (by omega) (by omega) ev (fun ha => ⟨fun g => absurd rfl g, fun _ => no v1 b1.1 b1.2.1 (fun g => ha g.2.2.2)⟩) (fun ha => ⟨fun _ => ⟨fun hx => ?_, fun hx => ?_⟩, fun g => absurd g (by decide)⟩)
  · have hn0 : 0 < n := by have := ha 0 (by omega) (by omega); omega
    have this := hq v1 b1.1 b1.2.1
    unfold sp_winner at this
    rw [if_pos ⟨⟨h1, h2⟩, by omega, hcn, ha⟩, if_neg hx] at this
    intro X78 hX78
    refine up2r (X := X78) n (fun i b => 1 ≤ i ∧ b = bx (fun c => - ff L m f c) i.toNat) ?_ (by omega) ⟨by omega, (bx_one _).symm⟩
    intro b i hle ⟨i0, hb⟩ hnext
    apply hX78
    have hbr := bx_r (fun c => - ff L m f c) i.toNat (by omega)
    refine ⟨fun hc => ?_, fun hc => S_farFromVotes w hn hmt e15 hm' ev ha ⟨by omega, hc⟩ (S_farFromVotes w hn hmt e15 hm' ev ha ⟨by omega, by omega⟩ ⟨fun g => ⟨by omega, hnext hc _ ⟨by omega, ?_⟩⟩, fun g => ⟨by omega, hnext hc _ ⟨by omega, ?_⟩⟩⟩)⟩
    · have e : i = n := by omega
      refine ⟨fun g => S_farFromVotes w hn hmt e15 hm' ev ha ⟨by omega, by omega⟩ ?_, fun g => ?_⟩
      · rw [if_neg g] at this; rw [hb, e]; exact this
      · rw [if_pos g] at this; rw [hb, e]; exact this
    · rw [bx_s _ (by omega), ← hb, if_neg (by omega)]
    · rw [bx_s _ (by omega), ← hb, if_pos (by omega)]
  · refine S_seat w hn b1.2.1 (fun v2 f2 c2 k2 m2 d2 o2 s2 => ?_)
    have f12 := XF_trans b1.1 f2
    have this := hq v2 f12 c2
    unfold sp_winner at this
    rw [if_pos ⟨⟨h1, h2⟩, by omega, hcn, ha⟩, if_pos hx] at this
    rcases s2.2.2.2 with ⟨a1, a2, a3, a4, a5, a6, a7⟩ | ⟨a1, a2, a3⟩
    · rw [a1]
      rw [if_pos a2] at this
      exact ⟨fun g => absurd g (by decide), fun _ => S_majority hn (by omega) a5 a6 (by rw [f12 0 (by omega)]; exact h15) hm' (fun i i0 i1 => by rw [f12 213 (by omega)]; exact hv i i0 i1) ha (S_nodeAt hn s2.1 a6 this)⟩
    · rw [a1]
      exact ⟨fun _ => by rwa [if_neg a2] at this, fun g => absurd rfl g⟩
theorem SM_winner {m : Int} {f : Int → Int} {x : Int} (w : wfL n L) (hn : 0 ≤ n ∧ n ≤ 24) (h : MC v n L) (h15 : v 218 30 = m) (hm' : 0 ≤ m ∧ m ≤ 15) (hv : ∀ i : Int, 0 ≤ i → i < m → v 236 i.toNat = f i) (hq : ∀ v', MF v v' → MC v' n L → q (sp_winner n L m f x) v') : P_X11_winner x v q := by
  unfold P_X11_winner
  have no : ∀ v', MF v v' → MC v' n L → ¬ ((0 ≤ x ∧ x ≤ 2) ∧ 0 < m ∧ conn n L ∧ aln n m f) → q (-1) v' := fun v' f' c hc => by
    have := hq v' f' c
    unfold sp_winner at this; rwa [if_neg hc] at this
  refine S_isIn (fun hc => ⟨fun _ => no v (MF_rf v) h (fun g => hc g.1), fun g => absurd rfl g⟩) (fun hx => ⟨fun g => absurd g (by decide), fun _ => ?_⟩)
  unfold P_X11_canVote
  rw [h15]
  intro K31 hK31 X2 hX2
  refine up1 (X := X2) m (fun i => 0 ≤ i ∧ ∀ k : Int, 0 ≤ k → k < i → 0 ≤ f k ∧ f k < n) ?_ (by omega) ⟨by omega, fun k k0 k1 => by omega⟩
  intro i hle ⟨i0, hb⟩ hnext
  apply hX2
  refine ⟨fun hc => ?_, fun hc => ⟨by omega, ?_⟩⟩
  · apply hK31
    have ha : aln n m f := fun k k0 k1 => hb k k0 (by omega)
    refine ⟨fun h1 => ⟨fun g => absurd rfl g, fun _ => no v (MF_rf v) h (by omega)⟩, fun h1 => ?_⟩
    unfold P_X11_isWhole
    refine S_lays w hn h (fun v1 f1 c1 l1 => ?_)
    have s1 := seatM_of w l1
    have hww := whole_wy w l1.2.2.1
    have hn0 : 0 < n := by have := ha 0 (by omega) (by omega); omega
    rw [s1.2.1, c1.1.1]
    refine ⟨fun h3 => ⟨fun _ => ⟨fun g => absurd rfl g, fun _ => no v1 f1 c1 (fun g => hww.mp h3 g.2.2.1)⟩, fun g => absurd rfl g⟩, fun h3 => ⟨fun h4 => by omega, fun h4 => ⟨fun g => absurd g (by decide), fun _ => ⟨fun _ => ?_, fun g => absurd g (by decide)⟩⟩⟩⟩
    have hcn : conn n L := Classical.byContradiction fun g => h3 (hww.mpr g)
    have e15 : v1 218 30 = m := by rw [f1.2 30 (by decide) (by decide) (by decide)]; exact h15
    have ev : ∀ i : Int, 0 ≤ i → i < m → v1 236 i.toNat = f i := fun i i0 i1 => by rw [f1.1 236 (by omega)]; exact hv i i0 i1
    refine ⟨fun hx2 => ?_, fun hx2 => ?_⟩
    · have this := hq v1 f1 c1
      unfold sp_winner at this
      rw [if_pos ⟨hx, h1, hcn, ha⟩, if_neg hx2] at this
      rw [c1.1.1]
      intro X46 hX46
      refine up2r (X := X46) n (fun i b => 1 ≤ i ∧ b = bx (fun c => - ff L m f c) i.toNat) ?_ (by omega) ⟨by omega, (bx_one _).symm⟩
      intro b i hle ⟨i0, hb⟩ hnext
      apply hX46
      have hbr := bx_r (fun c => - ff L m f c) i.toNat (by omega)
      refine ⟨fun hc => ?_, fun hc => S_farFromVotesM w hn hcn l1.1 e15 hm' ev ha ⟨by omega, hc⟩ (S_farFromVotesM w hn hcn l1.1 e15 hm' ev ha ⟨by omega, by omega⟩ ⟨fun g => ⟨by omega, hnext hc _ ⟨by omega, ?_⟩⟩, fun g => ⟨by omega, hnext hc _ ⟨by omega, ?_⟩⟩⟩)⟩
      · have e : i = n := by omega
        refine ⟨fun g => S_farFromVotesM w hn hcn l1.1 e15 hm' ev ha ⟨by omega, by omega⟩ ?_, fun g => ?_⟩
        · rw [if_neg g] at this; rw [hb, e]; exact this
        · rw [if_pos g] at this; rw [hb, e]; exact this
      · rw [bx_s _ (by omega), ← hb, if_neg (by omega)]
      · rw [bx_s _ (by omega), ← hb, if_pos (by omega)]
    · refine S_sits w hn c1 (fun v2 f2 c2 l2 s2 => ?_)
      have f12 := MF_trans f1 f2
      have this := hq v2 f12 c2
      unfold sp_winner at this
      rw [if_pos ⟨hx, h1, hcn, ha⟩, if_pos hx2] at this
      refine ⟨fun hs => ⟨fun g => absurd g (by decide), fun _ => ?_⟩, fun hs => ⟨fun _ => by rwa [if_neg hs] at this, fun g => absurd rfl g⟩⟩
      rw [if_pos hs] at this
      obtain ⟨p1, p2, p3⟩ := s2.2.2.2 hs.1
      have p2 := p2 hs.2
      exact S_majorityM hn (by omega) s2.1 c2.1.1 p3 (by rw [f12.2 30 (by decide) (by decide) (by decide)]; exact h15) hm' (fun i i0 i1 => by rw [f12.1 236 (by omega)]; exact hv i i0 i1) ha this
  · rw [hv i i0 hc]
    refine S_isNodeM hn h.1 (fun g => ⟨fun g2 => absurd rfl g2, fun _ => ⟨fun g2 => absurd rfl g2, fun _ => no v (MF_rf v) h (fun g2 => g (g2.2.2.2 i i0 hc))⟩⟩) (fun g => ⟨fun _ => ⟨by omega, hnext hc ⟨by omega, fun k k0 k1 => ?_⟩⟩, fun g2 => absurd g2 (by decide)⟩)
    by_cases e : k = i
    · rw [e]; exact g
    · exact hb k k0 (by omega)
end Q11

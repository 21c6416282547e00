/-! ===== ways ===== -/
noncomputable def cw (n : Int) (L : List Ln) (a : Int) : Nat → Int → Int
  | 0, _ => 1
  | k + 1, c => min 1000000000 (fb_si (fun b => @ite _ (adj L (b : Int) c ∧ dd L a (b : Int) = (k : Int)) (Classical.propDecidable _) (cw n L a k (b : Int)) 0) n.toNat)
noncomputable def sw (n : Int) (L : List Ln) (a : Int) (k : Nat) (c : Int) (i : Nat) : Int := fb_si (fun b => @ite _ (adj L (b : Int) c ∧ dd L a (b : Int) = (k : Int)) (Classical.propDecidable _) (cw n L a k (b : Int)) 0) i
section Q14
variable {n : Int} {L : List Ln} {v : VT} {q : Int → VT → Prop}
theorem cw_s (a : Int) (k : Nat) (c : Int) : cw n L a (k + 1) c = min 1000000000 (sw n L a k c n.toNat) := rfl
theorem sw_yes {a c i : Int} {k : Nat} (h : 0 ≤ i) (h2 : adj L i c ∧ dd L a i = (k : Int)) : sw n L a k c (i + 1).toNat = sw n L a k c i.toNat + cw n L a k i := by
  unfold sw
  rw [show (i + 1).toNat = i.toNat + 1 by omega, fb_si_succ, Int.toNat_of_nonneg h, if_pos h2]
theorem sw_no {a c i : Int} {k : Nat} (h : 0 ≤ i) (h2 : ¬ (adj L i c ∧ dd L a i = (k : Int))) : sw n L a k c (i + 1).toNat = sw n L a k c i.toNat := by
  unfold sw
  rw [show (i + 1).toNat = i.toNat + 1 by omega, fb_si_succ, Int.toNat_of_nonneg h, if_neg h2]
  omega
theorem sw_r0 {a c : Int} {k : Nat} (hc : ∀ b : Int, 0 ≤ cw n L a k b ∧ cw n L a k b ≤ 1000000000) : ∀ i : Nat, 0 ≤ sw n L a k c i ∧ sw n L a k c i ≤ (i : Int) * 1000000000
  | 0 => ⟨Int.le_refl 0, by show (0 : Int) ≤ _; omega⟩
  | i + 1 => by
    have h1 := sw_r0 (c := c) hc i
    have h2 := hc (i : Int)
    have e : sw n L a k c (i + 1) = sw n L a k c i + @ite _ (adj L (i : Int) c ∧ dd L a (i : Int) = (k : Int)) (Classical.propDecidable _) (cw n L a k (i : Int)) 0 := rfl
    rw [e]
    by_cases hh : adj L (i : Int) c ∧ dd L a (i : Int) = (k : Int)
    · rw [if_pos hh]; omega
    · rw [if_neg hh]; omega
theorem cw_r (a : Int) : ∀ (k : Nat) (b : Int), 0 ≤ cw n L a k b ∧ cw n L a k b ≤ 1000000000
  | 0, b => ⟨by show (0 : Int) ≤ 1; decide, by show (1 : Int) ≤ 1000000000; decide⟩
  | k + 1, b => by
    have := sw_r0 (n := n) (L := L) (a := a) (c := b) (cw_r a k) n.toNat
    rw [cw_s]; omega
theorem sw_r (a c : Int) (k i : Nat) : 0 ≤ sw n L a k c i ∧ sw n L a k c i ≤ (i : Int) * 1000000000 := sw_r0 (cw_r a k) i
noncomputable def sp_ways (n : Int) (L : List Ln) (a b : Int) : Int := if (0 ≤ a ∧ a < n) ∧ (0 ≤ b ∧ b < n) then (if dd L a b = -1 then 0 else cw n L a (dd L a b).toNat b) else -1
theorem S_countInto {a c : Int} {k : Nat} {q : Int → Prop} (w : wfL n L) (hn : 0 ≤ n ∧ n ≤ 24) (hm : mt v n L) (ha : 0 ≤ a ∧ a < n) (hc : 0 ≤ c ∧ c < n) (hd : dd L a c = (k : Int) + 1) (hv : ∀ b : Int, 0 ≤ b → b < n → dd L a b = (k : Int) → v 190 b.toNat = cw n L a k b) (hq : q (cw n L a (k + 1) c)) : P_X2_countInto a c v q := by
  unfold P_X2_countInto
  rw [hm.1]
  intro X5 hX5
  refine up2r (X := X5) n (fun i acc => 0 ≤ i ∧ acc = sw n L a k c i.toNat) ?_ (by omega) ⟨by omega, rfl⟩
  intro acc i hle ⟨i0, hacc⟩ hnext
  apply hX5
  refine ⟨fun h => ?_, fun h => ⟨by omega, ?_⟩⟩
  · rw [hacc, show i = n by omega]
    rw [cw_s] at hq
    rw [Int.min_comm]; exact hq
  have hnb := (hm.2.1 c hc.1 hc.2).2 i.toNat
  rw [Int.toNat_of_nonneg i0] at hnb
  refine S_hasBit ⟨i0, by omega⟩ (fun hb => ⟨fun _ => ⟨by omega, hnext h _ ⟨by omega, ?_⟩⟩, fun g => absurd rfl g⟩) (fun hb => ⟨fun g => absurd g (by decide), fun _ => ?_⟩)
  · rw [hacc, sw_no i0 (fun g => by rw [hnb.mpr (adj_symm g.1)] at hb; exact absurd hb (by decide))]
  · rw [hm.2.2.1 a i ha.1 ha.2 i0 h, hm.2.2.1 a c ha.1 ha.2 hc.1 hc.2, hd]
    have hsr := sw_r (n := n) (L := L) a c k i.toNat
    have hcr := cw_r (n := n) (L := L) a k i
    have hlc := dd_lt w ha (b := c)
    refine ⟨by omega, by omega, by omega, by omega, by omega, fun e => ⟨by omega, hnext h _ ⟨by omega, ?_⟩⟩, fun e => ?_⟩
    · rw [hacc, sw_no i0 (fun g => by have := g.2; omega)]
    · rw [hv i i0 h (by omega)]
      exact ⟨by omega, by omega, fun l3 e3 => ⟨by omega, hnext h _ ⟨by omega, by rw [e3, hacc, sw_yes i0 ⟨adj_symm (hnb.mp hb), by omega⟩]⟩⟩⟩
theorem mB_190 {v0 v' : VT} (hn : n ≤ 24) (h : mB v0 v n L) (hf : ∀ a, a ≠ 190 → v' a = v a) : mB v0 v' n L :=
  ⟨fun a ha => by rw [hf a (by omega)]; exact h.1 a ha, XC_frame hn h.2.1 (fun a ha => hf a (by omega)), by rw [hf 138 (by omega)]; exact h.2.2.1, mt_frame h.2.2.2.1 (fun a ha => hf a (by omega)) hn, md_frame hn h.2.2.2.2 (fun a ha => hf a (by omega))⟩
theorem SX_ways {a b : Int} (w : wfL n L) (hn : 0 ≤ n ∧ n ≤ 24) (h : XC v n L) (hq : ∀ v', XF v v' → XC v' n L → q (sp_ways n L a b) v') : P_X10_ways a b v q := by
  unfold P_X10_ways
  refine S_areNodes h.1 (fun hc => ⟨fun g => absurd rfl g, fun _ => ?_⟩) (fun ha hb => ⟨fun _ => ?_, fun g => absurd g (by decide)⟩)
  · have := hq v (XF_rf v) h
    unfold sp_ways at this; rwa [if_neg hc] at this
  refine S_measB w hn h (fun v1 b1 => ?_)
  unfold P_X2_countWays
  unfold sp_ways at hq
  rw [if_pos ⟨ha, hb⟩] at hq
  have hge := dd_ge (L := L) (a := a) (b := b)
  have hlt := dd_lt w ha (b := b)
  rw [b1.2.2.2.1.2.2.1 a b ha.1 ha.2 hb.1 hb.2]
  refine ⟨by omega, by omega, fun hne => ?_, fun he => by have := hq v1 b1.1 b1.2.1; rwa [if_pos he] at this⟩
  intro X16 hX16
  refine up2 (X := X16) (dd L a b + 1) (fun s v16 => 0 ≤ s ∧ mB v v16 n L ∧ ∀ c : Int, 0 ≤ c → c < n → 0 ≤ dd L a c → dd L a c < s → v16 190 c.toNat = cw n L a (dd L a c).toNat c) ?_ (by omega) ⟨by omega, b1, fun c c0 c1 c2 c3 => by omega⟩
  intro s v16 hle ⟨s0, b16, hv⟩ hnext
  apply hX16
  rw [b16.2.2.2.1.2.2.1 a b ha.1 ha.2 hb.1 hb.2]
  refine ⟨by omega, by omega, fun hc => ?_, fun hc => ?_⟩
  · have hr := cw_r (n := n) (L := L) a (dd L a b).toNat b
    rw [hv b hb.1 hb.2 (by omega) (by omega)]
    refine ⟨by omega, by omega, ?_⟩
    have := hq v16 b16.1 b16.2.1; rwa [if_neg hne] at this
  intro X31 hX31
  refine up2 (X := X31) n (fun i v31 => 0 ≤ i ∧ mB v v31 n L ∧ ∀ c : Int, 0 ≤ c → c < n → 0 ≤ dd L a c → (dd L a c < s ∨ (dd L a c = s ∧ c < i)) → v31 190 c.toNat = cw n L a (dd L a c).toNat c) ?_ (by omega) ⟨by omega, b16, fun c c0 c1 c2 c3 => hv c c0 c1 c2 (by omega)⟩
  intro i v31 hle2 ⟨i0, b31, hv2⟩ hnext2
  apply hX31
  rw [b31.2.2.2.1.1]
  refine ⟨fun hc2 => ⟨by omega, hnext (by omega) _ ⟨by omega, b31, fun c c0 c1 c2 c3 => hv2 c c0 c1 c2 (by omega)⟩⟩, fun hc2 => ?_⟩
  rw [b31.2.2.2.1.2.2.1 a i ha.1 ha.2 i0 hc2]
  have put : ∀ y : Int, dd L a i = s → y = cw n L a s.toNat i → ∀ v74 : VT, v74 = upd2 v31 190 i.toNat y → X31 (i + 1) v74 := by
    intro y hd hy v74 e74
    refine hnext2 hc2 _ ⟨by omega, mB_190 hn.2 b31 (fun a ha => by rw [e74, upd2_off _ _ _ ha]), fun c c0 c1 c2 c3 => ?_⟩
    rw [e74, upd2_at _ _ _ i0 c0]
    by_cases e : c = i
    · rw [if_pos e, hy, e, hd]
    · rw [if_neg e]; exact hv2 c c0 c1 c2 (by omega)
  have keep : ¬ dd L a i = s → ∀ c : Int, 0 ≤ c → c < n → 0 ≤ dd L a c → (dd L a c < s ∨ (dd L a c = s ∧ c < i + 1)) → v31 190 c.toNat = cw n L a (dd L a c).toNat c := by
    intro hne2 c c0 c1 c2 c3
    by_cases e : c = i
    · rw [e] at c3; exact hv2 c c0 c1 c2 (Or.inl (by rw [e]; omega))
    · exact hv2 c c0 c1 c2 (by omega)
  refine ⟨by omega, by omega, fun hne2 => ⟨by omega, hnext2 hc2 _ ⟨by omega, b31, keep hne2⟩⟩, fun he => ⟨fun hs0 => ?_, fun hs0 => ⟨by omega, fun v74 e74 => ⟨by omega, put 1 he (by rw [hs0]; rfl) v74 e74⟩⟩⟩⟩
  refine S_countInto w hn b31.2.2.2.1 ha ⟨i0, hc2⟩ (k := (s - 1).toNat) (by omega) (fun c c0 c1 c2 => ?_) ⟨by omega, fun v74 e74 => ⟨by omega, put _ he (by rw [show s.toNat = (s - 1).toNat + 1 by omega]) v74 e74⟩⟩
  rw [hv2 c c0 c1 (by omega) (by omega)]
  rw [show (dd L a c).toNat = (s - 1).toNat by omega]
theorem SM_ways {a b : Int} (w : wfL n L) (hn : 0 ≤ n ∧ n ≤ 24) (h : MC v n L) (hq : ∀ v', MF v v' → MC v' n L → q (sp_ways n L a b) v') : P_X11_ways a b v q := by
  unfold P_X11_ways
  refine S_areNodesM w hn h (fun v3 f3 c3 l3 => ⟨fun hc => ⟨fun g => absurd rfl g, fun _ => ?_⟩, fun ha hb => ⟨fun _ => ?_, fun g => absurd g (by decide)⟩⟩)
  · have := hq v3 f3 c3
    unfold sp_ways at this; rwa [if_neg hc] at this
  unfold sp_ways at hq
  rw [if_pos ⟨ha, hb⟩] at hq
  intro K49 hK49 X13 hX13
  have fr : ∀ v' : VT, (∀ a, a ≠ 230 → v' a = v3 a) → mG v' 222 n L ∧ frOK v' n L ∧ MF v v' ∧ MC v' n L := fun v' hf => ⟨mG_frame c3.1 (hf 222 (by omega)), by unfold frOK; rw [hf 224 (by omega)]; exact l3.1, MF_trans f3 ⟨fun a ha => hf a (by omega), fun j _ _ _ => by rw [hf 218 (by omega)]⟩, MC_frame c3 (hf 222 (by omega)) (fun a ha => hf a (by omega)) (fun j _ => by rw [hf 218 (by omega)])⟩
  have s1 : ∀ v49 : VT, (∀ a, a ≠ 230 → v49 a = v3 a) → (∀ c : Int, 0 ≤ c → c < n → v49 230 c.toNat = if c = a then 1 else 0) → K49 v49 := by
    intro v49 hf hz
    apply hK49
    intro X51 hX51
    refine up2 (X := X51) 24 (fun s v51 => 1 ≤ s ∧ (∀ a, a ≠ 230 → v51 a = v3 a) ∧ ∀ c : Int, 0 ≤ c → c < n → (0 ≤ dd L a c → dd L a c < s → v51 230 c.toNat = cw n L a (dd L a c).toNat c) ∧ (dd L a c = -1 ∨ s ≤ dd L a c → v51 230 c.toNat = 0)) ?_ (by omega) ⟨by omega, hf, fun c c0 c1 => ⟨fun d0 d1 => ?_, fun d0 => ?_⟩⟩
    · intro s v51 hle ⟨s0, hf1, hz1⟩ hnext
      apply hX51
      have hlb := dd_lt w ha (b := b)
      have hgb := dd_ge (L := L) (a := a) (b := b)
      refine ⟨fun hc => ⟨by omega, ?_⟩, fun hc => ?_⟩
      · obtain ⟨-, -, m1, m2⟩ := fr v51 hf1
        have this := hq v51 m1 m2
        have hr := cw_r (n := n) (L := L) a (dd L a b).toNat b
        by_cases e : dd L a b = -1
        · rw [if_pos e] at this
          rw [(hz1 b hb.1 hb.2).2 (Or.inl e)]
          exact ⟨by omega, this⟩
        · rw [if_neg e] at this
          rw [(hz1 b hb.1 hb.2).1 (by omega) (by omega)]
          exact ⟨by omega, this⟩
      intro X60 hX60
      refine up2 (X := X60) n (fun i v60 => 0 ≤ i ∧ (∀ a, a ≠ 230 → v60 a = v3 a) ∧ ∀ c : Int, 0 ≤ c → c < n → (0 ≤ dd L a c → (dd L a c < s ∨ (dd L a c = s ∧ c < i)) → v60 230 c.toNat = cw n L a (dd L a c).toNat c) ∧ ((dd L a c = -1 ∨ s < dd L a c ∨ (dd L a c = s ∧ i ≤ c)) → v60 230 c.toNat = 0)) ?_ (by omega) ⟨by omega, hf1, fun c c0 c1 => ⟨fun d0 d1 => (hz1 c c0 c1).1 d0 (by omega), fun d0 => (hz1 c c0 c1).2 (by omega)⟩⟩
      intro i v60 hle2 ⟨i0, hf2, hz2⟩ hnext2
      apply hX60
      have g60 := fr v60 hf2
      rw [g60.1.1]
      refine ⟨fun hc2 => ⟨by omega, hnext hc _ ⟨by omega, hf2, fun c c0 c1 => ⟨fun d0 d1 => (hz2 c c0 c1).1 d0 (by omega), fun d0 => (hz2 c c0 c1).2 (by omega)⟩⟩⟩, fun hc2 => S_farOf hn g60.2.1 ha ⟨i0, hc2⟩ ?_⟩
      have hli := dd_lt w ha (b := i)
      have hgi := dd_ge (L := L) (a := a) (b := i)
      have fi := f9_r w hn (a := a) (b := i) ha
      refine ⟨fun he => ?_, fun hne => ⟨by omega, hnext2 hc2 _ ⟨by omega, hf2, fun c c0 c1 => ⟨fun d0 d1 => ?_, fun d0 => (hz2 c c0 c1).2 (by omega)⟩⟩⟩⟩
      · have hdi : dd L a i = s := by have := fi.2.2.1.mp (by omega); rw [← fi.2.2.2 this]; exact he
        intro X88 hX88
        refine up2 (X := X88) n (fun j v88 => 0 ≤ j ∧ (∀ a, a ≠ 230 → v88 a = v3 a) ∧ (∀ c : Int, 0 ≤ c → c < n → c ≠ i → v88 230 c.toNat = v60 230 c.toNat) ∧ v88 230 i.toNat = min 1000000000 (sw n L a (s - 1).toNat i j.toNat)) ?_ (by omega) ⟨by omega, hf2, fun c c0 c1 _ => rfl, by rw [(hz2 i i0 hc2).2 (by omega)]; rfl⟩
        intro j v88 hle3 ⟨j0, hf3, hz3, hi3⟩ hnext3
        apply hX88
        have g88 := fr v88 hf3
        rw [g88.1.1]
        refine ⟨fun hc3 => ⟨by omega, hnext2 hc2 _ ⟨by omega, hf3, fun c c0 c1 => ⟨fun d0 d1 => ?_, fun d0 => ?_⟩⟩⟩, fun hc3 => S_farOf hn g88.2.1 ⟨j0, hc3⟩ ⟨i0, hc2⟩ ?_⟩
        · by_cases e : c = i
          · rw [e, hi3, hdi, show s.toNat = (s - 1).toNat + 1 by omega, cw_s, show j = n by omega]
          · rw [hz3 c c0 c1 e]; exact (hz2 c c0 c1).1 d0 (by omega)
        · have hci : c ≠ i := fun e => by rw [e] at d0; omega
          rw [hz3 c c0 c1 hci]; exact (hz2 c c0 c1).2 (by omega)
        · have fj := f9_r w hn (a := j) (b := i) ⟨j0, hc3⟩
          have gj := dd_ge (L := L) (a := j) (b := i)
          have hadj : f9 L j i = 1 ↔ adj L j i := by
            rw [← dd_one w]
            constructor
            · intro g; have := fj.2.2.1.mp (by omega); rw [← fj.2.2.2 this]; exact g
            · intro g; rw [fj.2.2.2 (by omega)]; exact g
          refine ⟨fun hne => ⟨by omega, hnext3 hc3 _ ⟨by omega, hf3, hz3, by rw [hi3, sw_no j0 (fun g => hne (hadj.mpr g.1))]⟩⟩, fun he1 => S_farOf hn g88.2.1 ha ⟨j0, hc3⟩ ⟨by omega, fun hne => ⟨by omega, hnext3 hc3 _ ⟨by omega, hf3, hz3, ?_⟩⟩, fun he2 => ?_⟩⟩
          · rw [hi3, sw_no j0 (fun g => hne ?_)]
            have fa := f9_r w hn (a := a) (b := j) ha
            rw [fa.2.2.2 (by omega)]; omega
          · have fa := f9_r w hn (a := a) (b := j) ha
            have hdj : dd L a j = s - 1 := by have := fa.2.2.1.mp (by omega); rw [← fa.2.2.2 this]; exact he2
            have hji : j ≠ i := fun e => by rw [e] at hdj; omega
            have vj : v88 230 j.toNat = cw n L a (s - 1).toNat j := by
              rw [hz3 j j0 hc3 hji, (hz2 j j0 hc3).1 (by omega) (by omega), hdj]
            have hcr := cw_r (n := n) (L := L) a (s - 1).toNat j
            have hsr := sw_r (n := n) (L := L) a i (s - 1).toNat j.toNat
            have hsy := sw_yes (n := n) (L := L) (a := a) (c := i) (k := (s - 1).toNat) j0 ⟨hadj.mp he1, by omega⟩
            have put : ∀ y : Int, y = min 1000000000 (sw n L a (s - 1).toNat i (j + 1).toNat) → ∀ v173 : VT, v173 = upd2 v88 230 i.toNat y → X88 (j + 1) v173 := by
              intro y hy v173 e173
              refine hnext3 hc3 _ ⟨by omega, fun a ha => by rw [e173, upd2_off _ _ _ ha]; exact hf3 a ha, fun c c0 c1 c2 => ?_, ?_⟩
              · rw [e173, upd2_at _ _ _ i0 c0, if_neg c2]; exact hz3 c c0 c1 c2
              · rw [e173, upd2_same]; exact hy
            rw [hi3, vj]
            exact ⟨by omega, by omega, by omega, fun g => ⟨by omega, by omega, by omega, by omega, fun v173 e173 => ⟨by omega, put _ (by rw [hsy]; omega) v173 e173⟩⟩, fun g => ⟨by omega, fun v173 e173 => ⟨by omega, put _ (by rw [hsy]; omega) v173 e173⟩⟩⟩
      · have hnei : ¬ dd L a i = s := fun g => hne (by rw [fi.2.2.2 (by omega)]; exact g)
        by_cases e : c = i
        · rw [e] at d0 d1 ⊢; exact (hz2 i i0 hc2).1 d0 (by omega)
        · exact (hz2 c c0 c1).1 d0 (by omega)
    · have := dd_zero (L := L) (a := a) (b := c) (by omega)
      rw [hz c c0 c1, if_pos this.symm, show (dd L a c).toNat = 0 by omega]; rfl
    · rw [hz c c0 c1, if_neg (fun e => by rw [e, dd_self] at d0; omega)]
  refine up2 (X := X13) n (fun i v13 => 0 ≤ i ∧ (∀ a, a ≠ 230 → v13 a = v3 a) ∧ ∀ c : Int, 0 ≤ c → c < i → v13 230 c.toNat = if c = a then 1 else 0) ?_ (by omega) ⟨by omega, fun a _ => rfl, fun c c0 c1 => by omega⟩
  intro i v13 hle ⟨i0, hf, hz⟩ hnext
  apply hX13
  rw [(fr v13 hf).1.1]
  have put : ∀ y : Int, y = (if i = a then 1 else 0) → i < n → ∀ v42 : VT, v42 = upd2 v13 230 i.toNat y → X13 (i + 1) v42 := by
    intro y hy hc v42 e42
    refine hnext hc _ ⟨by omega, fun a ha => by rw [e42, upd2_off _ _ _ ha]; exact hf a ha, fun c c0 c1 => ?_⟩
    rw [e42, upd2_at _ _ _ i0 c0]
    by_cases e : c = i
    · rw [if_pos e, hy, e]
    · rw [if_neg e]; exact hz c c0 (by omega)
  refine ⟨fun hc => s1 v13 hf (fun c c0 c1 => hz c c0 (by omega)), fun hc => ⟨fun hne => S_flag (fun _ => ⟨by omega, fun v42 e42 => ⟨by omega, put 0 (by rw [if_neg hne]) hc v42 e42⟩⟩) (fun g => absurd rfl g), fun he => S_flag (fun g => absurd g (by decide)) (fun _ => ⟨by omega, fun v42 e42 => ⟨by omega, put 1 (by rw [if_pos he]) hc v42 e42⟩⟩)⟩⟩
end Q14

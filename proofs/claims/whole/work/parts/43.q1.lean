/-! ===== far, between, reach, spread, alike, line, degree ===== -/
theorem bs_false {n : Int} (hn : n ≤ 32) {p : Int → Prop} (h : ∀ k : Int, 0 ≤ k → k < n → ¬ p k) : bs n p = 0 := by
  symm
  refine bs_eq hn r32_0 (fun k hk => ?_)
  rw [tb_0]
  constructor
  · intro h'; cases h'
  · rintro ⟨h1, h2⟩; exact absurd h2 (h _ (by omega) h1)
theorem tb_small {x : Int} (hx : r32 x) (h : ∀ k : Nat, 24 ≤ k → k < 32 → tb x k = false) : 0 ≤ x ∧ x < 16777216 := by
  have h0 := tb_nonneg hx (h 31 (by omega) (by omega))
  refine ⟨h0, ?_⟩
  have hlt : x.toNat < 2 ^ 24 := by
    refine Nat.lt_pow_two_of_testBit _ (fun k hk => ?_)
    by_cases hk2 : k < 32
    · rw [← tb_int h0 hk2]; exact h k hk hk2
    · refine Nat.testBit_lt_two_pow ?_
      unfold r32 at hx
      exact Nat.lt_of_lt_of_le (show x.toNat < 2 ^ 32 by omega) (Nat.pow_le_pow_right (by decide) (by omega))
  omega
theorem bs_small {n : Int} (hn : n ≤ 24) (p : Int → Prop) : 0 ≤ bs n p ∧ bs n p < 16777216 := by
  refine tb_small (bs_r n p) (fun k h1 h2 => ?_)
  cases h : tb (bs n p) k
  · rfl
  · have := (bs_tb (by omega) p k).mp h
    omega
theorem am_symm {n : Int} {L : List Ln} (hn : n ≤ 24) (a b : Int) : am n L a b = am n L b a := by
  unfold am
  refine bs_congr (by omega) (fun c _ _ => ?_)
  rw [dd_symm (a := b) (b := a), dd_symm (a := a) (b := c), dd_symm (a := b) (b := c)]
  constructor
  · rintro ⟨h1, h2, h3⟩
    refine ⟨h1, ?_, by omega⟩
    have := dd_ge (L := L) (a := c) (b := b)
    by_cases e : dd L c b = -1
    · exfalso
      have t : 0 ≤ dd L a c := by rw [dd_symm]; exact h2
      have t2 := dd_tri (L := L) (a := c) (b := a) (c := b) h2 h1
      omega
    · omega
  · rintro ⟨h1, h2, h3⟩
    refine ⟨h1, ?_, by omega⟩
    have := dd_ge (L := L) (a := c) (b := a)
    by_cases e : dd L c a = -1
    · exfalso
      have h1' : 0 ≤ dd L b a := by rw [dd_symm]; exact h1
      have t2 := dd_tri (L := L) (a := c) (b := b) (c := a) h2 h1'
      omega
    · omega
theorem S_findAmid {n a b : Int} {L : List Ln} {v : VT} {q : Int → Prop} (w : wfL n L) (hn : 0 ≤ n ∧ n ≤ 24) (hm : mt v n L) (ha : 0 ≤ a ∧ a < n) (hb : 0 ≤ b ∧ b < n) (hq : q (am n L a b)) : P_X2_findAmid a b v q := by
  unfold P_X2_findAmid
  rw [hm.2.2.1 a b ha.1 ha.2 hb.1 hb.2, hm.1]
  refine ⟨by omega, by omega, fun l3 e3 X15 hX15 => ?_⟩
  subst e3
  by_cases hd : dd L a b = -1
  · refine hX15 0 0 ⟨fun _ => ?_, fun h => absurd hd h⟩
    have : am n L a b = 0 := bs_false (by omega) (fun k _ _ h => by omega)
    rw [← this]; exact hq
  · have hge := dd_ge (L := L) (a := a) (b := b)
    refine up2r (X := X15) n (fun i acc => 0 ≤ i ∧ acc = bs i (fun c => 0 ≤ dd L a b ∧ 0 ≤ dd L a c ∧ dd L a c + dd L c b = dd L a b)) ?_ (by omega) ⟨by omega, (bs_0 _).symm⟩
    intro acc i hle ⟨i0, hacc⟩ hnext
    apply hX15
    refine ⟨fun h => absurd h hd, fun _ => ⟨fun hc => ?_, fun hc => ?_⟩⟩
    · rw [hacc, show i = n by omega]; exact hq
    · rw [hm.2.2.1 a i ha.1 ha.2 i0 hc, hm.2.2.1 b i hb.1 hb.2 i0 hc, dd_symm (a := b) (b := i)]
      have d1 := dd_lt w ha (b := i)
      have d2 := dd_lt w (a := i) ⟨i0, hc⟩ (b := b)
      have d3 := dd_ge (L := L) (a := i) (b := b)
      have d4 := dd_ge (L := L) (a := a) (b := i)
      refine ⟨by omega, by omega, fun h1 => ⟨by omega, hnext hc _ ⟨by omega, ?_⟩⟩, fun h1 => ⟨by omega, by omega, by omega, by omega, by omega, fun h2 => ⟨by omega, hnext hc _ ⟨by omega, ?_⟩⟩, fun h2 l4 e4 => ⟨by omega, hnext hc _ ⟨by omega, ?_⟩⟩⟩⟩
      · rw [hacc, bs_no i0 (fun h => by omega)]
      · rw [hacc, bs_no i0 (fun h => h2 h.2.2)]
      · rw [e4, hacc, bs_yes i0 ⟨by omega, by omega, h2⟩]
theorem row_at (v : VT) (B : Nat) {a b c d : Int} (x : Int) (ha : 0 ≤ a) (hb : 0 ≤ b) (hc : 0 ≤ c) (hd : 0 ≤ d) : upd2 v (B + a.toNat) b.toNat x (B + c.toNat) d.toNat = if c = a ∧ d = b then x else v (B + c.toNat) d.toNat := by
  unfold upd2
  by_cases h : c = a ∧ d = b
  · rw [if_pos h, if_pos ⟨by rw [h.1], by rw [h.2]⟩]
  · rw [if_neg h, if_neg (fun q => h (by omega))]
theorem S_amid {n a b : Int} {L : List Ln} {v : VT} {q : Int → VT → Prop} (w : wfL n L) (hn : 0 ≤ n ∧ n ≤ 24) (h : XC v n L) (h0 : v 138 0 = 1) (hm : mt v n L) (hmd : md v n L) (ha : 0 ≤ a ∧ a < n) (hb : 0 ≤ b ∧ b < n)
    (hq : ∀ v', (∀ c, ¬ (c = 138 ∨ (166 ≤ c ∧ c ≤ 189)) → v' c = v c) → (∀ j, j ≠ 6 → v' 138 j = v 138 j) → XC v' n L → v' 138 0 = 1 → mt v' n L → md v' n L → v' 138 6 = 1 → q (am n L a b) v') : P_X2_amid a b v q := by
  unfold P_X2_amid
  refine ⟨fun hc => ?_, fun hc => ?_⟩
  · rcases id hmd with hmd' | ⟨e1, e2⟩
    · exact absurd hmd' hc
    · refine ⟨by omega, by omega, ?_⟩
      rw [e2 a b ha.1 ha.2 hb.1 hb.2]
      exact hq v (fun _ _ => rfl) (fun _ _ => rfl) h h0 hm hmd e1
  · intro K75 hK75 X9 hX9
    have fin : ∀ v75 : VT, (∀ c, ¬ (166 ≤ c ∧ c ≤ 189) → v75 c = v c) → (∀ a b : Int, 0 ≤ a → a < n → 0 ≤ b → b < n → v75 (166 + a.toNat) b.toNat = am n L a b) → K75 v75 := by
      intro v75 hf hz
      apply hK75
      intro v77 e77
      have f77 : ∀ c, ¬ (c = 138 ∨ (166 ≤ c ∧ c ≤ 189)) → v77 c = v c := fun c hc => by rw [e77, upd2_off _ _ _ (by omega)]; exact hf c (by omega)
      have j77 : ∀ j, j ≠ 6 → v77 138 j = v 138 j := fun j hj => by rw [e77, upd2_j, if_neg hj, hf 138 (by omega)]
      have r77 : ∀ a b : Int, 0 ≤ a → a < n → 0 ≤ b → b < n → v77 (166 + a.toNat) b.toNat = am n L a b := fun a b a1 a2 a3 a4 => by rw [e77, upd2_off _ _ _ (by omega)]; exact hz a b a1 a2 a3 a4
      have m77 : mt v77 n L := by
        refine ⟨by rw [j77 2 (by decide)]; exact hm.1, by rw [f77 139 (by omega)]; exact hm.2.1, fun a b a1 a2 a3 a4 => by rw [f77 _ (by omega)]; exact hm.2.2.1 a b a1 a2 a3 a4, by rw [j77 1 (by decide)]; exact hm.2.2.2.1, by rw [j77 1 (by decide)]; exact hm.2.2.2.2⟩
      have e6 : v77 138 6 = 1 := by rw [e77, upd2_same]
      have d77 : md v77 n L := Or.inr ⟨e6, r77⟩
      have x77 : XC v77 n L := by
        obtain ⟨c1, c2, c3, c4⟩ := h
        refine ⟨xG_frame c1 (f77 10 (by omega)) (f77 12 (by omega)) (f77 13 (by omega)) (f77 14 (by omega)), Or.inr ⟨by rw [j77 0 (by decide)]; exact h0, m77, d77⟩, ?_, ?_⟩
        · rw [f77 191 (by omega)]
          rcases c3 with c3 | ⟨a1, a2⟩
          · exact Or.inl c3
          · exact Or.inr ⟨a1, kOKx_frame a2 (fun a ha => f77 a (by omega))⟩
        · rw [f77 197 (by omega)]
          rcases c4 with c4 | ⟨a1, a2⟩
          · exact Or.inl c4
          · exact Or.inr ⟨a1, stX_frame a2 (fun a ha => f77 a (by omega))⟩
      refine ⟨by omega, by omega, ?_⟩
      rw [r77 a b ha.1 ha.2 hb.1 hb.2]
      exact hq v77 f77 j77 x77 (by rw [j77 0 (by decide)]; exact h0) m77 d77 e6
    refine up2 (X := X9) n (fun i v9 => 0 ≤ i ∧ (∀ c, ¬ (166 ≤ c ∧ c ≤ 189) → v9 c = v c) ∧ (∀ a b : Int, 0 ≤ a → a < n → 0 ≤ b → b < n → (a < i ∨ b < i) → v9 (166 + a.toNat) b.toNat = am n L a b)) ?_ (by omega) ⟨by omega, fun _ _ => rfl, fun a b a1 a2 a3 a4 a5 => by omega⟩
    intro i v9 hle ⟨i0, hf, hz⟩ hnext
    apply hX9
    have e2 : v9 138 2 = n := by rw [hf 138 (by omega)]; exact hm.1
    rw [e2]
    refine ⟨fun hc2 => fin v9 hf (fun a b a1 a2 a3 a4 => hz a b a1 a2 a3 a4 (by omega)), fun hc2 => ?_⟩
    intro X20 hX20
    refine up2 (X := X20) n (fun j v20 => i ≤ j ∧ (∀ c, ¬ (166 ≤ c ∧ c ≤ 189) → v20 c = v c) ∧ (∀ a b : Int, 0 ≤ a → a < n → 0 ≤ b → b < n → (a < i ∨ b < i ∨ (a = i ∧ b < j) ∨ (b = i ∧ a < j)) → v20 (166 + a.toNat) b.toNat = am n L a b)) ?_ (by omega) ⟨by omega, hf, fun a b a1 a2 a3 a4 a5 => hz a b a1 a2 a3 a4 (by omega)⟩
    intro j v20 hle2 ⟨j0, hf2, hz2⟩ hnext2
    apply hX20
    have e2' : v20 138 2 = n := by rw [hf2 138 (by omega)]; exact hm.1
    rw [e2']
    refine ⟨fun hc3 => ⟨by omega, hnext hc2 _ ⟨by omega, hf2, fun a b a1 a2 a3 a4 a5 => hz2 a b a1 a2 a3 a4 (by omega)⟩⟩, fun hc3 => ⟨by omega, ?_⟩⟩
    have m20 : mt v20 n L := mt_frame hm (fun c hc => hf2 c (by omega)) hn.2
    refine S_findAmid w hn m20 ⟨i0, hc2⟩ ⟨by omega, hc3⟩ ⟨by omega, fun v44 e44 => ⟨by omega, by omega, by omega, by omega, fun v62 e62 => ⟨by omega, hnext2 hc3 _ ⟨by omega, fun c hc => ?_, fun a b a1 a2 a3 a4 a5 => ?_⟩⟩⟩⟩
    · rw [e62, upd2_off _ _ _ (by omega), e44, upd2_off _ _ _ (by omega)]; exact hf2 c hc
    · have r44 : v44 (166 + i.toNat) j.toNat = am n L i j := by rw [e44, row_at _ _ _ i0 (by omega) i0 (by omega), if_pos ⟨rfl, rfl⟩]
      rw [r44] at e62
      rw [e62, row_at _ _ _ (by omega) i0 a1 a3]
      by_cases c1 : a = j ∧ b = i
      · rw [if_pos c1, c1.1, c1.2]; exact am_symm hn.2 i j
      · rw [if_neg c1, e44, row_at _ _ _ i0 (by omega) a1 a3]
        by_cases c2 : a = i ∧ b = j
        · rw [if_pos c2, c2.1, c2.2]
        · rw [if_neg c2]
          exact hz2 a b a1 a2 a3 a4 (by omega)
theorem S_betweenOf {n a b : Int} {L : List Ln} {v : VT} {q : Int → Prop} (w : wfL n L) (hn : 0 ≤ n ∧ n ≤ 24) (hg : mG v 222 n L) (hf : frOK v n L) (ha : 0 ≤ a ∧ a < n) (hb : 0 ≤ b ∧ b < n) (hq : q (am n L a b)) : P_X11_betweenOf a b v q := by
  unfold P_X11_betweenOf
  rw [hg.1]
  intro X5 hX5
  refine up2r (X := X5) n (fun i acc => 0 ≤ i ∧ acc = bs i (fun c => 0 ≤ dd L a b ∧ 0 ≤ dd L a c ∧ dd L a c + dd L c b = dd L a b)) ?_ (by omega) ⟨by omega, (bs_0 _).symm⟩
  intro acc i hle ⟨i0, hacc⟩ hnext
  apply hX5
  refine ⟨fun hc => by rw [hacc, show i = n by omega]; exact hq, fun hc => ?_⟩
  refine S_farOf hn hf ha hb ?_
  have f0 := f9_r w hn (a := a) (b := b) ha
  refine ⟨fun hc2 => ?_, fun hc2 => ?_⟩
  · have h1 : am n L a b = 0 := bs_false (by omega) (fun k _ _ h => by omega)
    have h2 : acc = 0 := by rw [hacc]; exact bs_false (by omega) (fun k _ _ h => by omega)
    rw [h2, ← h1]; exact hq
  · have hd := f0.2.2.1.mp hc2
    refine S_farOf hn hf ha ⟨i0, hc⟩ (S_farOf hn hf ⟨i0, hc⟩ hb ?_)
    have f1 := f9_r w hn (a := a) (b := i) ha
    have f2 := f9_r w hn (a := i) (b := b) ⟨i0, hc⟩
    refine ⟨by omega, S_farOf hn hf ha hb ?_⟩
    have d1 := dd_lt w ha (b := b)
    have d4 := dd_ge (L := L) (a := a) (b := i)
    have d5 := dd_ge (L := L) (a := i) (b := b)
    rw [f0.2.2.2 hd]
    have key : (f9 L a i + f9 L i b = dd L a b) ↔ (0 ≤ dd L a b ∧ 0 ≤ dd L a i ∧ dd L a i + dd L i b = dd L a b) := by
      constructor
      · intro h
        have g1 := f1.2.2.1.mp (by omega)
        have g2 := f2.2.2.1.mp (by omega)
        rw [f1.2.2.2 g1, f2.2.2.2 g2] at h
        exact ⟨hd, g1, h⟩
      · rintro ⟨_, g1, h⟩
        have g2 : 0 ≤ dd L i b := by
          have t : 0 ≤ dd L i a := by rw [dd_symm]; exact g1
          exact (dd_tri t hd).1
        rw [f1.2.2.2 g1, f2.2.2.2 g2]; exact h
    rw [key]
    exact ⟨fun h => ⟨by omega, hnext hc _ ⟨by omega, by rw [hacc, bs_no i0 h]⟩⟩, fun h l3 e3 => ⟨by omega, hnext hc _ ⟨by omega, by rw [e3, hacc, bs_yes i0 h]⟩⟩⟩
/-! the answers -/
noncomputable def sp_far (n : Int) (L : List Ln) (a b : Int) : Int := if (0 ≤ a ∧ a < n) ∧ (0 ≤ b ∧ b < n) then dd L a b else -1
noncomputable def sp_between (n : Int) (L : List Ln) (a b : Int) : Int := if (0 ≤ a ∧ a < n) ∧ (0 ≤ b ∧ b < n) then am n L a b else -1
section Q1
variable {n : Int} {L : List Ln} {v : VT} {a b : Int} {q : Int → VT → Prop}
theorem SX_far (w : wfL n L) (hn : 0 ≤ n ∧ n ≤ 24) (h : XC v n L) (hq : ∀ v', XF v v' → XC v' n L → q (sp_far n L a b) v') : P_X10_far a b v q := by
  unfold P_X10_far
  refine S_areNodes h.1 (fun hc => ⟨fun h => absurd rfl h, fun _ => ?_⟩) (fun ha hb => ⟨fun _ => ?_, fun h => absurd h (by decide)⟩)
  · have := hq v (XF_rf v) h
    unfold sp_far at this; rwa [if_neg hc] at this
  · refine S_measured w hn h (fun v' f c k0 m d => ⟨by omega, by omega, ?_⟩)
    rw [m.2.2.1 a b ha.1 ha.2 hb.1 hb.2]
    have := hq v' f c
    unfold sp_far at this; rwa [if_pos ⟨ha, hb⟩] at this
theorem SM_far (w : wfL n L) (hn : 0 ≤ n ∧ n ≤ 24) (h : MC v n L) (hq : ∀ v', MF v v' → MC v' n L → q (sp_far n L a b) v') : P_X11_far a b v q := by
  unfold P_X11_far
  refine S_areNodesM w hn h (fun v' f c l => ⟨fun hc => ⟨fun _ => ?_, fun h => absurd rfl h⟩, fun ha hb => ⟨fun h => absurd h (by decide), fun _ => ?_⟩⟩)
  · have := hq v' f c
    unfold sp_far at this; rwa [if_neg hc] at this
  · have := hq v' f c
    unfold sp_far at this; rw [if_pos ⟨ha, hb⟩] at this
    have f0 := f9_r w hn (a := a) (b := b) ha
    have g := dd_ge (L := L) (a := a) (b := b)
    refine S_farOf hn l.1 ha hb ⟨fun hc => ?_, fun hc => S_farOf hn l.1 ha hb ?_⟩
    · rwa [show dd L a b = -1 by omega] at this
    · rwa [f0.2.2.2 (f0.2.2.1.mp hc)]
theorem SX_between (w : wfL n L) (hn : 0 ≤ n ∧ n ≤ 24) (h : XC v n L) (hq : ∀ v', XF v v' → XC v' n L → q (sp_between n L a b) v') : P_X10_between a b v q := by
  unfold P_X10_between
  refine S_areNodes h.1 (fun hc => ⟨fun h => absurd rfl h, fun _ => ?_⟩) (fun ha hb => ⟨fun _ => ?_, fun h => absurd h (by decide)⟩)
  · have := hq v (XF_rf v) h
    unfold sp_between at this; rwa [if_neg hc] at this
  · refine S_measured w hn h (fun v' f c k0 m d => S_amid w hn c k0 m d ha hb (fun v'' f2 j2 c2 _ _ _ _ => ?_))
    have := hq v'' (fun x hx => by rw [f2 x (by omega)]; exact f x hx) c2
    unfold sp_between at this; rwa [if_pos ⟨ha, hb⟩] at this
theorem SM_between (w : wfL n L) (hn : 0 ≤ n ∧ n ≤ 24) (h : MC v n L) (hq : ∀ v', MF v v' → MC v' n L → q (sp_between n L a b) v') : P_X11_between a b v q := by
  unfold P_X11_between
  refine S_areNodesM w hn h (fun v' f c l => ⟨fun hc => ⟨fun _ => ?_, fun h => absurd rfl h⟩, fun ha hb => ⟨fun h => absurd h (by decide), fun _ => ?_⟩⟩)
  · have := hq v' f c
    unfold sp_between at this; rwa [if_neg hc] at this
  · refine S_betweenOf w hn c.1 l.1 ha hb ?_
    have := hq v' f c
    unfold sp_between at this; rwa [if_pos ⟨ha, hb⟩] at this
end Q1

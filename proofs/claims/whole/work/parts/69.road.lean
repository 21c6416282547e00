/-! ===== road ===== -/
def gln (L : List Ln) (t a k b : Int) : Prop := ((lo L k = a ∧ hi L k = b) ∨ (lo L k = b ∧ hi L k = a)) ∧ ∃ c, isL (fop 0) L t b c ∧ isL (fop 0) L t a (c + pr L k)
def gd (L : List Ln) (t a b : Int) : Prop := ∃ k : Int, 0 ≤ k ∧ k < L.length ∧ gln L t a k b
def isNx (L : List Ln) (t a b : Int) : Prop := gd L t a b ∧ ∀ b', gd L t a b' → b ≤ b'
noncomputable def nxt (L : List Ln) (t a : Int) : Int := Classical.epsilon (fun b => isNx L t a b)
noncomputable def rs (L : List Ln) (t a : Int) : Nat → Int
  | 0 => a
  | k + 1 => nxt L t (rs L t a k)
section Road
variable {n t : Int} {L : List Ln} {v : VT}
theorem isNx_one {a b b' : Int} (h : isNx L t a b) (h' : isNx L t a b') : b = b' := by
  have := h.2 b' h'.1
  have := h'.2 b h.1
  omega
theorem nxt_is {a b : Int} (h : isNx L t a b) : nxt L t a = b := isNx_one (Classical.epsilon_spec (p := fun b => isNx L t a b) ⟨b, h⟩) h
theorem rs_sh (a : Int) : ∀ j : Nat, rs L t a (j + 1) = rs L t (nxt L t a) j
  | 0 => rfl
  | j + 1 => by
    show nxt L t (rs L t a (j + 1)) = nxt L t (rs L t (nxt L t a) j)
    rw [rs_sh a j]
theorem isL_ex (w : wfL n L) {a : Int} (h : 0 ≤ dd L t a) : ∃ c, isL (fop 0) L t a c := by
  obtain ⟨k, c, h1⟩ := cwk_ex (f := fop 0) ⟨_, dd_wk h⟩
  have r1 := cwk_r w (okf_op 0) h1
  obtain ⟨m, ⟨k2, m1⟩, m2⟩ := ex_least (p := fun m : Nat => ∃ k, cwk (fop 0) L t k a (m : Int)) ⟨c.toNat, k, by rw [Int.toNat_of_nonneg r1.1]; exact h1⟩
  refine ⟨(m : Int), ⟨k2, m1⟩, fun k3 c3 h3 => ?_⟩
  have r3 := cwk_r w (okf_op 0) h3
  by_cases hlt : c3.toNat < m
  · exact absurd ⟨k3, by rw [Int.toNat_of_nonneg r3.1]; exact h3⟩ (m2 _ hlt)
  · omega
theorem gd_in (w : wfL n L) {a b : Int} (h : gd L t a b) : adj L a b := by
  obtain ⟨k, k0, k1, h2, -⟩ := h
  exact ⟨k, k0, k1, h2⟩
theorem gd_ex (w : wfL n L) {a c : Int} (h : isL (fop 0) L t a c) (ha : a ≠ t) : ∃ b, isNx L t a b := by
  obtain ⟨⟨k, h1⟩, h2⟩ := id h
  cases k with
  | zero => exact absurd h1.1 ha
  | succ k =>
    obtain ⟨b, c', p, g1, g2, g3⟩ := h1
    obtain ⟨l, l0, l1, l2, l3⟩ := id g1
    have hj : 0 ≤ dd L t b := by
      have key : ∀ {k : Nat} {b c : Int}, cwk (fop 0) L t k b c → wk L k t b := by
        intro k
        induction k with
        | zero => intro b c h; exact h.1.symm
        | succ k ih => intro b c ⟨b2, c2, p2, i1, i2, _⟩; exact ⟨b2, ih i2, nbp_adj i1⟩
      exact (dd_le (key g2)).1
    obtain ⟨d, d1⟩ := isL_ex w hj
    have e1 := d1.2 _ _ g2
    obtain ⟨⟨k3, d2⟩, d3⟩ := id d1
    have e2 := h2 (k3 + 1) (fop 0 d p) ⟨b, d, p, g1, d2, rfl⟩
    rw [fop0] at e2 g3
    have e3 : d + p = c := by omega
    have hg : gd L t a b := ⟨l, l0, l1, by rcases l2 with h | h <;> simp [h], d, d1, by rw [l3, e3]; exact h⟩
    have hin : ∀ b', gd L t a b' → 0 ≤ b' := fun b' hb => (adj_in w (gd_in w hb)).2.2.1
    obtain ⟨m, m1, m2⟩ := ex_least (p := fun m : Nat => gd L t a (m : Int)) ⟨b.toNat, by rw [Int.toNat_of_nonneg (hin b hg)]; exact hg⟩
    refine ⟨(m : Int), m1, fun b' hb' => ?_⟩
    by_cases hlt : b'.toNat < m
    · exact absurd (show gd L t a (b'.toNat : Int) by rw [Int.toNat_of_nonneg (hin b' hb')]; exact hb') (m2 _ hlt)
    · have := hin b' hb'; omega
theorem rs_path (w : wfL n L) : ∀ (m : Nat) {a c : Int}, c.toNat ≤ m → isL (fop 0) L t a c → 0 ≤ a ∧ a < n → 0 ≤ dd L t a → ∃ k : Nat, rs L t a k = t ∧ (∀ j, j < k → rs L t a j ≠ t) ∧ (∀ j, j ≤ k → (0 ≤ rs L t a j ∧ rs L t a j < n) ∧ 0 ≤ dd L t (rs L t a j) ∧ ∃ c', isL (fop 0) L t (rs L t a j) c' ∧ c' ≤ c) ∧ ∀ i j, i < j → j ≤ k → rs L t a i ≠ rs L t a j := by
  intro m
  induction m with
  | zero =>
    intro a c hc h ha hd
    by_cases e : a = t
    · exact ⟨0, e, fun j hj => by omega, fun j hj => by rw [show j = 0 by omega]; exact ⟨ha, hd, c, h, Int.le_refl _⟩, fun i j h1 h2 => by omega⟩
    · obtain ⟨b, ⟨l, l0, l1, l2, d, d1, d2⟩, hb2⟩ := gd_ex w h e
      have e1 := isL_one h d2
      obtain ⟨k3, d3⟩ := d1.1
      have r3 := cwk_r w (okf_op 0) d3
      have := w.1 l l0 l1
      omega
  | succ m ih =>
    intro a c hc h ha hd
    by_cases e : a = t
    · exact ⟨0, e, fun j hj => by omega, fun j hj => by rw [show j = 0 by omega]; exact ⟨ha, hd, c, h, Int.le_refl _⟩, fun i j h1 h2 => by omega⟩
    · obtain ⟨b, hb⟩ := gd_ex w h e
      have eb := nxt_is hb
      obtain ⟨l, l0, l1, l2, d, d1, d2⟩ := id hb.1
      have e1 := isL_one h d2
      obtain ⟨k3, d3⟩ := id d1.1
      have r3 := cwk_r w (okf_op 0) d3
      have hw := w.1 l l0 l1
      have hadj := gd_in w hb.1
      have hbn := adj_in w hadj
      have hdb := dd_next (a := t) hadj hd
      obtain ⟨k, k1, k2, k4, k5⟩ := ih (a := b) (c := d) (by omega) d1 ⟨hbn.2.2.1, hbn.2.2.2.1⟩ hdb.1
      have sh : ∀ j, rs L t a (j + 1) = rs L t b j := fun j => by rw [rs_sh, eb]
      refine ⟨k + 1, by rw [sh]; exact k1, fun j hj => ?_, fun j hj => ?_, fun i j h1 h2 => ?_⟩
      · cases j with
        | zero => exact e
        | succ j => rw [sh]; exact k2 j (by omega)
      · cases j with
        | zero => exact ⟨ha, hd, c, h, Int.le_refl _⟩
        | succ j =>
          rw [sh]
          obtain ⟨a1, a2, c', a3, a4⟩ := k4 j (by omega)
          exact ⟨a1, a2, c', a3, by omega⟩
      · cases j with
        | zero => omega
        | succ j =>
          cases i with
          | zero =>
            intro he
            rw [sh] at he
            obtain ⟨a1, a2, c', a3, a4⟩ := k4 j (by omega)
            have he2 : a = rs L t b j := he
            rw [← he2] at a3
            have := isL_one h a3
            omega
          | succ i => rw [sh, sh]; exact k5 i j (by omega) (by omega)
def rdP (n : Int) (L : List Ln) (t a : Int) (m : Nat) : Prop := (m : Int) < n ∧ rs L t a m = t ∧ (∀ j, j < m → rs L t a j ≠ t) ∧ ∀ j, j ≤ m → (0 ≤ rs L t a j ∧ rs L t a j < n) ∧ 0 ≤ dd L t (rs L t a j)
noncomputable def rl (n : Int) (L : List Ln) (t a : Int) : Nat := Classical.epsilon (rdP n L t a)
theorem rl_is (w : wfL n L) {a : Int} (ha : 0 ≤ a ∧ a < n) (hd : 0 ≤ dd L t a) : rdP n L t a (rl n L t a) := by
  refine Classical.epsilon_spec (p := rdP n L t a) ?_
  obtain ⟨c, hc⟩ := isL_ex w hd
  obtain ⟨k, k1, k2, k3, k4⟩ := rs_path w c.toNat (Nat.le_refl _) hc ha hd
  refine ⟨k, ?_, k1, k2, fun j hj => ⟨(k3 j hj).1, (k3 j hj).2.1⟩⟩
  have := fb_holes n.toNat (k + 1) (fun j => (rs L t a j).toNat) (fun i hi' => by have := (k3 i (by omega)).1; omega) (fun i j hij hj he => by
    have h1 := (k3 i (by omega)).1
    have h2 := (k3 j (by omega)).1
    exact k4 i j hij (by omega) (by omega))
  omega
theorem S_nextStop {a : Int} {q : Int → Prop} (w : wfL n L) (hn : 0 ≤ n ∧ n ≤ 24) (hg : xG v 10 n L) (ha : 0 ≤ a ∧ a < n) (hd : 0 ≤ dd L t a) (hne : a ≠ t)
    (hl : ∀ a : Int, 0 ≤ a → a < n → 0 ≤ dd L t a → isL (fop 0) L t a (v 201 a.toNat)) (hr : ∀ a : Int, 0 ≤ a → a < n → 0 ≤ v 201 a.toNat ∧ v 201 a.toNat ≤ 1000000) (hq : q (nxt L t a)) : P_X6_nextStop a v q := by
  have hlen := w.2.2
  unfold P_X6_nextStop
  rw [hg.2.1]
  intro X5 hX5
  refine up2r (X := X5) (L.length : Int) (fun i b => 0 ≤ i ∧ ((b = -1 ∧ ∀ k b' : Int, 0 ≤ k → k < i → ¬ gln L t a k b') ∨ (0 ≤ b ∧ gd L t a b ∧ ∀ k b' : Int, 0 ≤ k → k < i → gln L t a k b' → b ≤ b'))) ?_ (by omega) ⟨by omega, Or.inl ⟨rfl, fun k b' k0 k1 => by omega⟩⟩
  intro b i hle ⟨i0, hb⟩ hnext
  apply hX5
  refine ⟨fun hc => ?_, fun hc => ⟨by omega, ?_⟩⟩
  · obtain ⟨b2, hb2⟩ := gd_ex w (hl a ha.1 ha.2 hd) hne
    rcases hb with ⟨-, h⟩ | ⟨-, h1, h2⟩
    · obtain ⟨k, k0, k1, k2⟩ := hb2.1
      exact absurd k2 (h k b2 k0 (by omega))
    · have : nxt L t a = b := nxt_is ⟨h1, fun b' ⟨k, k0, k1, k2⟩ => h2 k b' k0 (by omega) k2⟩
      rw [← this]; exact hq
  · obtain ⟨e1, e2, e3⟩ := hg.2.2 i i0 hc
    simp only [e1, e2, e3]
    have hw := w.1 i i0 hc
    intro K60 hK60
    have stay : (∀ b', gln L t a i b' → b ≠ -1 ∧ b ≤ b') → X5 b (i + 1) := fun hno => by
      refine hnext hc _ ⟨by omega, ?_⟩
      rcases hb with ⟨h0, h⟩ | ⟨h0, h1, h2⟩
      · refine Or.inl ⟨h0, fun k b' k0 k1 hg' => ?_⟩
        by_cases e : k = i
        · rw [e] at hg'; exact (hno b' hg').1 h0
        · exact h k b' k0 (by omega) hg'
      · refine Or.inr ⟨h0, h1, fun k b' k0 k1 hg' => ?_⟩
        by_cases e : k = i
        · rw [e] at hg'; exact (hno b' hg').2
        · exact h2 k b' k0 (by omega) hg'
    have go : ∀ o : Int, ((lo L i = a ∧ hi L i = o) ∨ (lo L i = o ∧ hi L i = a)) → K60 o := by
      intro o ho
      have hadj : adj L a o := ⟨i, i0, hc, ho⟩
      have hon := adj_in w hadj
      have hdo := dd_next (a := t) hadj hd
      have ro := hr o hon.2.2.1 hon.2.2.2.1
      have lo' := hl o hon.2.2.1 hon.2.2.2.1 hdo.1
      have la := hl a ha.1 ha.2 hd
      have uniq : ∀ b', gln L t a i b' → b' = o := fun b' h => by rcases h.1 with h | h <;> omega
      apply hK60
      refine ⟨fun h => by omega, fun _ => ⟨by omega, by omega, by omega, by omega, fun hno => ⟨by omega, stay (fun b' hg' => ?_)⟩, fun hyes => ?_⟩⟩
      · have eo := uniq b' hg'
        subst eo
        obtain ⟨-, c, c1, c2⟩ := hg'
        rw [isL_one c1 lo'] at c2
        exact absurd (isL_one c2 la) hno
      · have hgo : gln L t a i o := ⟨ho, _, lo', by rw [hyes]; exact la⟩
        have take : (∀ k b' : Int, 0 ≤ k → k < i → gln L t a k b' → o ≤ b') → X5 o (i + 1) := fun hk => by
          refine hnext hc _ ⟨by omega, Or.inr ⟨by omega, ⟨i, i0, hc, hgo⟩, fun k b' k0 k1 hg' => ?_⟩⟩
          by_cases e : k = i
          · rw [e] at hg'; rw [uniq b' hg']; exact Int.le_refl _
          · exact hk k b' k0 (by omega) hg'
        refine ⟨fun h1 => ⟨by omega, take (fun k b' k0 k1 hg' => ?_)⟩, fun h1 => ⟨fun h2 => ⟨by omega, stay (fun b' hg' => ⟨h1, by rw [uniq b' hg']; exact h2⟩)⟩, fun h2 => ⟨by omega, take (fun k b' k0 k1 hg' => ?_)⟩⟩⟩
        · rcases hb with ⟨-, h⟩ | ⟨h0, -, -⟩
          · exact absurd hg' (h k b' k0 k1)
          · omega
        · rcases hb with ⟨h0, h⟩ | ⟨h0, -, h3⟩
          · exact absurd h0 h1
          · have := h3 k b' k0 k1 hg'; omega
    refine ⟨fun h1 => ⟨by omega, fun h2 => ?_, fun h2 => ⟨by omega, fun l5 e5 => ?_⟩⟩, fun h1 => ⟨by omega, fun l5 e5 => ?_⟩⟩
    · apply hK60
      exact ⟨fun _ => ⟨by omega, stay (fun b' hg' => by rcases hg'.1 with h | h <;> omega)⟩, fun h => absurd rfl h⟩
    · rw [e5]; exact go _ (Or.inr ⟨rfl, h2⟩)
    · rw [e5]; exact go _ (Or.inl ⟨h1, rfl⟩)
theorem S_walk {a : Int} {q : VT → Prop} (w : wfL n L) (hn : 0 ≤ n ∧ n ≤ 24) (hg : xG v 10 n L) (ha : 0 ≤ a ∧ a < n) (hd : 0 ≤ dd L t a)
    (hl : ∀ a : Int, 0 ≤ a → a < n → 0 ≤ dd L t a → isL (fop 0) L t a (v 201 a.toNat)) (hr : ∀ a : Int, 0 ≤ a → a < n → 0 ≤ v 201 a.toNat ∧ v 201 a.toNat ≤ 1000000)
    (hq : ∀ v', (∀ c, c ≠ 200 → c ≠ 202 → v' c = v c) → v' 200 2 = (rl n L t a : Int) + 1 → (∀ j : Nat, j ≤ rl n L t a → v' 202 j = rs L t a j) → q v') : P_X6_walk a t v q := by
  have hp := rl_is w ha hd
  unfold P_X6_walk
  intro v9 e9 v12 e12 X15 hX15
  refine wh2 (X := X15) (fun i4 v15 => (∀ c, c ≠ 200 → c ≠ 202 → v15 c = v c) ∧ ∃ j : Nat, j ≤ rl n L t a ∧ v15 200 2 = (j : Int) + 1 ∧ i4 = rs L t a j ∧ ∀ i : Nat, i ≤ j → v15 202 i = rs L t a i) (fun _ v15 => (24 - v15 200 2).toNat) ?_ ⟨fun c c1 c2 => ?_, 0, by omega, ?_, rfl, fun i hi' => ?_⟩
  · intro i4 v15 ⟨hf, j, j1, j2, j3, j4⟩ hnext
    apply hX15
    have fin : j = rl n L t a → q v15 := fun e => hq v15 hf (by rw [j2, e]) (fun i hi' => j4 i (by omega))
    refine ⟨fun h24 => fin ?_, fun h24 => ⟨fun he => fin ?_, fun he => ?_⟩⟩
    · have := hp.1; omega
    · rcases Nat.lt_or_ge j (rl n L t a) with h | h
      · exact absurd (by rw [← j3]; exact he) (hp.2.2.1 j h)
      · omega
    · have jlt : j < rl n L t a := by
        rcases Nat.lt_or_ge j (rl n L t a) with h | h
        · exact h
        · have : j = rl n L t a := by omega
          rw [j3, this, hp.2.1] at he; exact absurd rfl he
      have hj := hp.2.2.2 j j1
      have g15 : xG v15 10 n L := xG_frame hg (hf 10 (by omega) (by omega)) (hf 12 (by omega) (by omega)) (hf 13 (by omega) (by omega)) (hf 14 (by omega) (by omega))
      have c15 : v15 201 = v 201 := hf 201 (by omega) (by omega)
      rw [j3]
      have hnx := (hp.2.2.2 (j + 1) (by omega)).1
      refine S_nextStop w hn g15 hj.1 hj.2 (hp.2.2.1 j jlt) (by rw [c15]; exact hl) (by rw [c15]; exact hr) ?_
      have enx : nxt L t (rs L t a j) = rs L t a (j + 1) := rfl
      rw [enx]
      refine ⟨fun h => ⟨by omega, fun v56 e56 => ?_⟩, fun h => by omega⟩
      have k56 : v56 200 2 = (j : Int) + 1 := by rw [e56, upd2_off _ _ _ (by omega)]; exact j2
      rw [k56]
      refine ⟨by omega, fun v64 e64 => hnext _ _ ⟨fun c c1 c2 => ?_, j + 1, by omega, ?_, rfl, fun i hi' => ?_⟩ ?_⟩
      · rw [e64, upd2_off _ _ _ c1, e56, upd2_off _ _ _ c2]; exact hf c c1 c2
      · rw [e64, upd2_same]; omega
      · rw [e64, upd2_off _ _ _ (by omega), e56, upd2_j, j2]
        by_cases e : i = j + 1
        · rw [if_pos (by omega), e]
        · rw [if_neg (by omega)]; exact j4 i (by omega)
      · rw [e64, upd2_same]; omega
  · rw [e12, upd2_off _ _ _ c1, e9, upd2_off _ _ _ c2]
  · rw [e12, upd2_same]; rfl
  · rw [show i = 0 by omega, e12, upd2_off _ _ _ (by omega), e9, upd2_same]; rfl
theorem S_nextOf {a : Int} {q : Int → Prop} (w : wfL n L) (hn : 0 ≤ n ∧ n ≤ 24) (hg : mG v 222 n L) (ha : 0 ≤ a ∧ a < n) (hd : 0 ≤ dd L t a) (hne : a ≠ t)
    (hl : ∀ a : Int, 0 ≤ a → a < n → 0 ≤ dd L t a → isL (fop 0) L t a (v 231 a.toNat)) (hr : ∀ a : Int, 0 ≤ a → a < n → 0 ≤ v 231 a.toNat ∧ v 231 a.toNat ≤ 1000000000) (hq : q (nxt L t a)) : P_X11_nextOf a v q := by
  unfold P_X11_nextOf
  rw [hg.1]
  intro X2 hX2
  obtain ⟨b2, hb2⟩ := gd_ex w (hl a ha.1 ha.2 hd) hne
  have hbn := adj_in w (gd_in w hb2.1)
  refine up1 (X := X2) n (fun i => 0 ≤ i ∧ ∀ b : Int, 0 ≤ b → b < i → ¬ gd L t a b) ?_ (by omega) ⟨by omega, fun b b0 b1 => by omega⟩
  intro i hle ⟨i0, hb⟩ hnext
  apply hX2
  have step : i < n → ¬ gd L t a i → X2 (i + 1) := fun hc hno => hnext hc ⟨by omega, fun b b0 b1 => by
    by_cases e : b = i
    · rw [e]; exact hno
    · exact hb b b0 (by omega)⟩
  refine ⟨fun hc => absurd hb2.1 (hb b2 hbn.2.2.1 (by omega)), fun hc => ?_⟩
  refine S_lineOf w hg (fun hno => ⟨fun _ => ⟨by omega, step hc (fun h => hno (gd_in w h))⟩, fun _ => ⟨fun _ => ⟨by omega, step hc (fun h => hno (gd_in w h))⟩, fun h => absurd rfl h⟩⟩) (fun k k0 k1 k2 => ?_)
  have hadj : adj L a i := ⟨k, k0, k1, k2⟩
  have hin := adj_in w hadj
  have hdi := dd_next (a := t) hadj hd
  have la := hl a ha.1 ha.2 hd
  have li := hl i i0 hc hdi.1
  have ri := hr i i0 hc
  have hw := w.1 k k0 k1
  refine ⟨fun h => by omega, fun _ => ⟨fun h => by omega, fun _ => ⟨by omega, S_priceOf w hg ⟨k0, k1⟩ ⟨by omega, by omega, fun hno => ⟨by omega, step hc ?_⟩, fun hyes => ?_⟩⟩⟩⟩
  · rintro ⟨k', k0', k1', k2', c, c1, c2⟩
    have ek : k' = k := by
      have hw' := w.1 k' k0' k1'
      exact w.2.1 k' k k0' k1' k0 k1 (by omega) (by omega)
    rw [isL_one c1 li, ek] at c2
    exact hno (isL_one c2 la)
  · have hgi : gd L t a i := ⟨k, k0, k1, k2, _, li, by rw [hyes]; exact la⟩
    have : nxt L t a = i := nxt_is ⟨hgi, fun b' hb' => by
      have hb0 := adj_in w (gd_in w hb')
      rcases Int.lt_or_le b' i with h | h
      · exact absurd hb' (hb b' hb0.2.2.1 h)
      · exact h⟩
    rw [← this]; exact hq
noncomputable def sp_road (n : Int) (L : List Ln) (a b k : Int) : Int := if ((0 ≤ a ∧ a < n) ∧ (0 ≤ b ∧ b < n)) ∧ 0 ≤ dd L a b ∧ -1 ≤ k then (if k = -1 then (rl n L b a : Int) + 1 else if k ≤ rl n L b a then rs L b a k.toNat else -1) else -1
end Road
section Road2
variable {n : Int} {L : List Ln} {v : VT} {q : Int → VT → Prop}
theorem SX_road {a b k : Int} (w : wfL n L) (hn : 0 ≤ n ∧ n ≤ 24) (h : XC v n L) (hq : ∀ v', XF v v' → XC v' n L → q (sp_road n L a b k) v') : P_X10_road a b k v q := by
  unfold P_X10_road
  have no : ∀ v', XF v v' → XC v' n L → sp_road n L a b k = -1 → q (-1) v' := fun v' f c hc => by
    have := hq v' f c
    rwa [hc] at this
  have nj : ¬ (((0 ≤ a ∧ a < n) ∧ (0 ≤ b ∧ b < n)) ∧ 0 ≤ dd L a b ∧ -1 ≤ k) → sp_road n L a b k = -1 := fun h => by unfold sp_road; rw [if_neg h]
  refine ⟨fun h1 => no v (XF_rf v) h (nj (by omega)), fun h1 => ⟨fun h2 => no v (XF_rf v) h ?_, fun h2 => ?_⟩⟩
  · by_cases hj : ((0 ≤ a ∧ a < n) ∧ (0 ≤ b ∧ b < n)) ∧ 0 ≤ dd L a b ∧ -1 ≤ k
    · unfold sp_road
      have hp := rl_is w hj.1.1 (show 0 ≤ dd L b a by rw [dd_symm]; exact hj.2.1)
      have := hp.1
      rw [if_pos hj, if_neg (by omega), if_neg (by omega)]
    · exact nj hj
  · refine S_areNodes h.1 (fun hc => ⟨fun _ => no v (XF_rf v) h (nj (fun g => hc g.1)), fun g => absurd rfl g⟩) (fun ha hb => ⟨fun g => absurd g (by decide), fun _ => S_measB w hn h (fun v1 b1 => ?_)⟩)
    rw [b1.2.2.2.1.2.2.1 a b ha.1 ha.2 hb.1 hb.2]
    have hge := dd_ge (L := L) (a := a) (b := b)
    refine ⟨by omega, by omega, fun hne => ?_, fun he => no v1 b1.1 b1.2.1 (nj (by omega))⟩
    have hd : 0 ≤ dd L b a := by rw [dd_symm]; omega
    refine S_weigh w hn b1.2.1.1 hb (fun v2 f2 hl hr => ?_)
    have c2 : XC v2 n L := XC_frame hn.2 b1.2.1 (fun c hc => f2 c (by omega))
    refine S_walk w hn c2.1 ha hd hl hr (fun v3 f3 l3 s3 => ?_)
    have hq3 := hq v3 (fun c hc => by rw [f3 c (by omega) (by omega), f2 c (by omega)]; exact b1.1 c hc) (XC_frame hn.2 c2 (fun c hc => f3 c (by omega) (by omega)))
    unfold sp_road at hq3
    rw [if_pos ⟨⟨ha, hb⟩, by rw [dd_symm]; exact hd, h1⟩] at hq3
    rw [l3]
    refine ⟨fun hk => ⟨fun hlt => ?_, fun hlt => ⟨by omega, ?_⟩⟩, fun hk => ?_⟩
    · rwa [if_neg hk, if_neg (by omega)] at hq3
    · rw [if_neg hk, if_pos (by omega)] at hq3
      rw [s3 k.toNat (by omega)]; exact hq3
    · rwa [if_pos hk] at hq3
theorem SM_road {a b k : Int} (w : wfL n L) (hn : 0 ≤ n ∧ n ≤ 24) (h : MC v n L) (hq : ∀ v', MF v v' → MC v' n L → q (sp_road n L a b k) v') : P_X11_road a b k v q := by
  unfold P_X11_road P_X11_areJoined
  refine S_areNodesM w hn h (fun v1 f1 c1 l1 => ?_)
  have no : ¬ (((0 ≤ a ∧ a < n) ∧ (0 ≤ b ∧ b < n)) ∧ 0 ≤ dd L a b ∧ -1 ≤ k) → q (-1) v1 := fun hc => by
    have := hq v1 f1 c1
    unfold sp_road at this; rwa [if_neg hc] at this
  refine ⟨fun hc => ⟨fun _ => ⟨fun _ => no (fun g => hc g.1), fun g => absurd rfl g⟩, fun g => absurd rfl g⟩, fun ha hb => ⟨fun g => absurd g (by decide), fun _ => S_farOf hn l1.1 ha hb ?_⟩⟩
  have f0 := f9_r w hn (a := a) (b := b) ha
  refine ⟨fun h9 => ⟨fun _ => no (fun g => by have := f0.2.2.1.mpr g.2.1; omega), fun g => absurd rfl g⟩, fun h9 => ⟨fun g => absurd g (by decide), fun _ => ⟨fun hk => ?_, fun hk => no (by omega)⟩⟩⟩
  have hd0 := f0.2.2.1.mp h9
  have hd : 0 ≤ dd L b a := by rw [dd_symm]; exact hd0
  have hp := rl_is w ha hd
  refine S_laysCosts w hn c1.1 hb (fun v2 f2 hl hr => ?_)
  have hq2 := hq v2 (MF_trans f1 ⟨fun c hc => f2 c (by omega), fun j _ _ _ => by rw [f2 218 (by omega)]⟩) (MC_frame c1 (f2 222 (by omega)) (fun c hc => f2 c (by omega)) (fun j _ => by rw [f2 218 (by omega)]))
  unfold sp_road at hq2
  rw [if_pos ⟨⟨ha, hb⟩, hd0, hk⟩] at hq2
  have g2 : mG v2 222 n L := mG_frame c1.1 (f2 222 (by omega))
  intro K53 hK53 X27 hX27
  refine wh2 (X := X27) (fun i4 i5 => ∃ j : Nat, j ≤ rl n L b a ∧ i5 = (j : Int) ∧ i4 = rs L b a j ∧ (0 ≤ k → (j : Int) ≤ k)) (fun _ i5 => (24 - i5).toNat) ?_ ⟨0, by omega, rfl, rfl, fun h => by omega⟩
  intro i4 i5 ⟨j, j1, j2, j3, j4⟩ hnext
  have hrl := hp.1
  apply hX27
  have atEnd : i4 = b → j = rl n L b a := fun he => by
    rcases Nat.lt_or_ge j (rl n L b a) with h | h
    · exact absurd (by rw [← j3]; exact he) (hp.2.2.1 j h)
    · omega
  have fin : (j = rl n L b a ∨ i5 = k) → K53 i4 i5 := fun he => by
    apply hK53
    refine ⟨fun hk1 => ⟨fun hne => ?_, fun heq => ?_⟩, fun hk1 => ⟨by omega, ?_⟩⟩
    · rcases he with he | he
      · have := j4 (by omega)
        rwa [if_neg hk1, if_neg (by omega)] at hq2
      · exact absurd he hne
    · rw [if_neg hk1, if_pos (by omega), show k.toNat = j by omega, ← j3] at hq2
      exact hq2
    · rcases he with he | he
      · rw [if_pos hk1, ← he, ← j2] at hq2; exact hq2
      · omega
  refine ⟨fun he => fin (Or.inl (atEnd he)), fun he => ⟨fun hk2 => fin (Or.inr hk2), fun hk2 => ?_⟩⟩
  have jlt : j < rl n L b a := by
    rcases Nat.lt_or_ge j (rl n L b a) with h | h
    · exact h
    · have : j = rl n L b a := by omega
      rw [j3, this, hp.2.1] at he; exact absurd rfl he
  have hj := hp.2.2.2 j j1
  rw [j3]
  refine S_nextOf w hn g2 hj.1 hj.2 (hp.2.2.1 j jlt) hl hr ⟨by omega, hnext _ _ ⟨j + 1, by omega, by omega, rfl, fun h0 => ?_⟩ (by omega)⟩
  have := j4 h0
  omega
end Road2

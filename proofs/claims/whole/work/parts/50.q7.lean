/-! ===== sets of nodes: isSet, gate, widen, hull ===== -/
section Q7
variable {n : Int} {L : List Ln} {v : VT} {q : Int → VT → Prop}
theorem whole_wy (w : wfL n L) {r x y : Int} (h : rsn n L r x y) : wy n L = 1 ↔ ¬ conn n L := by
  have hw := (wy_is w h).1
  rw [← hw]
  rcases h with ⟨h1, h2⟩ | ⟨h0, h2⟩
  · refine ⟨fun _ hc => ?_, fun _ => h1⟩
    obtain ⟨a1, a2, a3, a4, a5, -⟩ := h2
    have := hc x y a1 a2 (by have a3 : x + 1 ≤ y := a3; omega) a4
    unfold p1 at a5; omega
  · have hc : conn n L := fun a b a1 a2 b1 b2 => by
      have g := dd_ge (L := L) (a := a) (b := b)
      by_cases hab : a = b
      · rw [hab, dd_self]; omega
      · by_cases hlt : a < b
        · have := h0 a b a1 a2 (by show a + 1 ≤ b; omega) b2
          unfold p1 at this; omega
        · have := h0 b a b1 b2 (by show b + 1 ≤ a; omega) a2
          unfold p1 at this
          rw [dd_symm] at this; omega
    refine ⟨fun e => ?_, fun g => absurd hc g⟩
    rcases h2 with ⟨h1, -⟩ | ⟨-, ⟨h1, -⟩ | ⟨h1, -⟩⟩ <;> omega
/-- a set of nodes of a network in one piece -/
def isS (n : Int) (L : List Ln) (x : Int) : Prop := 0 < n ∧ conn n L ∧ i_and x (i_xor (i_shl 1 n - 1) (-1)) = 0
theorem isS_tb (hn : 0 ≤ n ∧ n ≤ 24) {x : Int} (h : i_and x (i_xor (i_shl 1 n - 1) (-1)) = 0) (k : Nat) (hk : tb x k = true) : (k : Int) < n := by
  by_cases h32 : k < 32
  · have h1 := tb_and x (i_xor (i_shl 1 n - 1) (-1)) k
    rw [h, tb_0, tb_not _ h32, tb_all ⟨hn.1, by omega⟩, hk] at h1
    simp at h1
    omega
  · rw [tb_big (by omega)] at hk; exact absurd hk (by decide)
theorem isS_pos (hn : 0 ≤ n ∧ n ≤ 24) {x : Int} (hx : r32 x) (h : i_and x (i_xor (i_shl 1 n - 1) (-1)) = 0) : 0 ≤ x ∧ x < 16777216 := by
  refine tb_small hx (fun k k1 k2 => ?_)
  cases hb : tb x k
  · rfl
  · have := isS_tb hn h k hb; omega
theorem S_isSet {x : Int} {q : Int → VT → Prop} (w : wfL n L) (hn : 0 ≤ n ∧ n ≤ 24) (h : XC v n L) (hq : ∀ v', XF v v' → XC v' n L → (¬ isS n L x → q 0 v') ∧ (mB v v' n L → isS n L x → q 1 v')) : P_X10_isSet x v q := by
  unfold P_X10_isSet
  rw [h.1.1]
  refine ⟨fun h1 => (hq v (XF_rf v) h).1 (fun g => by have := g.1; omega), fun h1 => S_measB w hn h (fun v1 b1 => ?_)⟩
  have hq1 := hq v1 b1.1 b1.2.1
  have hm := b1.2.2.2.1
  rw [b1.2.1.1.1]
  refine ⟨fun h2 => hq1.1 (fun g => by have := hm.2.2.2.2.mpr g.2.1; omega), fun h2 => S_allBits ⟨hn.1, by omega⟩ ⟨fun h3 => hq1.1 (fun g => h3 g.2.2), fun h3 => hq1.2 b1 ⟨h1, hm.2.2.2.2.mp (by have := hm.2.2.2.1; omega), h3⟩⟩⟩
theorem S_isSetM {x : Int} {q : Int → VT → Prop} (w : wfL n L) (hn : 0 ≤ n ∧ n ≤ 24) (hx : r32 x) (h : MC v n L) (hq : ∀ v', MF v v' → MC v' n L → (¬ isS n L x → q 0 v') ∧ (laid v' n L → isS n L x → q 1 v')) : P_X11_isSet x v q := by
  unfold P_X11_isSet
  have hq0 := hq v (MF_rf v) h
  refine ⟨fun h1 => hq0.1 (fun g => by have := isS_pos hn hx g.2.2; omega), fun h1 => S_all hn h.1 ⟨fun h2 => hq0.1 (fun g => h2 g.2.2), fun h2 => ?_⟩⟩
  unfold P_X11_isWhole
  refine S_lays w hn h (fun v' f c l => ?_)
  have s := seatM_of w l
  have hq1 := hq v' f c
  have hww := whole_wy w l.2.2.1
  rw [s.2.1, c.1.1]
  refine ⟨fun h3 => ⟨fun _ => hq1.1 (fun g => hww.mp h3 g.2.1), fun h => absurd rfl h⟩, fun h3 => ⟨fun h4 => ⟨fun _ => hq1.1 (fun g => by have := g.1; omega), fun h => absurd rfl h⟩, fun h4 => ⟨fun h => absurd h (by decide), fun _ => hq1.2 l ⟨h4, Classical.byContradiction fun g => h3 (hww.mpr g), h2⟩⟩⟩⟩
/-! gate -/
def ah (n : Int) (L : List Ln) (a x c : Int) : Prop := ∀ k : Int, 0 ≤ k → k < n → tb x k.toNat = true → dd L a c + dd L c k = dd L a k
theorem gt_ex (n : Int) (L : List Ln) (a x : Int) : ∃ c : Int, (c = -1 ∧ ∀ k : Int, 0 ≤ k → k < n → ¬ (tb x k.toNat = true ∧ ah n L a x k)) ∨ (0 ≤ c ∧ c < n ∧ (tb x c.toNat = true ∧ ah n L a x c) ∧ ∀ k : Int, 0 ≤ k → k < c → ¬ (tb x k.toNat = true ∧ ah n L a x k)) := by
  by_cases h : ∃ i : Nat, i < n.toNat ∧ (tb x i = true ∧ ah n L a x (i : Int))
  · obtain ⟨i, h1, h2, h3⟩ := @fb_first (fun i : Nat => tb x i = true ∧ ah n L a x (i : Int)) (fun _ => Classical.propDecidable _) _ h
    exact ⟨(i : Int), Or.inr ⟨by omega, by omega, h2, fun k k1 k2 e => h3 k.toNat (by omega) ⟨e.1, by rw [Int.toNat_of_nonneg k1]; exact e.2⟩⟩⟩
  · exact ⟨-1, Or.inl ⟨rfl, fun k k1 k2 e => h ⟨k.toNat, by omega, e.1, by rw [Int.toNat_of_nonneg k1]; exact e.2⟩⟩⟩
noncomputable def gt (n : Int) (L : List Ln) (a x : Int) : Int := Classical.choose (gt_ex n L a x)
theorem gt_spec (n : Int) (L : List Ln) (a x : Int) : (gt n L a x = -1 ∧ ∀ k : Int, 0 ≤ k → k < n → ¬ (tb x k.toNat = true ∧ ah n L a x k)) ∨ (0 ≤ gt n L a x ∧ gt n L a x < n ∧ (tb x (gt n L a x).toNat = true ∧ ah n L a x (gt n L a x)) ∧ ∀ k : Int, 0 ≤ k → k < gt n L a x → ¬ (tb x k.toNat = true ∧ ah n L a x k)) := Classical.choose_spec (gt_ex n L a x)
theorem gt_none {a x : Int} (h : ∀ k : Int, 0 ≤ k → k < n → ¬ (tb x k.toNat = true ∧ ah n L a x k)) : gt n L a x = -1 := by
  rcases gt_spec n L a x with h1 | ⟨h1, h2, h3, -⟩
  · exact h1.1
  · exact absurd h3 (h _ h1 h2)
theorem gt_at {a x c : Int} (hc : 0 ≤ c ∧ c < n) (h : tb x c.toNat = true ∧ ah n L a x c) (h2 : ∀ k : Int, 0 ≤ k → k < c → ¬ (tb x k.toNat = true ∧ ah n L a x k)) : gt n L a x = c := by
  rcases gt_spec n L a x with ⟨-, h1⟩ | ⟨h1, h3, h4, h5⟩
  · exact absurd h (h1 c hc.1 hc.2)
  · by_cases e : gt n L a x < c
    · exact absurd h4 (h2 _ h1 e)
    · by_cases e2 : c < gt n L a x
      · exact absurd h (h5 c hc.1 e2)
      · omega
theorem S_findGate {a x : Int} {q : Int → Prop} (w : wfL n L) (hn : 0 ≤ n ∧ n ≤ 24) (hm : mt v n L) (ha : 0 ≤ a ∧ a < n) (hq : q (gt n L a x)) : P_X2_findGate a x v q := by
  unfold P_X2_findGate
  rw [hm.1]
  intro X2 hX2
  refine up1 (X := X2) n (fun i => 0 ≤ i ∧ ∀ k : Int, 0 ≤ k → k < i → ¬ (tb x k.toNat = true ∧ ah n L a x k)) ?_ (by omega) ⟨by omega, fun k k1 k2 => by omega⟩
  intro i hle ⟨i0, hb⟩ hnext
  apply hX2
  have step : ¬ (tb x i.toNat = true ∧ ah n L a x i) → ∀ k : Int, 0 ≤ k → k < i + 1 → ¬ (tb x k.toNat = true ∧ ah n L a x k) := fun hno k k1 k2 => by
    by_cases e : k = i
    · rw [e]; exact hno
    · exact hb k k1 (by omega)
  refine ⟨fun hc => by rw [gt_none (fun k k1 k2 => hb k k1 (by omega))] at hq; exact hq, fun hc => S_hasBit ⟨i0, by omega⟩ (fun hf => ⟨fun _ => ⟨by omega, hnext hc ⟨by omega, step (fun g => by rw [hf] at g; exact absurd g.1 (by decide))⟩⟩, fun h => absurd rfl h⟩) (fun ht => ⟨fun h => absurd h (by decide), fun _ => ?_⟩)⟩
  unfold P_X2_liesAhead
  rw [hm.1]
  intro X3 hX3
  refine up1 (X := X3) n (fun j => 0 ≤ j ∧ ∀ k : Int, 0 ≤ k → k < j → tb x k.toNat = true → dd L a i + dd L i k = dd L a k) ?_ (by omega) ⟨by omega, fun k k1 k2 => by omega⟩
  intro j hle2 ⟨j0, hb2⟩ hnext2
  apply hX3
  refine ⟨fun hc2 => ⟨fun h => absurd h (by decide), fun _ => ?_⟩, fun hc2 => S_hasBit ⟨j0, by omega⟩ (fun hf => ⟨fun _ => ⟨by omega, hnext2 hc2 ⟨by omega, fun k k1 k2 k3 => ?_⟩⟩, fun h => absurd rfl h⟩) (fun ht2 => ⟨fun h => absurd h (by decide), fun _ => ?_⟩)⟩
  · rw [gt_at ⟨i0, hc⟩ ⟨ht, fun k k1 k2 k3 => hb2 k k1 (by omega) k3⟩ hb] at hq; exact hq
  · by_cases e : k = j
    · rw [e, hf] at k3; exact absurd k3 (by decide)
    · exact hb2 k k1 (by omega) k3
  · rw [hm.2.2.1 a i ha.1 ha.2 i0 hc, hm.2.2.1 i j i0 hc j0 hc2, hm.2.2.1 a j ha.1 ha.2 j0 hc2]
    have g1 := dd_ge (L := L) (a := a) (b := i)
    have g2 := dd_ge (L := L) (a := i) (b := j)
    have l1 := dd_lt w ha (b := i)
    have l2 := dd_lt w ⟨i0, hc⟩ (b := j)
    refine ⟨by omega, by omega, by omega, by omega, by omega, by omega, by omega, fun h => ⟨by omega, hnext2 hc2 ⟨by omega, fun k k1 k2 k3 => ?_⟩⟩, fun h => ⟨fun _ => ⟨by omega, hnext hc ⟨by omega, step (fun g => h (g.2 j j0 hc2 ht2))⟩⟩, fun h => absurd rfl h⟩⟩
    by_cases e : k = j
    · rw [e]; exact h
    · exact hb2 k k1 (by omega) k3
noncomputable def sp_gate (n : Int) (L : List Ln) (a x : Int) : Int := @ite _ ((0 ≤ a ∧ a < n) ∧ isS n L x) (Classical.propDecidable _) (gt n L a x) (-1)
theorem SX_gate {a x : Int} (w : wfL n L) (hn : 0 ≤ n ∧ n ≤ 24) (h : XC v n L) (hq : ∀ v', XF v v' → XC v' n L → q (sp_gate n L a x) v') : P_X10_gate a x v q := by
  unfold P_X10_gate
  have no : ∀ v', XF v v' → XC v' n L → ¬ ((0 ≤ a ∧ a < n) ∧ isS n L x) → q (-1) v' := fun v' f c hc => by
    have := hq v' f c
    unfold sp_gate at this; rwa [if_neg hc] at this
  refine S_isNode h.1 (fun hc => ⟨fun _ => no v (XF_rf v) h (fun g => hc g.1), fun h => absurd rfl h⟩) (fun ha => ⟨fun h => absurd h (by decide), fun _ => ?_⟩)
  refine S_isSet w hn h (fun v' f c => ⟨fun hs => ⟨fun h => absurd rfl h, fun _ => no v' f c (fun g => hs g.2)⟩, fun b hs => ⟨fun _ => S_findGate w hn b.2.2.2.1 ha ?_, fun h => absurd h (by decide)⟩⟩)
  have := hq v' f c
  unfold sp_gate at this; rwa [if_pos ⟨ha, hs⟩] at this
theorem am_tb (hn : n ≤ 24) (a b : Int) (k : Nat) : tb (am n L a b) k = true ↔ (k : Int) < n ∧ 0 ≤ dd L a b ∧ 0 ≤ dd L a (k : Int) ∧ dd L a (k : Int) + dd L (k : Int) b = dd L a b := bs_tb (by omega) _ k
theorem SM_gate {a x : Int} (w : wfL n L) (hn : 0 ≤ n ∧ n ≤ 24) (hx : r32 x) (h : MC v n L) (hq : ∀ v', MF v v' → MC v' n L → q (sp_gate n L a x) v') : P_X11_gate a x v q := by
  unfold P_X11_gate
  have no : ∀ v', MF v v' → MC v' n L → ¬ ((0 ≤ a ∧ a < n) ∧ isS n L x) → q (-1) v' := fun v' f c hc => by
    have := hq v' f c
    unfold sp_gate at this; rwa [if_neg hc] at this
  refine S_isSetM w hn hx h (fun v' f c => ⟨fun hs => ⟨fun _ => no v' f c (fun g => hs g.2), fun h => absurd rfl h⟩, fun l hs => ⟨fun h => absurd h (by decide), fun _ => ?_⟩⟩)
  refine S_isNodeM hn c.1 (fun hc => ⟨fun h => absurd rfl h, fun _ => no v' f c (fun g => hc g.1)⟩) (fun ha => ⟨fun _ => ?_, fun h => absurd h (by decide)⟩)
  have this := hq v' f c
  unfold sp_gate at this
  rw [if_pos ⟨ha, hs⟩] at this
  rw [c.1.1]
  intro X20 hX20
  refine up1 (X := X20) n (fun i => 0 ≤ i ∧ ∀ k : Int, 0 ≤ k → k < i → ¬ (tb x k.toNat = true ∧ ah n L a x k)) ?_ (by omega) ⟨by omega, fun k k1 k2 => by omega⟩
  intro i hle ⟨i0, hb⟩ hnext
  apply hX20
  have step : ¬ (tb x i.toNat = true ∧ ah n L a x i) → ∀ k : Int, 0 ≤ k → k < i + 1 → ¬ (tb x k.toNat = true ∧ ah n L a x k) := fun hno k k1 k2 => by
    by_cases e : k = i
    · rw [e]; exact hno
    · exact hb k k1 (by omega)
  refine ⟨fun hc => by rw [gt_none (fun k k1 k2 => hb k k1 (by omega))] at this; exact this, fun hc => ?_⟩
  have inner : ∀ r : Int, (r = 0 ∧ tb x i.toNat = false ∨ r = 1 ∧ tb x i.toNat = true) → ∀ X40 : Int → Int → Prop, (∀ (i4 : Int) (i5 : Int), (((n ≤ i5) → ((i4 = 0) → (-2147483648 ≤ i + 1 ∧ i + 1 ≤ 2147483647) ∧ X20 (i + 1)) ∧ ((¬ i4 = 0) → q i v')) ∧ ((i5 < n) → ((i4 = 0) → ((i4 = 0) → (-2147483648 ≤ i + 1 ∧ i + 1 ≤ 2147483647) ∧ X20 (i + 1)) ∧ ((¬ i4 = 0) → q i v')) ∧ ((¬ i4 = 0) → P_X11_isOf x i5 v' (fun r59 => ((r59 = 0) → (-2147483648 ≤ i5 + 1 ∧ i5 + 1 ≤ 2147483647) ∧ X40 1 (i5 + 1)) ∧ ((¬ r59 = 0) → P_X11_betweenOf a i5 v' (fun r69 => P_X11_isOf r69 i v' (fun r73 => ((r73 = 0) → (-2147483648 ≤ i5 + 1 ∧ i5 + 1 ≤ 2147483647) ∧ X40 0 (i5 + 1)) ∧ ((¬ r73 = 0) → (-2147483648 ≤ i5 + 1 ∧ i5 + 1 ≤ 2147483647) ∧ X40 1 (i5 + 1))))))))) → X40 i4 i5) → X40 r 0 := by
    intro r hr X40 hX40
    refine up2r (X := X40) n (fun j r => 0 ≤ j ∧ ((r = 0 ∧ ¬ (tb x i.toNat = true ∧ ah n L a x i)) ∨ (r = 1 ∧ tb x i.toNat = true ∧ ∀ k : Int, 0 ≤ k → k < j → tb x k.toNat = true → dd L a i + dd L i k = dd L a k))) ?_ (by omega) ⟨by omega, ?_⟩
    · intro r j hle2 ⟨j0, hr⟩ hnext2
      apply hX40
      refine ⟨fun hc2 => ⟨fun h0 => ⟨by omega, hnext hc ⟨by omega, step ?_⟩⟩, fun h0 => ?_⟩, fun hc2 => ⟨fun h0 => ⟨fun _ => ⟨by omega, hnext hc ⟨by omega, step ?_⟩⟩, fun h => absurd h0 h⟩, fun h0 => ?_⟩⟩
      · rcases hr with ⟨-, h⟩ | ⟨h, -⟩
        · exact h
        · omega
      · rcases hr with ⟨h, -⟩ | ⟨-, h, h2⟩
        · exact absurd h h0
        · rw [gt_at ⟨i0, hc⟩ ⟨h, fun k k1 k2 k3 => h2 k k1 (by omega) k3⟩ hb] at this; exact this
      · rcases hr with ⟨-, h⟩ | ⟨h, -⟩
        · exact h
        · omega
      · rcases hr with ⟨h, -⟩ | ⟨-, h, h2⟩
        · exact absurd h h0
        · refine S_isOf ⟨j0, by omega⟩ (fun hf => ⟨fun _ => ⟨by omega, hnext2 hc2 _ ⟨by omega, Or.inr ⟨rfl, h, fun k k1 k2 k3 => ?_⟩⟩⟩, fun h => absurd rfl h⟩) (fun ht => ⟨fun h => absurd h (by decide), fun _ => S_betweenOf w hn c.1 l.1 ha ⟨j0, hc2⟩ ?_⟩)
          · by_cases e : k = j
            · rw [e, hf] at k3; exact absurd k3 (by decide)
            · exact h2 k k1 (by omega) k3
          · have hat := am_tb (L := L) hn.2 a j i.toNat
            rw [Int.toNat_of_nonneg i0] at hat
            refine S_isOf ⟨i0, by omega⟩ (fun hf => ⟨fun _ => ⟨by omega, hnext2 hc2 _ ⟨by omega, Or.inl ⟨rfl, fun g => ?_⟩⟩⟩, fun h => absurd rfl h⟩) (fun ht2 => ⟨fun h => absurd h (by decide), fun _ => ⟨by omega, hnext2 hc2 _ ⟨by omega, Or.inr ⟨rfl, h, fun k k1 k2 k3 => ?_⟩⟩⟩⟩)
            · rw [hat.mpr ⟨hc, hs.2.1 a j ha.1 ha.2 j0 hc2, hs.2.1 a i ha.1 ha.2 i0 hc, g.2 j j0 hc2 ht⟩] at hf
              exact absurd hf (by decide)
            · by_cases e : k = j
              · rw [e]; exact (hat.mp ht2).2.2.2
              · exact h2 k k1 (by omega) k3
    · rcases hr with ⟨h1, h2⟩ | ⟨h1, h2⟩
      · exact Or.inl ⟨h1, fun g => by rw [h2] at g; exact absurd g.1 (by decide)⟩
      · exact Or.inr ⟨h1, h2, fun k k1 k2 => by omega⟩
  exact S_isOf ⟨i0, by omega⟩ (fun hf => inner 0 (Or.inl ⟨rfl, hf⟩)) (fun ht => inner 1 (Or.inr ⟨rfl, ht⟩))
end Q7

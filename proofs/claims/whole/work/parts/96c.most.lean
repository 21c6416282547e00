/-! ===== the most that cross one another ===== -/
theorem np_four (n : Int) (L : List Ln) (a b : Int) : np n L a b = 4 ↔ ∀ t : Nat, t < 4 → hp n L a b (t : Int) := by
  unfold np
  constructor
  · intro h t ht
    have h4 : fb_ct (fun t => @decide (hp n L a b ((t : Nat) : Int)) (Classical.propDecidable _)) 4 = 4 := by omega
    exact dcd.mp (fb_ct_all.mp h4 t ht)
  · intro h
    rw [fb_ct_all.mpr (fun k hk => dcd.mpr (h k hk))]
    rfl
theorem np_symm (n : Int) (L : List Ln) (a b : Int) : np n L a b = 4 → np n L b a = 4 := by
  rw [np_four, np_four]
  intro h t ht
  have h0 := h 0 (by omega)
  have h1 := h 1 (by omega)
  have h2 := h 2 (by omega)
  have h3 := h 3 (by omega)
  unfold hp at *
  rcases (show t = 0 ∨ t = 1 ∨ t = 2 ∨ t = 3 by omega) with e | e | e | e <;> subst e
  · obtain ⟨c, c0, c1, c2, c3⟩ := h0; exact ⟨c, c0, c1, c3.trans (by decide), c2.trans (by decide)⟩
  · obtain ⟨c, c0, c1, c2, c3⟩ := h2; exact ⟨c, c0, c1, c3.trans (by decide), c2.trans (by decide)⟩
  · obtain ⟨c, c0, c1, c2, c3⟩ := h1; exact ⟨c, c0, c1, c3.trans (by decide), c2.trans (by decide)⟩
  · obtain ⟨c, c0, c1, c2, c3⟩ := h3; exact ⟨c, c0, c1, c3.trans (by decide), c2.trans (by decide)⟩
def cr (n : Int) (L : List Ln) (i j : Nat) : Prop := np n L (i : Int) (j : Int) = 4
def clq (n : Int) (L : List Ln) (z : Int) : Prop := (0 ≤ z ∧ z < 16777216) ∧ (∀ k : Nat, tb z k = true → (k : Int) < kc L) ∧ ∀ i j : Nat, i < j → tb z i = true → tb z j = true → cr n L i j
def le2 (z y : Int) : Prop := pc y < pc z ∨ (pc y = pc z ∧ z ≤ y)
def isM (n : Int) (L : List Ln) (z : Int) : Prop := clq n L z ∧ ∀ y, clq n L y → le2 z y
def ext (n : Int) (L : List Ln) (c a z : Int) : Prop := clq n L z ∧ (∀ k : Nat, tb c k = true → tb z k = true) ∧ ∀ k : Nat, tb z k = true → tb c k = true ∨ tb a k = true
def RR (n : Int) (L : List Ln) (c a b x b' x' : Int) : Prop := (b' = b ∧ x' = x ∧ ∀ z, ext n L c a z → pc z ≤ b) ∨ (b < b' ∧ ext n L c a x' ∧ pc x' = b' ∧ ∀ z, ext n L c a z → le2 x' z)
section Most
variable {n : Int} {L : List Ln} {v : VT}
theorem isM_one {z z' : Int} (h : isM n L z) (h' : isM n L z') : z = z' := by
  have a := h.2 z' h'.1
  have b := h'.2 z h.1
  unfold le2 at a b
  omega
theorem set_r {z : Int} (h1 : r32 z) (h : ∀ k : Nat, tb z k = true → (k : Int) < 24) : 0 ≤ z ∧ z < 16777216 := tb_small h1 (fun k hk _ => Bool.eq_false_iff.mpr (fun g => by have := h k g; omega))
theorem lt_bits : ∀ (i x y : Nat), x.testBit i = false → y.testBit i = true → (∀ j, i < j → x.testBit j = y.testBit j) → x < y
  | 0, x, y, h1, h2, h3 => by
    have e : x / 2 = y / 2 := Nat.eq_of_testBit_eq (fun j => by
      have := h3 (j + 1) (by omega)
      rwa [Nat.testBit_succ, Nat.testBit_succ] at this)
    rw [Nat.testBit_zero, decide_eq_false_iff_not] at h1
    rw [Nat.testBit_zero, decide_eq_true_iff] at h2
    omega
  | i + 1, x, y, h1, h2, h3 => by
    rw [Nat.testBit_succ] at h1 h2
    have := lt_bits i (x / 2) (y / 2) h1 h2 (fun j hj => by
      have := h3 (j + 1) (by omega)
      rwa [Nat.testBit_succ, Nat.testBit_succ] at this)
    omega
/-- numbers by their bits -/
theorem set_lt {x y : Int} (hx : 0 ≤ x ∧ x < 16777216) (hy : 0 ≤ y ∧ y < 16777216) {i : Nat} (hi' : i < 32) (h1 : tb x i = false) (h2 : tb y i = true) (h3 : ∀ j : Nat, i < j → tb x j = tb y j) : x < y := by
  have : x.toNat < y.toNat := by
    refine lt_bits i _ _ (by rw [← tb_int hx.1 hi']; exact h1) (by rw [← tb_int hy.1 hi']; exact h2) (fun j hj => ?_)
    by_cases hj2 : j < 32
    · rw [← tb_int hx.1 hj2, ← tb_int hy.1 hj2]; exact h3 j hj
    · rw [Nat.testBit_lt_two_pow (Nat.lt_of_lt_of_le (show x.toNat < 2 ^ 32 by omega) (Nat.pow_le_pow_right (by decide) (by omega))), Nat.testBit_lt_two_pow (Nat.lt_of_lt_of_le (show y.toNat < 2 ^ 32 by omega) (Nat.pow_le_pow_right (by decide) (by omega)))]
  omega
theorem set_ext {x y : Int} (hx : 0 ≤ x ∧ x < 16777216) (hy : 0 ≤ y ∧ y < 16777216) (h : ∀ k : Nat, tb x k = true ↔ tb y k = true) : x = y := tb_ext (by unfold r32; omega) (by unfold r32; omega) (fun k _ => Bool.eq_iff_iff.mpr (h k))
theorem pc_sub {x y : Int} (h : ∀ k : Nat, tb x k = true → tb y k = true) : pc x ≤ pc y := by
  unfold pc
  have := fb_ct_sub (p := tb x) (q := tb y) (n := 24) (fun k _ g => h k g)
  omega
theorem pc_0 : pc 0 = 0 := by
  unfold pc
  rw [fb_ct_zero.mpr (fun k _ => tb_0 k)]
  rfl
/-- one bit less, one bit more -/
theorem pc_out {x : Int} {i : Nat} (hi' : i < 24) (h : tb x i = true) : pc (i_and x (i_xor (i_shl 1 (i : Int)) (-1))) = pc x - 1 := by
  unfold pc
  have e := fb_ct_upd (tb x) false (i := i) (n := 24) hi'
  rw [h] at e
  have e' : fb_ct (fun k => if k = i then false else tb x k) 24 + 1 = fb_ct (tb x) 24 + 0 := e
  rw [fb_ct_cong (q := fun k => if k = i then false else tb x k) (fun k hk => by
    rw [tb_and, tb_not _ (by omega), tb_shl1 (by omega)]
    by_cases e1 : k = i
    · rw [if_pos e1, decide_eq_true e1]; simp
    · rw [if_neg e1, decide_eq_false e1]; simp)]
  omega
theorem pc_in {x : Int} {i : Nat} (hi' : i < 24) (h : tb x i = false) : pc (i_or x (i_shl 1 (i : Int))) = pc x + 1 := by
  unfold pc
  have e := fb_ct_upd (tb x) true (i := i) (n := 24) hi'
  rw [h] at e
  have e' : fb_ct (fun k => if k = i then true else tb x k) 24 + 0 = fb_ct (tb x) 24 + 1 := e
  rw [fb_ct_cong (q := fun k => if k = i then true else tb x k) (fun k hk => by
    rw [tb_or, tb_shl1 (by omega)]
    by_cases e1 : k = i
    · rw [if_pos e1, decide_eq_true e1]; simp
    · rw [if_neg e1, decide_eq_false e1]; simp)]
  omega
theorem pc_union {c a z : Int} (h : ∀ k : Nat, tb z k = true → tb c k = true ∨ tb a k = true) (hd : ∀ k : Nat, ¬ (tb c k = true ∧ tb a k = true)) : pc z ≤ pc c + pc a := by
  unfold pc
  have e := fb_ct_or (p := tb c) (q := tb a) (n := 24) (fun k _ => hd k)
  have s := fb_ct_sub (p := tb z) (q := fun k => tb c k || tb a k) (n := 24) (fun k _ g => by rw [Bool.or_eq_true]; exact h k g)
  omega
theorem pc_zero {x : Int} (hx : 0 ≤ x ∧ x < 16777216) (h : pc x = 0) : x = 0 := by
  unfold pc at h
  have z := fb_ct_zero.mp (show fb_ct (tb x) 24 = 0 by omega)
  refine set_ext hx (by omega) (fun k => ?_)
  rw [tb_0]
  constructor
  · intro g
    by_cases hk : k < 24
    · rw [z k hk] at g; exact absurd g (by decide)
    · by_cases hk2 : k < 32
      · rw [tb_int hx.1 hk2, Nat.testBit_lt_two_pow (Nat.lt_of_lt_of_le (show x.toNat < 2 ^ 24 by omega) (Nat.pow_le_pow_right (by decide) (by omega)))] at g
        exact absurd g (by decide)
      · rw [tb_big (by omega)] at g; exact absurd g (by decide)
  · intro g; exact absurd g (by decide)
theorem tb_del {x : Int} {i k : Nat} (hi' : i < 32) : tb (i_and x (i_xor (i_shl 1 (i : Int)) (-1))) k = true ↔ tb x k = true ∧ k ≠ i := by
  by_cases hk : k < 32
  · rw [tb_and, tb_not _ hk, tb_shl1 hi', Bool.and_eq_true]
    simp
  · rw [tb_big (by omega), tb_big (show 32 ≤ k by omega)]
    simp
theorem tb_ins {x : Int} {i k : Nat} (hi' : i < 32) : tb (i_or x (i_shl 1 (i : Int))) k = true ↔ tb x k = true ∨ k = i := by
  rw [tb_or, tb_shl1 hi', Bool.or_eq_true, decide_eq_true_iff]
theorem S_highest {x : Int} {q : Int → Prop} (hx : 0 ≤ x ∧ x < 16777216) (hne : x ≠ 0) (hq : ∀ i : Nat, i < 24 → tb x i = true → (∀ k : Nat, i < k → tb x k = false) → q (i : Int)) : P_X7_highestOf x v q := by
  have hbig : ∀ k : Nat, 24 ≤ k → tb x k = false := fun k hk => by
    by_cases hk2 : k < 32
    · rw [tb_int hx.1 hk2]; exact Nat.testBit_lt_two_pow (Nat.lt_of_lt_of_le (show x.toNat < 2 ^ 24 by omega) (Nat.pow_le_pow_right (by decide) hk))
    · exact tb_big (by omega)
  unfold P_X7_highestOf
  intro X4 hX4
  refine up2r (X := X4) 24 (fun i t => 0 ≤ i ∧ ((∀ k : Nat, (k : Int) < i → tb x k = false) ∨ ∃ j : Nat, t = (j : Int) ∧ (j : Int) < i ∧ tb x j = true ∧ ∀ k : Nat, j < k → (k : Int) < i → tb x k = false)) ?_ (by omega) ⟨by omega, Or.inl (fun k hk => by omega)⟩
  intro t i hle ⟨i0, hst⟩ hnext
  apply hX4
  refine ⟨fun hge => ?_, fun hlt => ?_⟩
  · rcases hst with h | ⟨j, e, j1, j2, j3⟩
    · exact absurd (pc_zero hx (by
        unfold pc
        rw [fb_ct_zero.mpr (fun k hk => h k (by omega))]; rfl)) hne
    · rw [e]
      exact hq j (by omega) j2 (fun k hk => by
        by_cases hk2 : k < 24
        · exact j3 k hk (by omega)
        · exact hbig k (by omega))
  · refine S_hasBit (by omega) (fun g => ⟨fun _ => ⟨by omega, hnext hlt _ ⟨by omega, ?_⟩⟩, fun k => absurd rfl k⟩) (fun g => ⟨fun k => absurd k (by decide), fun _ => ⟨by omega, hnext hlt _ ⟨by omega, Or.inr ⟨i.toNat, by omega, by omega, g, fun k hk hk2 => by omega⟩⟩⟩⟩)
    rcases hst with h | ⟨j, e, j1, j2, j3⟩
    · refine Or.inl (fun k hk => ?_)
      by_cases e : (k : Int) = i
      · rw [show k = i.toNat by omega]; exact g
      · exact h k (by omega)
    · refine Or.inr ⟨j, e, by omega, j2, fun k hk hk2 => ?_⟩
      by_cases e : (k : Int) = i
      · rw [show k = i.toNat by omega]; exact g
      · exact j3 k hk (by omega)
theorem S_addC (hD : kc L ≤ 23) : ∀ (f : Nat) (c a dep : Int) (v : VT) (q : VT → Prop), dep < f → 0 ≤ dep ∧ dep ≤ 100 → pc a ≤ dep → clq n L c → (0 ≤ a ∧ a < 16777216) → (∀ k : Nat, tb a k = true → (k : Int) < kc L) → (∀ k j : Nat, tb a k = true → tb c j = true → k < j ∧ cr n L k j) → (∀ d e : Nat, (d : Int) < kc L → (tb (v 204 d) e = true ↔ (e : Int) < kc L ∧ e ≠ d ∧ np n L (d : Int) (e : Int) = 4)) → (∀ v' : VT, (∀ x, x ≠ 203 → v' x = v x) → RR n L c a (v 203 0) (v 203 1) (v' 203 0) (v' 203 1) → q v') → P_X7_addCrossing f c a dep v q := by
  intro f
  induction f with
  | zero => intro c a dep v q h h2; omega
  | succ f ih =>
    intro c a dep v q hf hdep hpa hc ha haD hH hfr hq
    have hpc := pc_r c
    have hpa2 := pc_r a
    have hdis : ∀ k : Nat, ¬ (tb c k = true ∧ tb a k = true) := fun k g => by have := (hH k k g.2 g.1).1; omega
    show P_J6_bitCount_0f7a4 c v _
    refine S_bitCount hc.1 (S_bitCount ha ⟨by omega, fun hbig => ⟨fun hz => ?_, fun hnz => ⟨fun hd0 => ?_, fun hd0 => ?_⟩⟩, fun hsm => ?_⟩)
    · intro v32 e32 v37 e37
      refine hq v37 (fun x hx => by rw [e37, upd2_off _ _ _ hx, e32, upd2_off _ _ _ hx]) ?_
      have n0 : v37 203 0 = pc c := by rw [e37, upd2_j, if_neg (by decide), e32, upd2_same]
      have n1 : v37 203 1 = c := by rw [e37, upd2_same]
      rw [n0, n1]
      have ex1 : ∀ z, ext n L c a z → z = c := fun z hz2 => set_ext hz2.1.1 hc.1 (fun k => ⟨fun g => by
        rcases hz2.2.2 k g with k2 | k2
        · exact k2
        · rw [hz, tb_0] at k2; exact absurd k2 (by decide), hz2.2.1 k⟩)
      refine Or.inr ⟨?_, ⟨hc, fun k g => g, fun k g => Or.inl g⟩, rfl, fun z hz2 => ?_⟩
      · rw [hz, pc_0] at hbig; omega
      · rw [ex1 z hz2]; exact Or.inr ⟨rfl, Int.le_refl _⟩
    · refine S_highest ha hnz (fun i hi' hb htop => ?_)
      intro l6 e6
      have hiD := haD i hb
      have htbl : ∀ k : Nat, tb l6 k = true ↔ tb a k = true ∧ k ≠ i := fun k => by rw [e6]; exact tb_del (by omega)
      have hl6 : 0 ≤ l6 ∧ l6 < 16777216 := set_r (by rw [e6]; exact r32_and _ _) (fun k g => by have := haD k ((htbl k).mp g).1; omega)
      have hpl : pc l6 = pc a - 1 := by rw [e6]; exact pc_out hi' hb
      have hci : tb c i = false := Bool.eq_false_iff.mpr (fun g => hdis i ⟨g, hb⟩)
      refine ⟨by omega, ih c l6 (dep - 1) v _ (by omega) (by omega) (by omega) hc hl6 (fun k g => haD k ((htbl k).mp g).1) (fun k j g1 g2 => hH k j ((htbl k).mp g1).1 g2) hfr (fun v1 f1 r1 => ⟨by omega, by omega, ?_⟩)⟩
      -- with the highest
      have hfr1 : ∀ d e : Nat, (d : Int) < kc L → (tb (v1 204 d) e = true ↔ (e : Int) < kc L ∧ e ≠ d ∧ np n L (d : Int) (e : Int) = 4) := fun d e hd => by rw [f1 204 (by omega)]; exact hfr d e hd
      have hc2 : ∀ k : Nat, tb (i_or c (i_shl 1 (i : Int))) k = true ↔ tb c k = true ∨ k = i := fun k => tb_ins (by omega)
      have ha2 : ∀ k : Nat, tb (i_and l6 (v1 204 i)) k = true ↔ (tb a k = true ∧ k ≠ i) ∧ np n L (i : Int) (k : Int) = 4 := fun k => by
        rw [tb_and, Bool.and_eq_true, htbl, hfr1 i k hiD]
        exact ⟨fun g => ⟨g.1, g.2.2.2⟩, fun g => ⟨g.1, haD k g.1.1, g.1.2, g.2⟩⟩
      have hclq : clq n L (i_or c (i_shl 1 (i : Int))) := by
        refine ⟨set_r (r32_or _ _) (fun k g => by rcases (hc2 k).mp g with k2 | k2; (have := hc.2.1 k k2; omega); omega), fun k g => by rcases (hc2 k).mp g with k2 | k2; exact hc.2.1 k k2; (rw [k2]; exact hiD), fun x y hxy g1 g2 => ?_⟩
        rcases (hc2 x).mp g1 with x1 | x1
        · rcases (hc2 y).mp g2 with y1 | y1
          · exact hc.2.2 x y hxy x1 y1
          · have := (hH i x hb x1).1; omega
        · rcases (hc2 y).mp g2 with y1 | y1
          · rw [x1]; exact (hH i y hb y1).2
          · omega
      have hr2 : 0 ≤ i_and l6 (v1 204 i) ∧ i_and l6 (v1 204 i) < 16777216 := set_r (r32_and _ _) (fun k g => by have := haD k ((ha2 k).mp g).1.1; omega)
      have hp2 : pc (i_and l6 (v1 204 i)) ≤ pc l6 := pc_sub (fun k g => by rw [tb_and, Bool.and_eq_true] at g; exact g.1)
      rw [Int.toNat_natCast]
      refine ih _ _ (dep - 1) v1 _ (by omega) (by omega) (by omega) hclq hr2 (fun k g => haD k ((ha2 k).mp g).1.1) (fun k j g1 g2 => ?_) hfr1 (fun v2 f2 r2 => hq v2 (fun x hx => by rw [f2 x hx, f1 x hx]) ?_)
      · have hk := (ha2 k).mp g1
        rcases (hc2 j).mp g2 with j1 | j1
        · exact hH k j hk.1.1 j1
        · have : k < i := by
            rcases Nat.lt_trichotomy k i with x | x | x
            · exact x
            · exact absurd x hk.1.2
            · rw [htop k x] at hk; exact absurd hk.1.1 (by decide)
          exact ⟨by omega, by rw [j1]; exact np_symm n L _ _ hk.2⟩
      · -- both together
        have parts : ∀ z, ext n L c a z → ext n L c l6 z ∨ ext n L (i_or c (i_shl 1 (i : Int))) (i_and l6 (v1 204 i)) z := fun z hz => by
          by_cases hzi : tb z i = true
          · right
            refine ⟨hz.1, fun k g => by rcases (hc2 k).mp g with k2 | k2; exact hz.2.1 k k2; (rw [k2]; exact hzi), fun k g => ?_⟩
            by_cases hki : k = i
            · exact Or.inl ((hc2 k).mpr (Or.inr hki))
            · rcases hz.2.2 k g with k2 | k2
              · exact Or.inl ((hc2 k).mpr (Or.inl k2))
              · right
                refine (ha2 k).mpr ⟨⟨k2, hki⟩, ?_⟩
                have hlt : k < i := by
                  rcases Nat.lt_trichotomy k i with x | x | x
                  · exact x
                  · exact absurd x hki
                  · rw [htop k x] at k2; exact absurd k2 (by decide)
                exact np_symm n L _ _ (hz.1.2.2 k i hlt g hzi)
          · left
            exact ⟨hz.1, hz.2.1, fun k g => by
              rcases hz.2.2 k g with k2 | k2
              · exact Or.inl k2
              · exact Or.inr ((htbl k).mpr ⟨k2, fun e => hzi (by rw [← e]; exact g)⟩)⟩
        have back1 : ∀ z, ext n L c l6 z → ext n L c a z := fun z hz => ⟨hz.1, hz.2.1, fun k g => by rcases hz.2.2 k g with k2 | k2; exact Or.inl k2; exact Or.inr ((htbl k).mp k2).1⟩
        have back2 : ∀ z, ext n L (i_or c (i_shl 1 (i : Int))) (i_and l6 (v1 204 i)) z → ext n L c a z := fun z hz => ⟨hz.1, fun k g => hz.2.1 k ((hc2 k).mpr (Or.inl g)), fun k g => by
          rcases hz.2.2 k g with k2 | k2
          · rcases (hc2 k).mp k2 with k3 | k3
            · exact Or.inl k3
            · rw [k3]; exact Or.inr hb
          · exact Or.inr ((ha2 k).mp k2).1.1⟩
        have lt12 : ∀ z1 z2, ext n L c l6 z1 → ext n L (i_or c (i_shl 1 (i : Int))) (i_and l6 (v1 204 i)) z2 → z1 < z2 := fun z1 z2 h1 h2 => by
          refine set_lt h1.1.1 h2.1.1 (i := i) (by omega) (Bool.eq_false_iff.mpr (fun g => ?_)) (h2.2.1 i ((hc2 i).mpr (Or.inr rfl))) (fun j hj => ?_)
          · rcases h1.2.2 i g with k2 | k2
            · rw [hci] at k2; exact absurd k2 (by decide)
            · exact absurd rfl ((htbl i).mp k2).2
          · rw [Bool.eq_iff_iff]
            constructor
            · intro g
              rcases h1.2.2 j g with k2 | k2
              · exact h2.2.1 j ((hc2 j).mpr (Or.inl k2))
              · have := ((htbl j).mp k2).1; rw [htop j hj] at this; exact absurd this (by decide)
            · intro g
              rcases h2.2.2 j g with k2 | k2
              · rcases (hc2 j).mp k2 with k3 | k3
                · exact h1.2.1 j k3
                · omega
              · have := ((ha2 j).mp k2).1.1; rw [htop j hj] at this; exact absurd this (by decide)
        rcases r2 with ⟨e1, e2, h2⟩ | ⟨h2b, h2e, h2p, h2m⟩
        · rw [e1, e2]
          rcases r1 with ⟨e3, e4, h1⟩ | ⟨h1b, h1e, h1p, h1m⟩
          · refine Or.inl ⟨e3, e4, fun z hz => ?_⟩
            rcases parts z hz with g | g
            · exact h1 z g
            · rw [← e3]; exact h2 z g
          · refine Or.inr ⟨h1b, back1 _ h1e, h1p, fun z hz => ?_⟩
            rcases parts z hz with g | g
            · exact h1m z g
            · have := h2 z g
              have lt := lt12 _ z h1e g
              unfold le2
              omega
        · have hb1 : v 203 0 ≤ v1 203 0 := by rcases r1 with ⟨e3, -, -⟩ | ⟨h1b, -⟩ <;> omega
          refine Or.inr ⟨by omega, back2 _ h2e, h2p, fun z hz => ?_⟩
          rcases parts z hz with g | g
          · left
            have : pc z ≤ v1 203 0 := by
              rcases r1 with ⟨e3, -, h1⟩ | ⟨-, -, h1p, h1m⟩
              · rw [e3]; exact h1 z g
              · rcases h1m z g with k | k
                · omega
                · omega
            omega
          · exact h2m z g
    · exact absurd (pc_zero ha (by omega)) hnz
    · refine hq v (fun x _ => rfl) (Or.inl ⟨rfl, rfl, fun z hz => ?_⟩)
      have := pc_union hz.2.2 hdis
      omega
end Most

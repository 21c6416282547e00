/-! ===== whether it can be opened ===== -/
def apt (x y : Int) (L : List Ln) : Prop := ∀ k : Int, 0 ≤ k → k < L.length → (tb x (lo L k).toNat = true ∧ tb x (hi L k).toNat = true) ∨ (tb y (lo L k).toNat = true ∧ tb y (hi L k).toNat = true)
def cop (A : Net) (x y : Int) : Prop := i_or x y = i_shl 1 A.1 - 1 ∧ i_and x y ≠ 0 ∧ apt x y A.2.1 ∧ A.1 + pc (i_and x y) ≤ 24 ∧ (A.2.1.length : Int) + (fb_ct (inB (tb (i_and x y)) A.2.1) A.2.1.length : Int) + pc (i_and x y) ≤ 60
section Open2
variable {n x y : Int} {L : List Ln} {v : VT}
theorem or_bits (hn : 0 ≤ n ∧ n ≤ 24) (h : i_or x y = i_shl 1 n - 1) (k : Nat) : (tb x k || tb y k) = decide (k < n.toNat) := by rw [← tb_or, h, tb_all (by omega)]
theorem or_nonneg (hn : 0 ≤ n ∧ n ≤ 24) (hx : r32 x) (hy : r32 y) (h : i_or x y = i_shl 1 n - 1) : 0 ≤ x ∧ 0 ≤ y := by
  have := or_bits hn h 31
  rw [decide_eq_false (by omega), Bool.or_eq_false_iff] at this
  exact ⟨tb_nonneg hx this.1, tb_nonneg hy this.2⟩
theorem and_small (hn : 0 ≤ n ∧ n ≤ 24) (h : i_or x y = i_shl 1 n - 1) : 0 ≤ i_and x y ∧ i_and x y < 16777216 := by
  refine tb_small (r32_and _ _) (fun k h1 h2 => ?_)
  have := or_bits hn h k
  rw [decide_eq_false (by omega), Bool.or_eq_false_iff] at this
  rw [tb_and, this.1]; rfl
theorem and_pc (hn : 0 ≤ n ∧ n ≤ 24) (h : i_or x y = i_shl 1 n - 1) : pc (i_and x y) = (fb_ct (tb (i_and x y)) n.toNat : Int) := by
  unfold pc
  have e := fb_ct_split (tb (i_and x y)) n.toNat (24 - n.toNat)
  rw [show n.toNat + (24 - n.toNat) = 24 by omega] at e
  have z : fb_ct (fun k => tb (i_and x y) (n.toNat + k)) (24 - n.toNat) = 0 := fb_ct_zero.mpr (fun k hk => by
    have := or_bits hn h (n.toNat + k)
    rw [decide_eq_false (by omega), Bool.or_eq_false_iff] at this
    rw [tb_and, this.1]; rfl)
  rw [e, z]
  rfl
theorem ends_in {a b z : Int} (ha : 0 ≤ a ∧ a < 32) (hb : 0 ≤ b ∧ b < 32) : i_and (i_or (i_shl 1 a) (i_shl 1 b)) z = i_or (i_shl 1 a) (i_shl 1 b) ↔ tb z a.toNat = true ∧ tb z b.toNat = true := by
  have key : ∀ k, tb (i_or (i_shl 1 a) (i_shl 1 b)) k = (decide (k = a.toNat) || decide (k = b.toNat)) := fun k => by rw [tb_or, tb_shl1' ha, tb_shl1' hb]
  constructor
  · intro h
    have h1 : ∀ k, (tb (i_or (i_shl 1 a) (i_shl 1 b)) k && tb z k) = tb (i_or (i_shl 1 a) (i_shl 1 b)) k := fun k => by rw [← tb_and, h]
    have ha' := h1 a.toNat
    have hb' := h1 b.toNat
    rw [key] at ha' hb'
    simp at ha' hb'
    exact ⟨ha', hb'⟩
  · intro ⟨h1, h2⟩
    refine tb_ext (r32_and _ _) (r32_or _ _) (fun k _ => ?_)
    rw [tb_and, key]
    by_cases e1 : k = a.toNat
    · rw [e1, h1, Bool.and_true]
    · by_cases e2 : k = b.toNat
      · rw [e2, h2, Bool.and_true]
      · simp [e1, e2]
theorem S_canOpen {A : Net} {q : Int → Prop} (hA : okNet A) (hg : xG v 10 A.1 A.2.1) (h0 : ¬ cop A x y → q 0) (h1 : cop A x y → q 1) : P_X0_canOpen 10 x y v q := by
  have hn := hA.1
  have hlen := hA.2.1.2.2
  unfold P_X0_canOpen
  rw [hg.1, hg.2.1]
  refine S_allBits (by omega) ⟨fun g => h0 (fun k => g k.1), fun ho => ⟨fun hb => ?_, fun g => h0 (fun k => k.2.1 g)⟩⟩
  have hsm := and_small hn ho
  have hpr := pc_r (i_and x y)
  refine S_bitCount hsm ?_
  intro K104 hK104 X36 hX36
  refine up2r (X := X36) (A.2.1.length : Int) (fun i m => 0 ≤ i ∧ m = pc (i_and x y) + (fb_ct (inB (tb (i_and x y)) A.2.1) i.toNat : Int) ∧ ∀ k : Int, 0 ≤ k → k < i → (tb x (lo A.2.1 k).toNat = true ∧ tb x (hi A.2.1 k).toNat = true) ∨ (tb y (lo A.2.1 k).toNat = true ∧ tb y (hi A.2.1 k).toNat = true)) ?_ (by omega) ⟨by omega, by show pc (i_and x y) = pc (i_and x y) + ((0 : Nat) : Int); omega, fun k k0 k1 => by omega⟩
  intro m i hle ⟨i0, hm, hap⟩ hnext
  have hct := fb_ct_le (inB (tb (i_and x y)) A.2.1) i.toNat
  apply hX36
  refine ⟨fun hc => ?_, fun hc => ?_⟩
  · apply hK104
    have ei : i.toNat = A.2.1.length := by omega
    rw [ei] at hm hct
    refine ⟨by omega, fun g => h0 (fun k => by have := k.2.2.2.1; omega), fun g1 => ⟨by omega, fun g => h0 (fun k => by have := k.2.2.2.2; omega), fun g2 => h1 ⟨ho, hb, fun k k0 k1 => hap k k0 (by omega), g1, by omega⟩⟩⟩
  · have hw := hA.2.1.1 i i0 hc
    have hk := hg.2.2 i i0 hc
    have e12 : v 12 i.toNat = lo A.2.1 i := hk.1
    have e13 : v 13 i.toNat = hi A.2.1 i := hk.2.1
    refine ⟨by omega, by omega, fun l7 e7 => ?_⟩
    have e7' : l7 = i_or (i_shl 1 (lo A.2.1 i)) (i_shl 1 (hi A.2.1 i)) := by rw [e7]; show i_or (i_shl 1 (v 12 i.toNat)) (i_shl 1 (v 13 i.toNat)) = _; rw [e12, e13]
    subst e7'
    rw [ends_in (by omega) (by omega), ends_in (by omega) (by omega), ends_in (by omega) (by omega)]
    have hin : inB (tb (i_and x y)) A.2.1 i.toNat = true ↔ tb (i_and x y) (lo A.2.1 i).toNat = true ∧ tb (i_and x y) (hi A.2.1 i).toNat = true := by
      rw [inB_and, Int.toNat_of_nonneg i0]
    have step : ((tb x (lo A.2.1 i).toNat = true ∧ tb x (hi A.2.1 i).toNat = true) ∨ (tb y (lo A.2.1 i).toNat = true ∧ tb y (hi A.2.1 i).toNat = true)) → (¬ (tb (i_and x y) (lo A.2.1 i).toNat = true ∧ tb (i_and x y) (hi A.2.1 i).toNat = true) → (-2147483648 ≤ i + 1 ∧ i + 1 ≤ 2147483647) ∧ X36 m (i + 1)) ∧ ((tb (i_and x y) (lo A.2.1 i).toNat = true ∧ tb (i_and x y) (hi A.2.1 i).toNat = true) → (-2147483648 ≤ m + 1 ∧ m + 1 ≤ 2147483647) ∧ (-2147483648 ≤ i + 1 ∧ i + 1 ≤ 2147483647) ∧ X36 (m + 1) (i + 1)) := by
      intro hx
      have hap2 : ∀ k : Int, 0 ≤ k → k < i + 1 → (tb x (lo A.2.1 k).toNat = true ∧ tb x (hi A.2.1 k).toNat = true) ∨ (tb y (lo A.2.1 k).toNat = true ∧ tb y (hi A.2.1 k).toNat = true) := fun k k0 k1 => by
        by_cases e : k = i
        · rw [e]; exact hx
        · exact hap k k0 (by omega)
      refine ⟨fun g => ⟨by omega, hnext hc _ ⟨by omega, ?_, hap2⟩⟩, fun g => ⟨by omega, by omega, hnext hc _ ⟨by omega, ?_, hap2⟩⟩⟩
      · rw [show (i + 1).toNat = i.toNat + 1 by omega, fb_ct_succ, if_neg (fun g2 => g (hin.mp g2))]; exact hm
      · rw [show (i + 1).toNat = i.toNat + 1 by omega, fb_ct_succ, if_pos (hin.mpr g)]; omega
    exact ⟨fun g => step (Or.inl g), fun g => ⟨fun g2 => step (Or.inr g2), fun g2 => h0 (fun k => by rcases k.2.2.1 i i0 hc with h | h; exact g h; exact g2 h)⟩⟩
theorem S_areApart {A : Net} {q : Int → Prop} (hA : okNet A) (hg : mG v 222 A.1 A.2.1) (ho : i_or x y = i_shl 1 A.1 - 1) (h0 : ¬ apt x y A.2.1 → q 0) (h1 : apt x y A.2.1 → q 1) : P_X11_areApart (i_and x (i_xor y (-1))) (i_and y (i_xor x (-1))) v q := by
  have hn := hA.1
  have hlen := hA.2.1.2.2
  unfold P_X11_areApart
  rw [hg.2.1]
  intro X2 hX2
  have nx : ∀ k : Nat, k < 32 → (tb (i_and x (i_xor y (-1))) k = true ↔ tb x k = true ∧ tb y k = false) := fun k hk => by rw [tb_and, tb_not _ hk, Bool.and_eq_true, Bool.not_eq_true']
  have ny : ∀ k : Nat, k < 32 → (tb (i_and y (i_xor x (-1))) k = true ↔ tb y k = true ∧ tb x k = false) := fun k hk => by rw [tb_and, tb_not _ hk, Bool.and_eq_true, Bool.not_eq_true']
  refine up1 (X := X2) (A.2.1.length : Int) (fun i => 0 ≤ i ∧ ∀ k : Int, 0 ≤ k → k < i → (tb x (lo A.2.1 k).toNat = true ∧ tb x (hi A.2.1 k).toNat = true) ∨ (tb y (lo A.2.1 k).toNat = true ∧ tb y (hi A.2.1 k).toNat = true)) ?_ (by omega) ⟨by omega, fun k k0 k1 => by omega⟩
  intro i hle ⟨i0, hap⟩ hnext
  apply hX2
  refine ⟨fun hc => h1 (fun k k0 k1 => hap k k0 (by omega)), fun hc => ?_⟩
  have hw := hA.2.1.1 i i0 hc
  have ol := or_bits hn ho (lo A.2.1 i).toNat
  have oh := or_bits hn ho (hi A.2.1 i).toNat
  rw [decide_eq_true (by omega), Bool.or_eq_true] at ol oh
  have nl1 := nx (lo A.2.1 i).toNat (by omega)
  have nl2 := ny (lo A.2.1 i).toNat (by omega)
  have nh1 := nx (hi A.2.1 i).toNat (by omega)
  have nh2 := ny (hi A.2.1 i).toNat (by omega)
  have step : ((tb x (lo A.2.1 i).toNat = true ∧ tb x (hi A.2.1 i).toNat = true) ∨ (tb y (lo A.2.1 i).toNat = true ∧ tb y (hi A.2.1 i).toNat = true)) → (-2147483648 ≤ i + 1 ∧ i + 1 ≤ 2147483647) ∧ X2 (i + 1) := fun hx => ⟨by omega, hnext hc ⟨by omega, fun k k0 k1 => by
    by_cases e : k = i
    · rw [e]; exact hx
    · exact hap k k0 (by omega)⟩⟩
  have bad : ¬ ((tb x (lo A.2.1 i).toNat = true ∧ tb x (hi A.2.1 i).toNat = true) ∨ (tb y (lo A.2.1 i).toNat = true ∧ tb y (hi A.2.1 i).toNat = true)) → q 0 := fun hb => h0 (fun k => hb (k i i0 hc))
  refine S_low hA.2.1 hg ⟨i0, hc⟩ ?_
  have K : (tb (i_and x (i_xor y (-1))) (lo A.2.1 i).toNat = false ∨ tb (i_and y (i_xor x (-1))) (hi A.2.1 i).toNat = false) → P_X11_low i v (fun r39 => P_X11_isOf (i_and y (i_xor x (-1))) r39 v (fun r42 => ((r42 = 0) → (-2147483648 ≤ i + 1 ∧ i + 1 ≤ 2147483647) ∧ X2 (i + 1)) ∧ ((¬ r42 = 0) → P_X11_high i v (fun r51 => P_X11_isOf (i_and x (i_xor y (-1))) r51 v (fun r54 => ((r54 = 0) → (-2147483648 ≤ i + 1 ∧ i + 1 ≤ 2147483647) ∧ X2 (i + 1)) ∧ ((¬ r54 = 0) → q 0)))))) := by
    intro hK
    refine S_low hA.2.1 hg ⟨i0, hc⟩ (S_isOf (by omega) (fun g => ⟨fun _ => step ?_, fun k => absurd rfl k⟩) (fun g => ⟨fun k => absurd k (by decide), fun _ => S_high hA.2.1 hg ⟨i0, hc⟩ (S_isOf (by omega) (fun g2 => ⟨fun _ => step ?_, fun k => absurd rfl k⟩) (fun g2 => ⟨fun k => absurd k (by decide), fun _ => bad ?_⟩))⟩))
    · cases a1 : tb x (lo A.2.1 i).toNat <;> cases a2 : tb y (lo A.2.1 i).toNat <;> cases a3 : tb x (hi A.2.1 i).toNat <;> cases a4 : tb y (hi A.2.1 i).toNat <;> simp_all
    · cases a1 : tb x (lo A.2.1 i).toNat <;> cases a2 : tb y (lo A.2.1 i).toNat <;> cases a3 : tb x (hi A.2.1 i).toNat <;> cases a4 : tb y (hi A.2.1 i).toNat <;> simp_all
    · rw [nl2] at g
      rw [nh1] at g2
      rw [g.1, g.2, g2.1, g2.2]; decide
  refine S_isOf (by omega) (fun g K36 hK36 => ⟨fun _ => hK36 (K (Or.inl g)), fun k => absurd rfl k⟩) (fun g K36 hK36 => ⟨fun k => absurd k (by decide), fun _ => S_high hA.2.1 hg ⟨i0, hc⟩ (S_isOf (by omega) (fun g2 => ⟨fun k => absurd rfl k, fun _ => hK36 (K (Or.inr g2))⟩) (fun g2 => ⟨fun _ => bad ?_, fun k => absurd k (by decide)⟩))⟩)
  rw [nl1] at g
  rw [nh2] at g2
  rw [g.1, g.2, g2.1, g2.2]; decide
theorem S_linesIn {A : Net} {z : Int} {q : Int → Prop} (hA : okNet A) (hg : mG v 222 A.1 A.2.1) (hq : q (fb_ct (inB (tb z) A.2.1) A.2.1.length : Int)) : P_X11_linesIn z v q := by
  have hn := hA.1
  have hlen := hA.2.1.2.2
  unfold P_X11_linesIn
  rw [hg.2.1]
  intro X4 hX4
  refine up2r (X := X4) (A.2.1.length : Int) (fun i m => 0 ≤ i ∧ m = (fb_ct (inB (tb z) A.2.1) i.toNat : Int)) ?_ (by omega) ⟨by omega, rfl⟩
  intro m i hle ⟨i0, hm⟩ hnext
  have hct := fb_ct_le (inB (tb z) A.2.1) i.toNat
  apply hX4
  refine ⟨fun hc => ?_, fun hc => ?_⟩
  · rw [hm, show i.toNat = A.2.1.length by omega]; exact hq
  · have hw := hA.2.1.1 i i0 hc
    have hin : inB (tb z) A.2.1 i.toNat = true ↔ tb z (lo A.2.1 i).toNat = true ∧ tb z (hi A.2.1 i).toNat = true := by
      rw [inB_and, Int.toNat_of_nonneg i0]
    have no : ¬ (tb z (lo A.2.1 i).toNat = true ∧ tb z (hi A.2.1 i).toNat = true) → P_X11_flag 0 v (fun r44 => (-2147483648 ≤ m + r44 ∧ m + r44 ≤ 2147483647) ∧ (-2147483648 ≤ i + 1 ∧ i + 1 ≤ 2147483647) ∧ X4 (m + r44) (i + 1)) := fun g => by
      unfold P_X11_flag
      exact ⟨fun _ => ⟨by omega, by omega, hnext hc _ ⟨by omega, by rw [show (i + 1).toNat = i.toNat + 1 by omega, fb_ct_succ, if_neg (fun g2 => g (hin.mp g2))]; omega⟩⟩, fun k => absurd rfl k⟩
    refine S_low hA.2.1 hg ⟨i0, hc⟩ (S_isOf (by omega) (fun g => ⟨fun _ => no (fun k => by rw [g] at k; exact absurd k.1 (by decide)), fun k => absurd rfl k⟩) (fun g => ⟨fun k => absurd k (by decide), fun _ => S_high hA.2.1 hg ⟨i0, hc⟩ (S_isOf (by omega) (fun g2 => ⟨fun _ => no (fun k => by rw [g2] at k; exact absurd k.2 (by decide)), fun k => absurd rfl k⟩) (fun g2 => ⟨fun k => absurd k (by decide), fun _ => ?_⟩))⟩))
    unfold P_X11_flag
    exact ⟨fun k => absurd k (by decide), fun _ => ⟨by omega, by omega, hnext hc _ ⟨by omega, by rw [show (i + 1).toNat = i.toNat + 1 by omega, fb_ct_succ, if_pos (hin.mpr ⟨g, g2⟩)]; omega⟩⟩⟩
theorem S_canOpenM {A : Net} {q : Int → Prop} (hA : okNet A) (hx : r32 x) (hy : r32 y) (hg : mG v 222 A.1 A.2.1) (h0 : ¬ cop A x y → q 0) (h1 : cop A x y → q 1) : P_X11_canOpen x y v q := by
  have hn := hA.1
  have hlen := hA.2.1.2.2
  have hpr := pc_r (i_and x y)
  have hct := fb_ct_le (inB (tb (i_and x y)) A.2.1) A.2.1.length
  unfold P_X11_canOpen
  rw [hg.1, hg.2.1]
  refine ⟨fun g => h0 (fun k => by have := or_nonneg hn hx hy k.1; omega), fun g1 => ⟨fun g => h0 (fun k => by have := or_nonneg hn hx hy k.1; omega), fun g2 => ?_⟩⟩
  refine S_all hn hg ⟨fun g => h0 (fun k => g k.1), fun ho => ⟨fun g => h0 (fun k => k.2.1 g), fun hb => ?_⟩⟩
  refine S_areApart hA hg ho (fun g => ⟨fun k => absurd rfl k, fun _ => h0 (fun k => g k.2.2.1)⟩) (fun hap => ⟨fun _ => ?_, fun k => absurd k (by decide)⟩)
  refine S_count ⟨by omega, fun g => h0 (fun k => by have := k.2.2.2.1; omega), fun g3 => ?_⟩
  refine S_linesIn hA hg ⟨by omega, S_count ⟨by omega, fun g => h0 (fun k => by have := k.2.2.2.2; omega), fun g4 => h1 ⟨ho, hb, hap, g3, g4⟩⟩⟩
end Open2

/-! ===== how many bits ===== -/
theorem ofInt_nat (n : Nat) : Int32.ofInt (n : Int) = nI n := by
  first
    | rfl
    | (apply Int32.toBitVec_inj.mp; simp; done)
    | (apply Int32.toBitVec_inj.mp; show BitVec.ofInt 32 (n : Int) = BitVec.ofNat 32 n; exact BitVec.ofInt_natCast 32 n)
theorem tb_nat {n : Nat} (k : Nat) (h : k < 32) : tb (n : Int) k = n.testBit k := by
  unfold tb bt
  rw [ofInt_nat]
  show (BitVec.ofNat 32 n).getLsbD k = _
  rw [BitVec.getLsbD_ofNat]
  simp [h]
theorem tb_int {x : Int} (hx : 0 ≤ x) {k : Nat} (h : k < 32) : tb x k = x.toNat.testBit k := by
  rw [← tb_nat k h, Int.toNat_of_nonneg hx]
theorem i_and_nat {a b : Nat} (ha : a < 2147483648) (hb : b < 2147483648) : i_and (a : Int) (b : Int) = ((a &&& b : Nat) : Int) := by
  have hlt : a &&& b ≤ a := Nat.and_le_left
  refine tb_ext (r32_and _ _) (by unfold r32; omega) (fun k hk => ?_)
  rw [tb_and, tb_nat k hk, tb_nat k hk, tb_nat k hk, Nat.testBit_and]
theorem i_ushr_nat {a : Nat} (ha : a < 2147483648) {s : Nat} (hs : s < 32) : i_ushr (a : Int) (s : Int) = ((a / 2 ^ s : Nat) : Int) := by
  have hle : a / 2 ^ s ≤ a := Nat.div_le_self _ _
  have hr : r32 ((a / 2 ^ s : Nat) : Int) := by
    generalize a / 2 ^ s = y at hle
    unfold r32; omega
  refine tb_ext (r32_toInt _) hr (fun k hk => ?_)
  rw [tb_nat k hk]
  unfold tb i_ushr
  rw [Int32_ofInt_toInt', ofInt_nI s (List.mem_range.mpr hs), b_ushr s hs]
  have e : bt (Int32.ofInt (a : Int)) (s + k) = a.testBit (s + k) := by
    by_cases h : s + k < 32
    · exact tb_nat (s + k) h
    · rw [b_big (by omega), Nat.testBit_lt_two_pow]
      exact Nat.lt_of_lt_of_le ha (Nat.le_trans (by decide : 2147483648 ≤ 2 ^ 32) (Nat.pow_le_pow_right (by decide) (by omega)))
  rw [e, ← Nat.shiftRight_eq_div_pow, Nat.testBit_shiftRight]
theorem and_two (y c : Nat) (k : Nat) : y &&& c = (y % 2 ^ k &&& c % 2 ^ k) + 2 ^ k * (y / 2 ^ k &&& c / 2 ^ k) := by
  have h1 : y % 2 ^ k &&& c % 2 ^ k < 2 ^ k := Nat.lt_of_le_of_lt Nat.and_le_left (Nat.mod_lt _ (Nat.two_pow_pos k))
  apply Nat.eq_of_testBit_eq
  intro i
  rw [Nat.add_comm, Nat.testBit_two_pow_mul_add _ h1, Nat.testBit_and]
  by_cases hi : i < k
  · rw [if_pos hi, Nat.testBit_and, Nat.testBit_mod_two_pow, Nat.testBit_mod_two_pow]
    simp [hi]
  · rw [if_neg hi, Nat.testBit_and, ← Nat.shiftRight_eq_div_pow, ← Nat.shiftRight_eq_div_pow, Nat.testBit_shiftRight, Nat.testBit_shiftRight, show k + (i - k) = i by omega]
theorem and_byte {a m A C : Nat} (ha : a < 256) (hm : m < 256) : (a + 256 * A) &&& (m + 256 * C) = (a &&& m) + 256 * (A &&& C) := by
  have := and_two (a + 256 * A) (m + 256 * C) 8
  rw [show (2 : Nat) ^ 8 = 256 from rfl, show (a + 256 * A) % 256 = a by omega, show (m + 256 * C) % 256 = m by omega, show (a + 256 * A) / 256 = A by omega, show (m + 256 * C) / 256 = C by omega] at this
  exact this
theorem and_63 (y : Nat) : y &&& 63 = y % 64 := Nat.and_two_pow_sub_one_eq_mod y 6
/-- the bits below 24 -/
noncomputable def pc (x : Int) : Int := (fb_ct (tb x) 24 : Nat)
def by1 (b : Nat) : Nat := b - (b / 2 &&& 85)
def by2 (b : Nat) : Nat := (by1 b &&& 51) + (by1 b / 4 &&& 51)
theorem by_f : ∀ b ∈ List.range 256, (b / 2 &&& 85) ≤ b ∧ (by2 b ≤ 68 ∧ by2 b % 16 ≤ 4) ∧ (by2 b + by2 b / 16) % 16 = fb_ct (fun k => b.testBit k) 8 ∧ fb_ct (fun k => b.testBit k) 8 ≤ 8 := by decide +kernel
theorem by_a : ∀ t ∈ List.range 2, ∀ y ∈ List.range 128, ((y + 128 * t) &&& 85) = (y &&& 85) := by decide +kernel
theorem by_b : ∀ t ∈ List.range 4, ∀ y ∈ List.range 64, ((y + 64 * t) &&& 51) = (y &&& 51) := by decide +kernel
theorem pc_byte {X a b c : Nat} (h : X = a + 256 * (b + 256 * c)) (ha : a < 256) (hb : b < 256) : fb_ct (fun k => X.testBit k) 24 = fb_ct (fun k => a.testBit k) 8 + (fb_ct (fun k => b.testBit k) 8 + fb_ct (fun k => c.testBit k) 8) := by
  rw [show 24 = 8 + (8 + 8) from rfl, fb_ct_split, fb_ct_split]
  have e1 : ∀ k, X.testBit (8 + k) = (b + 256 * c).testBit k := by
    intro k
    rw [← Nat.testBit_shiftRight, Nat.shiftRight_eq_div_pow, show X / 2 ^ 8 = b + 256 * c by omega]
  have e2 : ∀ k, (b + 256 * c).testBit (8 + k) = c.testBit k := by
    intro k
    rw [← Nat.testBit_shiftRight, Nat.shiftRight_eq_div_pow, show (b + 256 * c) / 2 ^ 8 = c by omega]
  congr 1
  · refine fb_ct_cong (fun k hk => ?_)
    have := Nat.testBit_mod_two_pow X 8 k
    rw [show X % 2 ^ 8 = a by omega] at this
    rw [this]; simp [hk]
  · congr 1
    · refine fb_ct_cong (fun k hk => ?_)
      rw [e1]
      have := Nat.testBit_mod_two_pow (b + 256 * c) 8 k
      rw [show (b + 256 * c) % 2 ^ 8 = b by omega] at this
      rw [this]; simp [hk]
    · refine fb_ct_cong (fun k hk => ?_)
      rw [e1, e2]
theorem swar {X : Nat} (h : X < 16777216) : ∃ l0 l1 l2 l3 l4 : Nat, l0 = X - (X / 2 &&& 1431655765) ∧ (X / 2 &&& 1431655765) ≤ X ∧ l0 ≤ X ∧ l1 = (l0 &&& 858993459) + (l0 / 4 &&& 858993459) ∧ l1 < 16777216 ∧ l2 = ((l1 + l1 / 16) &&& 252645135) ∧ l2 < 16777216 ∧ l3 = l2 + l2 / 256 ∧ l3 < 33554432 ∧ l4 = l3 + l3 / 65536 ∧ l4 < 67108864 ∧ (l4 &&& 63) = fb_ct (fun k => X.testBit k) 24 := by
  obtain ⟨a, b, c, hX, ha, hb, hc⟩ : ∃ a b c, X = a + 256 * (b + 256 * c) ∧ a < 256 ∧ b < 256 ∧ c < 256 := ⟨X % 256, X / 256 % 256, X / 65536, by omega, by omega, by omega, by omega⟩
  rw [pc_byte hX ha hb]
  have fa := by_f a (List.mem_range.mpr ha)
  have fb := by_f b (List.mem_range.mpr hb)
  have fc := by_f c (List.mem_range.mpr hc)
  have c1 : (X / 2 &&& 1431655765) = (a / 2 &&& 85) + 256 * ((b / 2 &&& 85) + 256 * (c / 2 &&& 85)) := by
    rw [show X / 2 = (a / 2 + 128 * (b % 2)) + 256 * ((b / 2 + 128 * (c % 2)) + 256 * (c / 2)) by omega, show 1431655765 = 85 + 256 * (85 + 256 * (85 + 256 * 85)) from rfl, and_byte (by omega) (by omega), and_byte (by omega) (by omega)]
    have e : c / 2 &&& (85 + 256 * 85) = (c / 2 &&& 85) := by
      have := and_byte (a := c / 2) (m := 85) (A := 0) (C := 85) (by omega) (by omega)
      rw [Nat.zero_and] at this
      simpa using this
    rw [e, by_a (b % 2) (List.mem_range.mpr (by omega)) (a / 2) (List.mem_range.mpr (by omega)), by_a (c % 2) (List.mem_range.mpr (by omega)) (b / 2) (List.mem_range.mpr (by omega))]
  have y0 : by1 a = a - (a / 2 &&& 85) := rfl
  have y1 : by1 b = b - (b / 2 &&& 85) := rfl
  have y2 : by1 c = c - (c / 2 &&& 85) := rfl
  have z0 : by2 a = (by1 a &&& 51) + (by1 a / 4 &&& 51) := rfl
  have z1 : by2 b = (by1 b &&& 51) + (by1 b / 4 &&& 51) := rfl
  have z2 : by2 c = (by1 c &&& 51) + (by1 c / 4 &&& 51) := rfl
  rw [c1]
  generalize (a / 2 &&& 85) = a5 at *
  generalize (b / 2 &&& 85) = b5 at *
  generalize (c / 2 &&& 85) = c5 at *
  generalize by1 a = ya at *
  generalize by1 b = yb at *
  generalize by1 c = yc at *
  obtain ⟨l0, hl0⟩ : ∃ l, l = ya + 256 * (yb + 256 * yc) := ⟨_, rfl⟩
  have h0 : X - (a5 + 256 * (b5 + 256 * c5)) = l0 := by omega
  have k0 : ya < 256 := by omega
  have k1 : yb < 256 := by omega
  have k2 : yc < 256 := by omega
  have c2 : (l0 &&& 858993459) = (ya &&& 51) + 256 * ((yb &&& 51) + 256 * (yc &&& 51)) := by
    rw [hl0, show 858993459 = 51 + 256 * (51 + 256 * (51 + 256 * 51)) from rfl, and_byte k0 (by omega), and_byte k1 (by omega)]
    have := and_byte (a := yc) (m := 51) (A := 0) (C := 51) k2 (by omega)
    rw [Nat.zero_and] at this
    rw [show yc &&& (51 + 256 * 51) = (yc &&& 51) by simpa using this]
  have c3 : (l0 / 4 &&& 858993459) = (ya / 4 &&& 51) + 256 * ((yb / 4 &&& 51) + 256 * (yc / 4 &&& 51)) := by
    rw [show l0 / 4 = (ya / 4 + 64 * (yb % 4)) + 256 * ((yb / 4 + 64 * (yc % 4)) + 256 * (yc / 4)) by omega, show 858993459 = 51 + 256 * (51 + 256 * (51 + 256 * 51)) from rfl, and_byte (by omega) (by omega), and_byte (by omega) (by omega)]
    have := and_byte (a := yc / 4) (m := 51) (A := 0) (C := 51) (by omega) (by omega)
    rw [Nat.zero_and] at this
    rw [show yc / 4 &&& (51 + 256 * 51) = (yc / 4 &&& 51) by simpa using this, by_b (yb % 4) (List.mem_range.mpr (by omega)) (ya / 4) (List.mem_range.mpr (by omega)), by_b (yc % 4) (List.mem_range.mpr (by omega)) (yb / 4) (List.mem_range.mpr (by omega))]
  rw [h0]
  generalize (ya &&& 51) = p0 at *
  generalize (yb &&& 51) = p1' at *
  generalize (yc &&& 51) = p2' at *
  generalize (ya / 4 &&& 51) = q0 at *
  generalize (yb / 4 &&& 51) = q1 at *
  generalize (yc / 4 &&& 51) = q2 at *
  generalize by2 a = za at *
  generalize by2 b = zb at *
  generalize by2 c = zc at *
  generalize fb_ct (fun k => a.testBit k) 8 = sa at *
  generalize fb_ct (fun k => b.testBit k) 8 = sb at *
  generalize fb_ct (fun k => c.testBit k) 8 = sc at *
  obtain ⟨l1, hl1⟩ : ∃ l, l = za + 256 * (zb + 256 * zc) := ⟨_, rfl⟩
  have h15 : ∀ y : Nat, y &&& 15 = y % 16 := fun y => Nat.and_two_pow_sub_one_eq_mod y 4
  have c4 : ((l1 + l1 / 16) &&& 252645135) = sa + 256 * (sb + 256 * sc) := by
    rw [show l1 + l1 / 16 = (za + za / 16 + 16 * (zb % 16)) + 256 * ((zb + zb / 16 + 16 * (zc % 16)) + 256 * (zc + zc / 16)) by omega, show 252645135 = 15 + 256 * (15 + 256 * (15 + 256 * 15)) from rfl, and_byte (by omega) (by omega), and_byte (by omega) (by omega)]
    have := and_byte (a := zc + zc / 16) (m := 15) (A := 0) (C := 15) (by omega) (by omega)
    rw [Nat.zero_and] at this
    rw [show (zc + zc / 16) &&& (15 + 256 * 15) = ((zc + zc / 16) &&& 15) by simpa using this, h15, h15, h15]
    omega
  obtain ⟨l2, hl2⟩ : ∃ l, l = sa + 256 * (sb + 256 * sc) := ⟨_, rfl⟩
  refine ⟨l0, l1, l2, l2 + l2 / 256, (l2 + l2 / 256) + (l2 + l2 / 256) / 65536, rfl, by omega, by omega, ?_, by omega, ?_, by omega, rfl, by omega, rfl, by omega, ?_⟩
  · rw [c2, c3, hl1]; omega
  · rw [c4]; exact hl2
  · have s0 : sa ≤ 8 := fa.2.2.2
    have s1 : sb ≤ 8 := fb.2.2.2
    have s2 : sc ≤ 8 := fc.2.2.2
    clear fa fb fc c2 c3 c4 h0 hl0 hl1 k0 k1 k2 y0 y1 y2 z0 z1 z2 c1 hX ha hb hc h
    have w1 : l2 / 256 = sb + 256 * sc := by omega
    have w2 : (l2 + l2 / 256) / 65536 = sc := by omega
    rw [and_63, w2, w1, hl2]; omega
theorem S_bitCount {x : Int} {v : VT} {q : Int → Prop} (hx : 0 ≤ x ∧ x < 16777216) (hq : q (pc x)) : P_J6_bitCount_0f7a4 x v q := by
  obtain ⟨X, hX⟩ : ∃ X : Nat, x = (X : Int) := ⟨x.toNat, by omega⟩
  subst hX
  have hX : X < 16777216 := by omega
  obtain ⟨l0, l1, l2, l3, l4, a1, a2, a3, a4, a5, a6, a7, a8, a9, a10, a11, a12⟩ := swar hX
  have hpc : pc (X : Int) = ((l4 &&& 63 : Nat) : Int) := by
    unfold pc
    rw [a12, fb_ct_cong (fun k hk => tb_nat (n := X) k (by omega))]
  unfold P_J6_bitCount_0f7a4
  have u1 : i_ushr (X : Int) 1 = ((X / 2 : Nat) : Int) := by
    have := i_ushr_nat (a := X) (by omega) (s := 1) (by omega)
    simpa using this
  have n1 : i_and (i_ushr (X : Int) 1) 1431655765 = ((X / 2 &&& 1431655765 : Nat) : Int) := by
    rw [u1]; exact i_and_nat (by omega) (by decide)
  rw [n1]
  refine ⟨by omega, fun m0 e0 => ?_⟩
  have e0' : m0 = (l0 : Int) := by omega
  subst e0'
  have u2 : i_ushr (l0 : Int) 2 = ((l0 / 4 : Nat) : Int) := by
    have := i_ushr_nat (a := l0) (by omega) (s := 2) (by omega)
    simpa using this
  have n2 : i_and (l0 : Int) 858993459 = ((l0 &&& 858993459 : Nat) : Int) := i_and_nat (by omega) (by decide)
  have n3 : i_and (i_ushr (l0 : Int) 2) 858993459 = ((l0 / 4 &&& 858993459 : Nat) : Int) := by
    rw [u2]; exact i_and_nat (by omega) (by decide)
  rw [n2, n3]
  refine ⟨by omega, fun m1 e1 => ?_⟩
  have e1' : m1 = (l1 : Int) := by omega
  subst e1'
  have u3 : i_ushr (l1 : Int) 4 = ((l1 / 16 : Nat) : Int) := by
    have := i_ushr_nat (a := l1) (by omega) (s := 4) (by omega)
    simpa using this
  rw [u3]
  refine ⟨by omega, fun m2 e2 => ?_⟩
  have n4 : i_and ((l1 : Int) + ((l1 / 16 : Nat) : Int)) 252645135 = (((l1 + l1 / 16) &&& 252645135 : Nat) : Int) := by
    have := i_and_nat (a := l1 + l1 / 16) (b := 252645135) (by omega) (by decide)
    rw [← this]; congr 1
  rw [n4] at e2
  have e2' : m2 = (l2 : Int) := by omega
  subst e2'
  have u4 : i_ushr (l2 : Int) 8 = ((l2 / 256 : Nat) : Int) := by
    have := i_ushr_nat (a := l2) (by omega) (s := 8) (by omega)
    simpa using this
  rw [u4]
  refine ⟨by omega, fun m3 e3 => ?_⟩
  have e3' : m3 = (l3 : Int) := by omega
  subst e3'
  have u5 : i_ushr (l3 : Int) 16 = ((l3 / 65536 : Nat) : Int) := by
    have := i_ushr_nat (a := l3) (by omega) (s := 16) (by omega)
    simpa using this
  rw [u5]
  refine ⟨by omega, fun m4 e4 => ?_⟩
  have e4' : m4 = (l4 : Int) := by omega
  subst e4'
  have n5 : i_and (l4 : Int) 63 = ((l4 &&& 63 : Nat) : Int) := i_and_nat (by omega) (by decide)
  rw [n5, ← hpc]
  exact hq
theorem pc_r (x : Int) : 0 ≤ pc x ∧ pc x ≤ 24 := by
  have := fb_ct_le (tb x) 24
  unfold pc; omega
theorem S_count {x : Int} {v : VT} {q : Int → Prop} (hq : q (pc x)) : P_X11_count x v q := by
  unfold P_X11_count
  intro X4 hX4
  refine up2r (X := X4) 24 (fun i acc => 0 ≤ i ∧ acc = (fb_ct (tb x) i.toNat : Nat)) ?_ (by omega) ⟨by omega, rfl⟩
  intro acc i hle ⟨i0, ha⟩ hnext
  apply hX4
  have hb := fb_ct_le (tb x) i.toNat
  refine ⟨fun hc => ?_, fun hc => ?_⟩
  · have e : i = 24 := by omega
    rw [ha, e]; exact hq
  · rw [bit_at (by omega)]
    have h2 : 0 ≤ (if tb x i.toNat = true then (1 : Int) else 0) ∧ (if tb x i.toNat = true then (1 : Int) else 0) ≤ 1 := by split <;> omega
    refine ⟨by omega, fun l1 e1 => ⟨by omega, hnext hc _ ⟨by omega, ?_⟩⟩⟩
    rw [e1, ha, show (i + 1).toNat = i.toNat + 1 by omega, fb_ct_succ]
    split <;> omega

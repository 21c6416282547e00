/-! ===== division, remainders, shifts of numbers that aren't negative ===== -/
theorem i_div_p {x y : Int} (hx : 0 ≤ x ∧ x ≤ 2147483647) (hy : 1 ≤ y ∧ y ≤ 2147483647) : i_div x y = x / y := by
  unfold i_div
  rw [← Int32.ofInt_tdiv (by rw [Int32.toInt_minValue]; omega) (by rw [Int32.toInt_maxValue]; omega) (by rw [Int32.toInt_minValue]; omega) (by rw [Int32.toInt_maxValue]; omega), Int.tdiv_eq_ediv_of_nonneg hx.1]
  have h1 : 0 ≤ x / y := Int.ediv_nonneg hx.1 (by omega)
  have h2 : x / y ≤ x := Int.ediv_le_self _ hx.1
  exact toInt_ofInt32 (by unfold r32; omega)
theorem i_rem_p {x y : Int} (hx : 0 ≤ x ∧ x ≤ 2147483647) (hy : 1 ≤ y ∧ y ≤ 2147483647) : i_rem x y = x % y := by
  unfold i_rem
  rw [← Int32.ofInt_tdiv (by rw [Int32.toInt_minValue]; omega) (by rw [Int32.toInt_maxValue]; omega) (by rw [Int32.toInt_minValue]; omega) (by rw [Int32.toInt_maxValue]; omega), Int.tdiv_eq_ediv_of_nonneg hx.1, ← Int32.ofInt_mul, ← Int32.ofInt_sub]
  have h1 : x - x / y * y = x % y := by rw [Int.emod_def, Int.mul_comm]
  have h2 := Int.emod_nonneg x (show y ≠ 0 by omega)
  have h3 := Int.emod_lt_of_pos x (show 0 < y by omega)
  rw [h1]
  exact toInt_ofInt32 (by unfold r32; omega)
theorem l_div_p {x y : Int} (hx : 0 ≤ x ∧ x ≤ 9223372036854775807) (hy : 1 ≤ y ∧ y ≤ 9223372036854775807) : l_div x y = x / y := by
  unfold l_div
  rw [← Int64.ofInt_tdiv (by rw [Int64.toInt_minValue]; omega) (by rw [Int64.toInt_maxValue]; omega) (by rw [Int64.toInt_minValue]; omega) (by rw [Int64.toInt_maxValue]; omega), Int.tdiv_eq_ediv_of_nonneg hx.1]
  have h1 : 0 ≤ x / y := Int.ediv_nonneg hx.1 (by omega)
  have h2 : x / y ≤ x := Int.ediv_le_self _ hx.1
  exact toInt_ofInt64 (by unfold r64; omega)
theorem l_rem_p {x y : Int} (hx : 0 ≤ x ∧ x ≤ 9223372036854775807) (hy : 1 ≤ y ∧ y ≤ 9223372036854775807) : l_rem x y = x % y := by
  unfold l_rem
  rw [← Int64.ofInt_tdiv (by rw [Int64.toInt_minValue]; omega) (by rw [Int64.toInt_maxValue]; omega) (by rw [Int64.toInt_minValue]; omega) (by rw [Int64.toInt_maxValue]; omega), Int.tdiv_eq_ediv_of_nonneg hx.1, ← Int64.ofInt_mul, ← Int64.ofInt_sub]
  have h1 : x - x / y * y = x % y := by rw [Int.emod_def, Int.mul_comm]
  have h2 := Int.emod_nonneg x (show y ≠ 0 by omega)
  have h3 := Int.emod_lt_of_pos x (show 0 < y by omega)
  rw [h1]
  exact toInt_ofInt64 (by unfold r64; omega)
theorem r_nat {a : Nat} (h : a < 2147483648) : r32 (a : Int) := by unfold r32; omega
theorem i_or_nat {a b : Nat} (ha : a < 2147483648) (hb : b < 2147483648) : i_or (a : Int) (b : Int) = ((a ||| b : Nat) : Int) := by
  refine tb_ext (r32_or _ _) (r_nat (Nat.or_lt_two_pow (n := 31) ha hb)) (fun k hk => ?_)
  rw [tb_or, tb_nat k hk, tb_nat k hk, tb_nat k hk, Nat.testBit_or]
theorem i_shr_nat {a : Nat} (ha : a < 2147483648) {s : Nat} (hs : s < 32) : i_shr (a : Int) (s : Int) = ((a / 2 ^ s : Nat) : Int) := by
  have h1 : a / 2 ^ s ≤ a := Nat.div_le_self _ _
  refine tb_ext (r32_shr _ _) (r_nat (by omega)) (fun k hk => ?_)
  rw [tb_shr hs hk, tb_nat k hk, Nat.testBit_div_two_pow]
  by_cases e : s + k < 32
  · rw [if_pos e, tb_nat _ e, Nat.add_comm]
  · rw [if_neg e, tb_nat 31 (by omega)]
    rw [Nat.testBit_lt_two_pow (show a < 2 ^ 31 from ha)]
    symm
    exact Nat.testBit_lt_two_pow (Nat.lt_of_lt_of_le (show a < 2 ^ 31 from ha) (Nat.pow_le_pow_right (by decide) (by omega)))
theorem tb_shl {x : Int} {m k : Nat} (hm : m < 32) (hk : k < 32) : tb (i_shl x (m : Int)) k = (decide (m ≤ k) && tb x (k - m)) := by
  unfold tb i_shl
  rw [Int32_ofInt_toInt', ofInt_nI m (List.mem_range.mpr hm), b_shl m hm _ hk]
theorem i_shl_nat {a s : Nat} (hs : s < 32) (ha : a * 2 ^ s < 2147483648) : i_shl (a : Int) (s : Int) = ((a * 2 ^ s : Nat) : Int) := by
  refine tb_ext (r32_shl _ _) (r_nat ha) (fun k hk => ?_)
  rw [tb_shl hs hk, tb_nat k hk, Nat.mul_comm, Nat.testBit_two_pow_mul]
  by_cases e : s ≤ k
  · rw [tb_nat _ (by omega)]
  · simp [e]
theorem i_and_31 {a : Nat} (ha : a < 2147483648) : i_and (a : Int) 31 = ((a % 32 : Nat) : Int) := by
  have h := i_and_nat (a := a) (b := 31) ha (by omega)
  rw [show ((31 : Nat) : Int) = 31 from rfl] at h
  rw [h, show a &&& 31 = a % 32 from Nat.and_two_pow_sub_one_eq_mod a 5]
theorem tb_m31 : ∀ k ∈ List.range 32, tb 2147483647 k = decide (k < 31) := by decide +kernel
theorem tb_255 : ∀ k ∈ List.range 32, tb 255 k = decide (k < 8) := by decide +kernel
theorem and255_r (x : Int) : 0 ≤ i_and x 255 ∧ i_and x 255 ≤ 255 := by
  have h0 : 0 ≤ i_and x 255 := tb_nonneg (r32_and _ _) (by rw [tb_and, tb_255 31 (List.mem_range.mpr (by omega))]; simp)
  refine ⟨h0, ?_⟩
  have hlt : (i_and x 255).toNat < 2 ^ 8 := by
    refine Nat.lt_pow_two_of_testBit _ (fun k hk => ?_)
    by_cases hk2 : k < 32
    · rw [← tb_int h0 hk2, tb_and, tb_255 k (List.mem_range.mpr hk2), decide_eq_false (by omega), Bool.and_false]
    · refine Nat.testBit_lt_two_pow ?_
      have hx := r32_and x 255
      unfold r32 at hx
      exact Nat.lt_of_lt_of_le (show (i_and x 255).toNat < 2 ^ 32 by omega) (Nat.pow_le_pow_right (by decide) (by omega))
  omega
/-! ===== names: letters 1 .. 26; as the class and as the reference have them ===== -/
def okN (l : List Int) : Prop := l.length ≤ 4 ∧ ∀ x ∈ l, 1 ≤ x ∧ x ≤ 26
def cx : List Int → Int
  | [] => 0
  | a :: r => a + 32 * cx r
def cm (l : List Int) : Int := l.foldl (fun v x => 27 * v + x) 0
theorem cm_snoc (l : List Int) (x : Int) : cm (l ++ [x]) = 27 * cm l + x := by unfold cm; rw [List.foldl_append]; rfl
theorem cm_nil : cm [] = 0 := rfl
theorem cx_snoc : ∀ (l : List Int) (x : Int), cx (l ++ [x]) = cx l + x * 32 ^ l.length
  | [], x => by show x + 32 * 0 = 0 + x * 1; omega
  | a :: r, x => by
    have := cx_snoc r x
    show a + 32 * cx (r ++ [x]) = a + 32 * cx r + x * 32 ^ (r.length + 1)
    rw [this, Int.pow_succ, Int.mul_add, Int.add_assoc, Int.mul_comm 32 (x * 32 ^ r.length), Int.mul_assoc]
theorem cx_r : ∀ {l : List Int}, (∀ x ∈ l, 1 ≤ x ∧ x ≤ 26) → 0 ≤ cx l ∧ cx l < 32 ^ l.length
  | [], _ => ⟨Int.le_refl _, by decide⟩
  | a :: r, h => by
    have h1 := cx_r (l := r) (fun x hx => h x (List.mem_cons_of_mem _ hx))
    have h2 := h a List.mem_cons_self
    show 0 ≤ a + 32 * cx r ∧ a + 32 * cx r < 32 ^ (r.length + 1)
    rw [Int.pow_succ]
    omega
theorem cx_inj : ∀ {l l' : List Int}, (∀ x ∈ l, 1 ≤ x ∧ x ≤ 26) → (∀ x ∈ l', 1 ≤ x ∧ x ≤ 26) → cx l = cx l' → l = l'
  | [], [], _, _, _ => rfl
  | [], b :: s, _, h', e => by
    have h1 := cx_r (l := s) (fun x hx => h' x (List.mem_cons_of_mem _ hx))
    have h2 := h' b List.mem_cons_self
    have e2 : (0 : Int) = b + 32 * cx s := e
    omega
  | a :: r, [], h, _, e => by
    have h1 := cx_r (l := r) (fun x hx => h x (List.mem_cons_of_mem _ hx))
    have h2 := h a List.mem_cons_self
    have e2 : a + 32 * cx r = (0 : Int) := e
    omega
  | a :: r, b :: s, h, h', e => by
    have h1 := cx_r (l := r) (fun x hx => h x (List.mem_cons_of_mem _ hx))
    have h2 := h a List.mem_cons_self
    have h3 := cx_r (l := s) (fun x hx => h' x (List.mem_cons_of_mem _ hx))
    have h4 := h' b List.mem_cons_self
    have e2 : a + 32 * cx r = b + 32 * cx s := e
    have e3 : a = b := by omega
    have e4 := cx_inj (fun x hx => h x (List.mem_cons_of_mem _ hx)) (fun x hx => h' x (List.mem_cons_of_mem _ hx)) (show cx r = cx s by omega)
    rw [e3, e4]
/-- the first k letters, by the reference -/
theorem take_snoc {l : List Int} {k : Nat} (h : k < l.length) : l.take (k + 1) = l.take k ++ [l.getD k 0] := by
  rw [List.take_succ, List.getD_eq_getElem?_getD]
  rw [List.getElem?_eq_getElem h]
  rfl
theorem getD_mem {l : List Int} {k : Nat} (h : k < l.length) : l.getD k 0 ∈ l := by
  rw [List.getD_eq_getElem?_getD, List.getElem?_eq_getElem h]
  exact List.getElem_mem h
theorem cm_take {l : List Int} (ho : okN l) {k : Nat} (h : k < l.length) : cm (l.take (k + 1)) = 27 * cm (l.take k) + l.getD k 0 ∧ 1 ≤ l.getD k 0 ∧ l.getD k 0 ≤ 26 := by
  rw [take_snoc h, cm_snoc]
  exact ⟨rfl, ho.2 _ (getD_mem h)⟩
theorem cm_tr {l : List Int} (ho : okN l) : ∀ k : Nat, 0 ≤ cm (l.take k) ∧ cm (l.take k) ≤ 531440 ∧ (0 < k → 0 < l.length → 0 < cm (l.take k)) := by
  have key : ∀ k : Nat, k ≤ l.length → 0 ≤ cm (l.take k) ∧ cm (l.take k) < 27 ^ k ∧ (0 < k → 0 < cm (l.take k)) := by
    intro k
    induction k with
    | zero => intro _; rw [List.take_zero]; exact ⟨Int.le_refl _, by decide, fun h => by omega⟩
    | succ k ih =>
      intro hk
      have h1 := ih (by omega)
      have h2 := cm_take ho (k := k) (by omega)
      rw [Int.pow_succ]
      omega
  have h27 : ∀ k : Nat, k ≤ 4 → (27 : Int) ^ k ≤ 531441 := by
    intro k hk
    rcases (show k = 0 ∨ k = 1 ∨ k = 2 ∨ k = 3 ∨ k = 4 by omega) with e | e | e | e | e <;> rw [e] <;> decide
  intro k
  by_cases hk : k ≤ l.length
  · have h1 := key k hk
    have h2 := h27 k (by have := ho.1; omega)
    exact ⟨h1.1, by omega, fun h _ => h1.2.2 h⟩
  · have h1 := key l.length (Nat.le_refl _)
    have h2 := h27 l.length ho.1
    rw [List.take_length] at h1
    rw [List.take_of_length_le (by omega)]
    exact ⟨h1.1, by omega, fun _ h => h1.2.2 h⟩
theorem cm_inj : ∀ {k : Nat} {l l' : List Int}, okN l → okN l' → l.length ≤ k → cm l = cm l' → l = l' := by
  intro k
  induction k with
  | zero =>
    intro l l' h h' hl e
    have e0 : l = [] := List.length_eq_zero_iff.mp (by omega)
    subst e0
    rcases List.eq_nil_or_concat l' with e1 | ⟨m, x, e1⟩
    · exact e1.symm
    · have := (cm_tr h' l'.length).2.2
      rw [List.take_length] at this
      have e2 : (0 : Int) = cm l' := e
      have e3 : 0 < l'.length := by rw [e1]; simp
      have := this e3 e3
      omega
  | succ k ih =>
    intro l l' h h' hl e
    rcases List.eq_nil_or_concat l with e0 | ⟨m, x, e0⟩
    · exact ih h h' (by rw [e0]; simp) e
    · rcases List.eq_nil_or_concat l' with e1 | ⟨m', x', e1⟩
      · have := (cm_tr h l.length).2.2
        rw [List.take_length] at this
        have e2 : cm l = (0 : Int) := by rw [e, e1]; rfl
        have e3 : 0 < l.length := by rw [e0]; simp
        have := this e3 e3
        omega
      · rw [List.concat_eq_append] at e0 e1
        subst e0 e1
        rw [cm_snoc, cm_snoc] at e
        have hx := h.2 x (by simp)
        have hx' := h'.2 x' (by simp)
        have hm : okN m := ⟨by have := h.1; simp at this; omega, fun y hy => h.2 y (by simp [hy])⟩
        have hm' : okN m' := ⟨by have := h'.1; simp at this; omega, fun y hy => h'.2 y (by simp [hy])⟩
        have ex : x = x' := by omega
        have em := ih hm hm' (by simp at hl; omega) (by omega)
        rw [ex, em]
theorem cx_cm {l l' : List Int} (h : okN l) (h' : okN l') : cx l = cx l' ↔ cm l = cm l' :=
  ⟨fun e => by rw [cx_inj h.2 h'.2 e], fun e => by rw [cm_inj h h' (Nat.le_refl _) e]⟩
theorem cx_zero {l : List Int} (h : okN l) : cx l = 0 ↔ l = [] := ⟨fun e => cx_inj h.2 (fun x hx => by cases hx) e, fun e => by rw [e]; rfl⟩
theorem cx_small {l : List Int} (h : okN l) : 0 ≤ cx l ∧ cx l < 1048576 := by
  have h1 := cx_r h.2
  refine ⟨h1.1, Int.lt_of_lt_of_le h1.2 ?_⟩
  have := h.1
  rcases (show l.length = 0 ∨ l.length = 1 ∨ l.length = 2 ∨ l.length = 3 ∨ l.length = 4 by omega) with e | e | e | e | e <;> rw [e] <;> decide
/-- the class: letter k of a name -/
theorem cx_drop : ∀ (l : List Int) (k : Nat), (∀ x ∈ l, 1 ≤ x ∧ x ≤ 26) → cx l / 32 ^ k % 32 = l.getD k 0
  | [], k, _ => by simp [cx]
  | a :: r, 0, h => by
    have h2 := h a List.mem_cons_self
    show (a + 32 * cx r) / 32 ^ 0 % 32 = a
    rw [Int.pow_zero, Int.ediv_one]
    omega
  | a :: r, k + 1, h => by
    have h2 := h a List.mem_cons_self
    have ih := cx_drop r k (fun x hx => h x (List.mem_cons_of_mem _ hx))
    show (a + 32 * cx r) / 32 ^ (k + 1) % 32 = r.getD k 0
    rw [Int.pow_succ, Int.mul_comm (32 ^ k) 32, ← Int.ediv_ediv_of_nonneg (by decide), show (a + 32 * cx r) / 32 = cx r by omega]
    exact ih
theorem S_letterOf {l : List Int} {k : Int} {v : VT} {q : Int → Prop} (h : okN l) (hk : 0 ≤ k ∧ k < 4) (hq : q (l.getD k.toNat 0)) : P_X10_letterOf (cx l) k v q := by
  unfold P_X10_letterOf
  refine ⟨by omega, ?_⟩
  have h1 := cx_small h
  have e1 : cx l = ((cx l).toNat : Int) := (Int.toNat_of_nonneg h1.1).symm
  have e2 : 5 * k = ((5 * k.toNat : Nat) : Int) := by omega
  have e3 := cx_drop l k.toNat h.2
  have hd : (cx l).toNat / 2 ^ (5 * k.toNat) ≤ (cx l).toNat := Nat.div_le_self _ _
  have hlt : (cx l).toNat < 2147483648 := by omega
  have e4 : i_and (i_shr (cx l) (5 * k)) 31 = (((cx l).toNat / 2 ^ (5 * k.toNat) % 32 : Nat) : Int) := by
    have g1 : i_shr (cx l) (5 * k) = (((cx l).toNat / 2 ^ (5 * k.toNat) : Nat) : Int) := by
      have := i_shr_nat (a := (cx l).toNat) hlt (s := 5 * k.toNat) (by omega)
      rw [← e1, ← e2] at this
      exact this
    rw [g1, i_and_31 (by omega)]
  rw [e4]
  have e5 : (((cx l).toNat / 2 ^ (5 * k.toNat) % 32 : Nat) : Int) = cx l / 32 ^ k.toNat % 32 := by
    rw [Int.natCast_emod, Int.natCast_ediv, ← e1, Nat.pow_mul, Int.natCast_pow]
    rfl
  rw [e5, e3]
  exact hq

/-! ===== names of nodes; words on the tape ===== -/
def isF (n : Int) (N : Int → List Int) (w : List Int) (r : Int) : Prop := (0 ≤ r ∧ r < n) ∧ N r = w ∧ ∀ j : Int, 0 ≤ j → j < r → N j ≠ w
noncomputable def fN (n : Int) (N : Int → List Int) (w : List Int) : Int := @ite _ (∃ r, isF n N w r) (Classical.propDecidable _) (Classical.epsilon (isF n N w)) (-1)
theorem isF_one {n : Int} {N : Int → List Int} {w : List Int} {r r' : Int} (h : isF n N w r) (h' : isF n N w r') : r = r' := by
  rcases Int.lt_trichotomy r r' with q | q | q
  · exact absurd h.2.1 (h'.2.2 r h.1.1 q)
  · exact q
  · exact absurd h'.2.1 (h.2.2 r' h'.1.1 q)
theorem fN_is {n : Int} {N : Int → List Int} {w : List Int} {r : Int} (h : isF n N w r) : fN n N w = r := by
  unfold fN
  rw [if_pos ⟨r, h⟩]
  exact isF_one (Classical.epsilon_spec (p := isF n N w) ⟨r, h⟩) h
theorem fN_no {n : Int} {N : Int → List Int} {w : List Int} (h : ∀ i : Int, 0 ≤ i → i < n → N i ≠ w) : fN n N w = -1 := by
  unfold fN
  rw [if_neg (fun ⟨r, h1, h2, _⟩ => h r h1.1 h1.2 h2)]
theorem fN_r (n : Int) (N : Int → List Int) (w : List Int) : (fN n N w = -1 ∧ ∀ i : Int, 0 ≤ i → i < n → N i ≠ w) ∨ isF n N w (fN n N w) := by
  by_cases h : ∃ r, isF n N w r
  · obtain ⟨r, h⟩ := h
    exact Or.inr (by rw [fN_is h]; exact h)
  · have : ∀ i : Int, 0 ≤ i → i < n → N i ≠ w := by
      intro i i0 i1 e
      obtain ⟨k, k1, k2⟩ := ex_least (p := fun k : Nat => (k : Int) < n ∧ N (k : Int) = w) ⟨i.toNat, by rw [Int.toNat_of_nonneg i0]; exact ⟨i1, e⟩⟩
      exact h ⟨(k : Int), ⟨by omega, k1.1⟩, k1.2, fun j j0 j1 e2 => k2 j.toNat (by omega) (by rw [Int.toNat_of_nonneg j0]; exact ⟨by omega, e2⟩)⟩
    exact Or.inl ⟨fN_no this, this⟩
section Names
variable {n : Int} {N : Int → List Int} {v : VT}
theorem S_findName {g : Nat} {w : List Int} {q : Int → Prop} (hn : 0 ≤ n ∧ n ≤ 24) (hg : v g 0 = n) (hN : ∀ i : Int, 0 ≤ i → i < n → okN (N i) ∧ v (g + 1) i.toNat = cx (N i)) (ho : okN w) (hw : w ≠ []) (hq : q (fN n N w)) : P_X0_findName g (cx w) v q := by
  unfold P_X0_findName
  rw [hg]
  intro X2 hX2
  refine up1 (X := X2) n (fun i => 0 ≤ i ∧ ∀ j : Int, 0 ≤ j → j < i → N j ≠ w) ?_ hn.1 ⟨by omega, fun j j0 j1 => by omega⟩
  intro i hle ⟨i0, hb⟩ hnext
  apply hX2
  refine ⟨fun h => absurd ((cx_zero ho).mp h) hw, fun _ => ⟨fun hc => ?_, fun hc => ?_⟩⟩
  · rw [fN_no (fun j j0 j1 => hb j j0 (by omega))] at hq; exact hq
  · have hNi := hN i i0 hc
    rw [hNi.2]
    refine ⟨by omega, fun hne => ⟨by omega, hnext hc ⟨by omega, fun j j0 j1 => ?_⟩⟩, fun he => ?_⟩
    · by_cases e : j = i
      · rw [e]; exact fun h => hne (by rw [h])
      · exact hb j j0 (by omega)
    · rw [fN_is ⟨⟨i0, hc⟩, cx_inj hNi.1.2 ho.2 he, hb⟩] at hq; exact hq
theorem S_findName0 {g : Nat} {q : Int → Prop} (hq : q (-1)) : P_X0_findName g 0 v q := by
  unfold P_X0_findName
  intro X2 hX2
  apply hX2
  exact ⟨fun _ => hq, fun h => absurd rfl h⟩
theorem S_nodeNamed {g : Nat} {w : List Int} {q : Int → Prop} (hn : 0 ≤ n ∧ n ≤ 24) (hg : v g 0 = n) (hN : ∀ i : Int, 0 ≤ i → i < n → okN (N i) ∧ v g (2 + i).toNat = cm (N i)) (ho : okN w) (hq : q (fN n N w)) : P_X11_nodeNamed g (cm w) v q := by
  unfold P_X11_nodeNamed
  rw [hg]
  intro X2 hX2
  refine up1 (X := X2) n (fun i => 0 ≤ i ∧ ∀ j : Int, 0 ≤ j → j < i → N j ≠ w) ?_ hn.1 ⟨by omega, fun j j0 j1 => by omega⟩
  intro i hle ⟨i0, hb⟩ hnext
  apply hX2
  refine ⟨fun hc => ?_, fun hc => ?_⟩
  · rw [fN_no (fun j j0 j1 => hb j j0 (by omega))] at hq; exact hq
  · have hNi := hN i i0 hc
    rw [hNi.2]
    refine ⟨by omega, by omega, fun hne => ⟨by omega, hnext hc ⟨by omega, fun j j0 j1 => ?_⟩⟩, fun he => ?_⟩
    · by_cases e : j = i
      · rw [e]; exact fun h => hne (by rw [h])
      · exact hb j j0 (by omega)
    · rw [fN_is ⟨⟨i0, hc⟩, cm_inj hNi.1 ho (Nat.le_refl _) he, hb⟩] at hq; exact hq
def sp_letter (n : Int) (N : Int → List Int) (x k : Int) : Int := if (0 ≤ x ∧ x < n) ∧ 0 ≤ k ∧ k < 4 then (N x).getD k.toNat 0 else -1
theorem SX_letter {x k : Int} {q : Int → Prop} (hn : 0 ≤ n ∧ n ≤ 24) (hg : v 10 0 = n) (hN : ∀ i : Int, 0 ≤ i → i < n → okN (N i) ∧ v 11 i.toNat = cx (N i)) (hq : q (sp_letter n N x k)) : P_X10_letter x k v q := by
  unfold P_X10_letter P_X0_isNode
  rw [hg]
  unfold sp_letter at hq
  have no : ¬ ((0 ≤ x ∧ x < n) ∧ 0 ≤ k ∧ k < 4) → q (-1) := fun h => by rwa [if_neg h] at hq
  refine ⟨fun h => ⟨fun _ => no (by omega), fun g => absurd rfl g⟩, fun h => ⟨fun h2 => ⟨fun _ => no (by omega), fun g => absurd rfl g⟩, fun h2 => ⟨fun g => absurd g (by decide), fun _ => ⟨fun h3 => no (by omega), fun h3 => ⟨fun h4 => ⟨by omega, ?_⟩, fun h4 => no (by omega)⟩⟩⟩⟩⟩
  have hx := hN x h h2
  rw [hx.2]
  rw [if_pos ⟨⟨h, h2⟩, h3, h4⟩] at hq
  exact S_letterOf hx.1 ⟨h3, h4⟩ hq
theorem SM_letter {x k : Int} {q : Int → Prop} (hn : 0 ≤ n ∧ n ≤ 24) (hg : v 222 0 = n) (hN : ∀ i : Int, 0 ≤ i → i < n → okN (N i) ∧ v 222 (2 + i).toNat = cm (N i)) (hq : q (sp_letter n N x k)) : P_X11_letter x k v q := by
  unfold P_X11_letter P_X11_isNode
  rw [hg]
  unfold sp_letter at hq
  have no : ¬ ((0 ≤ x ∧ x < n) ∧ 0 ≤ k ∧ k < 4) → q (-1) := fun h => by rwa [if_neg h] at hq
  refine ⟨by omega, S_isIn (fun h => ⟨Or.inl rfl, fun _ => no (by omega), fun g => absurd rfl g⟩) (fun h => ⟨Or.inr rfl, fun g => absurd g (by decide), fun _ => ?_⟩)⟩
  refine S_isIn (fun h2 => ⟨fun g => absurd rfl g, fun _ => no (by omega)⟩) (fun h2 => ⟨fun _ => ⟨by omega, by omega, fun l3 e3 => ?_⟩, fun g => absurd g (by decide)⟩)
  have hx := hN x h.1 (by omega)
  rw [if_pos (by omega)] at hq
  rw [hx.2] at e3
  generalize N x = l at *
  have hl := hx.1.1
  subst e3
  intro K55 hK55 X37 hX37
  refine wh2 (X := X37) (fun i4 i5 => ∃ j : Nat, j ≤ l.length ∧ i4 = (j : Int) ∧ i5 = cm (l.take (l.length - j))) (fun i4 _ => (4 - i4).toNat) ?_ ⟨0, by omega, rfl, by rw [Nat.sub_zero, List.take_length]⟩
  intro i4 i5 ⟨j, j1, j2, j3⟩ hnext
  apply hX37
  have hr := cm_tr hx.1 (l.length - j)
  refine ⟨fun hc => ?_, fun hc => ⟨by omega, fun l5 e5 => ?_⟩⟩
  · have ej : j = l.length := by
      rcases Nat.lt_or_ge j l.length with g | g
      · have := hr.2.2 (by omega) (by omega); omega
      · omega
    apply hK55
    refine ⟨by omega, fun X61 hX61 => ?_⟩
    refine wh2 (X := X61) (fun i3 i5 => i5 < l.length ∧ -1 ≤ i5 ∧ i3 = cm (l.take (i5 + 1).toNat) ∧ (k < l.length → k ≤ i5)) (fun _ i5 => (i5 + 1).toNat) ?_ ⟨by omega, by omega, ?_, by omega⟩
    · intro i3 i5' ⟨a1, a2, a3, a4⟩ hnext2
      apply hX61
      refine ⟨fun h5 => ⟨fun h6 => ?_, fun h6 => ?_⟩, fun h5 => ⟨by omega, ?_⟩⟩
      · rw [List.getD_eq_getElem?_getD, List.getElem?_eq_none (by omega)] at hq; exact hq
      · have ek : i5' = k := by have := a4 (by omega); omega
        have ht := cm_take hx.1 (k := k.toNat) (by omega)
        have hr2 := cm_tr hx.1 k.toNat
        have hr3 := cm_tr hx.1 (k.toNat + 1)
        rw [a3, ek, show (k + 1).toNat = k.toNat + 1 by omega, i_rem_p (by omega) (by omega), ht.1, show (27 * cm (l.take k.toNat) + l.getD k.toNat 0) % 27 = l.getD k.toNat 0 by omega]
        exact hq
      · have ht := cm_take hx.1 (k := i5'.toNat) (by omega)
        have hr2 := cm_tr hx.1 i5'.toNat
        have hr3 := cm_tr hx.1 (i5'.toNat + 1)
        refine hnext2 _ _ ⟨by omega, by omega, ?_, fun _ => by omega⟩ (by omega)
        rw [a3, show (i5' + 1).toNat = i5'.toNat + 1 by omega, i_div_p (by omega) (by omega), ht.1, show (i5' + -1 + 1).toNat = i5'.toNat by omega]
        omega
    · rw [j2, ej, show ((l.length : Int) - 1 + 1).toNat = l.length by omega, List.take_length]
  · have jlt : j < l.length := by
      rcases Nat.lt_or_ge j l.length with g | g
      · exact g
      · have e : l.length - j = 0 := by omega
        rw [e, List.take_zero] at j3
        have : i5 = 0 := j3
        omega
    have ht := cm_take hx.1 (k := l.length - j - 1) (by omega)
    have hr2 := cm_tr hx.1 (l.length - j - 1)
    rw [show l.length - j - 1 + 1 = l.length - j by omega] at ht
    refine hnext _ _ ⟨j + 1, by omega, by omega, ?_⟩ (by omega)
    rw [e5, j3, i_div_p (by omega) (by omega), ht.1, show l.length - (j + 1) = l.length - j - 1 by omega]
    omega
end Names
/-! ===== words on the tape ===== -/
def isLt (c : Int) : Prop := 97 ≤ c ∧ c ≤ 122
def wrd (b : Int → Int) (p : Int) (k : Nat) : List Int := (List.range k).map (fun (i : Nat) => b (p + (i : Int)) - 96)
theorem wrd_len (b : Int → Int) (p : Int) (k : Nat) : (wrd b p k).length = k := by unfold wrd; rw [List.length_map, List.length_range]
theorem wrd_succ (b : Int → Int) (p : Int) (k : Nat) : wrd b p (k + 1) = wrd b p k ++ [b (p + (k : Int)) - 96] := by unfold wrd; rw [List.range_succ, List.map_append]; rfl
theorem wrd_ok {b : Int → Int} {p : Int} {k : Nat} (h4 : k ≤ 4) (h : ∀ i : Nat, i < k → isLt (b (p + (i : Int)))) : okN (wrd b p k) := by
  refine ⟨by rw [wrd_len]; exact h4, fun x hx => ?_⟩
  unfold wrd at hx
  rw [List.mem_map] at hx
  obtain ⟨i, i1, i2⟩ := hx
  have := h i (List.mem_range.mp i1)
  unfold isLt at this
  omega
/-- the letters that stand from p on -/
def isRun (m : Int) (b : Int → Int) (p : Int) (k : Nat) : Prop := p + (k : Int) ≤ m ∧ (∀ i : Nat, i < k → isLt (b (p + (i : Int)))) ∧ (p + (k : Int) = m ∨ ¬ isLt (b (p + (k : Int))))
theorem isRun_one {m : Int} {b : Int → Int} {p : Int} {k k' : Nat} (h : isRun m b p k) (h' : isRun m b p k') : k = k' := by
  have key : ∀ {k k' : Nat}, isRun m b p k → isRun m b p k' → ¬ k < k' := by
    intro k k' h h' hlt
    rcases h.2.2 with e | e
    · have := h'.1; omega
    · exact e (h'.2.1 k hlt)
  have := key h h'
  have := key h' h
  omega
theorem isRun_ex {m : Int} (b : Int → Int) {p : Int} (h : p ≤ m) : ∃ k, isRun m b p k := by
  obtain ⟨k, k1, k2⟩ := ex_least (p := fun k : Nat => p + (k : Int) = m ∨ ¬ isLt (b (p + (k : Int)))) ⟨(m - p).toNat, Or.inl (by omega)⟩
  have hle : ∀ j : Nat, j ≤ k → p + (j : Int) ≤ m := by
    intro j
    induction j with
    | zero => intro _; omega
    | succ j ih =>
      intro hj
      have h1 := ih (by omega)
      have h2 : p + (j : Int) ≠ m := fun e => k2 j (by omega) (Or.inl e)
      omega
  exact ⟨k, hle k (Nat.le_refl _), fun i hi' => Classical.byContradiction (fun hc => k2 i hi' (Or.inr hc)), k1⟩
def isTp (v : VT) (m : Int) (b : Int → Int) : Prop := v 1 1 = m ∧ (0 ≤ m ∧ m ≤ 800) ∧ ∀ i : Int, 0 ≤ i → i < m → v 2 i.toNat = b i ∧ 0 ≤ b i ∧ b i ≤ 255
theorem isTp_frame {v v' : VT} {m : Int} {b : Int → Int} (h : isTp v m b) (h1 : v' 1 = v 1) (h2 : v' 2 = v 2) : isTp v' m b := by
  unfold isTp; rw [h1, h2]; exact h
theorem S_byteAt {v : VT} {m p : Int} {b : Int → Int} {q : Int → Prop} (h : isTp v m b) (hp : 0 ≤ p ∧ p < m) (hq : q (b p)) : P_X9_byteAt p v q := by
  unfold P_X9_byteAt
  rw [h.1, (h.2.2 p hp.1 hp.2).1]
  have := h.2.1
  exact ⟨fun g => by omega, fun _ => ⟨fun g => by omega, fun _ => ⟨by omega, hq⟩⟩⟩
theorem S_byteAt0 {v : VT} {m p : Int} {b : Int → Int} {q : Int → Prop} (h : isTp v m b) (hp : ¬ (0 ≤ p ∧ p < m)) (hq : q (-1)) : P_X9_byteAt p v q := by
  unfold P_X9_byteAt
  rw [h.1]
  exact ⟨fun g => hq, fun _ => ⟨fun g => hq, fun _ => by omega⟩⟩
theorem cx_or {l : List Int} {c : Int} {k : Nat} (h : ∀ x ∈ l, 1 ≤ x ∧ x ≤ 26) (hl : l.length = k) (hk : k < 4) (hc : 1 ≤ c ∧ c ≤ 26) : i_or (cx l) (i_shl c (5 * (k : Int))) = cx (l ++ [c]) := by
  have h1 := cx_r h
  have h3 := cx_small (l := l) ⟨by omega, h⟩
  rw [hl] at h1
  have e1 : cx l = ((cx l).toNat : Int) := (Int.toNat_of_nonneg h1.1).symm
  have e2 : c = (c.toNat : Int) := (Int.toNat_of_nonneg (by omega)).symm
  have p5 : 2 ^ (5 * k) = 32 ^ k := by rw [Nat.pow_mul]
  have h32 : (32 : Nat) ^ k ≤ 32768 := by
    rcases (show k = 0 ∨ k = 1 ∨ k = 2 ∨ k = 3 by omega) with e | e | e | e <;> rw [e] <;> decide
  have hlt : (cx l).toNat < 2 ^ (5 * k) := by
    rw [p5]
    have : ((cx l).toNat : Int) < ((32 ^ k : Nat) : Int) := by rw [← e1, Int.natCast_pow]; exact h1.2
    omega
  have hm : c.toNat * 2 ^ (5 * k) < 2147483648 := by
    rw [p5]
    have : c.toNat * 32 ^ k ≤ 26 * 32768 := Nat.mul_le_mul (by omega) h32
    omega
  have s1 : i_shl c (5 * (k : Int)) = ((c.toNat * 2 ^ (5 * k) : Nat) : Int) := by
    have := i_shl_nat (a := c.toNat) (s := 5 * k) (by omega) hm
    rw [← e2, show ((5 * k : Nat) : Int) = 5 * (k : Int) by omega] at this
    exact this
  have s2 : i_or (cx l) ((c.toNat * 2 ^ (5 * k) : Nat) : Int) = (((cx l).toNat ||| c.toNat * 2 ^ (5 * k) : Nat) : Int) := by
    have := i_or_nat (a := (cx l).toNat) (b := c.toNat * 2 ^ (5 * k)) (by omega) hm
    rw [← e1] at this
    exact this
  rw [s1, s2, Nat.or_comm, Nat.mul_comm, ← Nat.two_pow_add_eq_or_of_lt hlt, cx_snoc, hl, p5]
  rw [Int.natCast_add, Int.natCast_mul, ← e1, ← e2, Int.natCast_pow]
  show (32 : Int) ^ k * c + cx l = _
  rw [Int.mul_comm, Int.add_comm]
theorem S_readWord {v : VT} {m p : Int} {b : Int → Int} {q : VT → Prop} (h : isTp v m b) (hp : v 3 4 = p) (hp2 : 0 ≤ p ∧ p ≤ m)
    (hq : ∀ (v' : VT) (k : Nat), (∀ a, a ≠ 3 → v' a = v a) → (∀ j, j ≠ 4 → j ≠ 5 → j ≠ 6 → j ≠ 7 → v' 3 j = v 3 j) → v' 3 5 = p → v' 3 6 = (k : Int) → v' 3 4 = p + (k : Int) → v' 3 7 = cx (wrd b p (min k 4)) → isRun m b p k → q v') : P_X5_readWord v q := by
  unfold P_X5_readWord
  intro v5 e5 v10 e10 v15 e15 X18 hX18
  have f15 : ∀ a, a ≠ 3 → v15 a = v a := fun a ha => by rw [e15, upd2_off _ _ _ ha, e10, upd2_off _ _ _ ha, e5, upd2_off _ _ _ ha]
  refine wh1 (X := X18) (fun v18 => (∀ a, a ≠ 3 → v18 a = v a) ∧ (∀ j, j ≠ 4 → j ≠ 5 → j ≠ 6 → j ≠ 7 → v18 3 j = v 3 j) ∧ v18 3 5 = p ∧ ∃ k : Nat, v18 3 6 = (k : Int) ∧ v18 3 4 = p + (k : Int) ∧ p + (k : Int) ≤ m ∧ (∀ i : Nat, i < k → isLt (b (p + (i : Int)))) ∧ v18 3 7 = cx (wrd b p (min k 4))) (fun v18 => (m - v18 3 4).toNat) ?_ ⟨f15, fun j j4 j5 j6 j7 => ?_, ?_, 0, ?_, ?_, by omega, fun i hi' => by omega, ?_⟩
  · intro v18 ⟨hf, hj, h5, k, k6, k4, kle, kl, k7⟩ hnext
    have t18 : isTp v18 m b := isTp_frame h (hf 1 (by omega)) (hf 2 (by omega))
    apply hX18
    rw [t18.1, k4]
    refine ⟨fun hc => hq v18 k hf hj h5 k6 k4 k7 ⟨kle, kl, Or.inl (by omega)⟩, fun hc => ?_⟩
    have hpk : 0 ≤ p + (k : Int) ∧ p + (k : Int) < m := by omega
    refine S_byteAt t18 hpk ⟨fun h1 => hq v18 k hf hj h5 k6 k4 k7 ⟨kle, kl, Or.inr (fun g => by unfold isLt at g; omega)⟩, fun h1 => ?_⟩
    refine S_byteAt t18 hpk ⟨fun h2 => hq v18 k hf hj h5 k6 k4 k7 ⟨kle, kl, Or.inr (fun g => by unfold isLt at g; omega)⟩, fun h2 => ?_⟩
    intro K92 hK92
    have hm := h.2.1
    have kl2 : ∀ i : Nat, i < k + 1 → isLt (b (p + (i : Int))) := fun i hi' => by
      by_cases e : i = k
      · rw [e]; exact ⟨h1, h2⟩
      · exact kl i (by omega)
    have tl : ∀ v92 : VT, (∀ a, a ≠ 3 → v92 a = v a) → (∀ j, j ≠ 4 → j ≠ 5 → j ≠ 6 → j ≠ 7 → v92 3 j = v 3 j) → v92 3 5 = p → v92 3 6 = (k : Int) → v92 3 4 = p + (k : Int) → v92 3 7 = cx (wrd b p (min (k + 1) 4)) → K92 v92 := by
      intro v92 g1 g2 g3 g4 g5 g6
      apply hK92
      rw [g4]
      refine ⟨by omega, fun v99 e99 => ?_⟩
      have n4 : v99 3 4 = p + (k : Int) := by rw [e99, upd2_j, if_neg (by decide)]; exact g5
      rw [n4]
      refine ⟨by omega, fun v109 e109 => hnext _ ⟨fun a ha => ?_, fun j j4 j5 j6 j7 => ?_, ?_, k + 1, ?_, ?_, by omega, kl2, ?_⟩ ?_⟩
      · rw [e109, upd2_off _ _ _ ha, e99, upd2_off _ _ _ ha]; exact g1 a ha
      · rw [e109, upd2_j, if_neg j4, e99, upd2_j, if_neg j6]; exact g2 j j4 j5 j6 j7
      · rw [e109, upd2_j, if_neg (by decide), e99, upd2_j, if_neg (by decide)]; exact g3
      · rw [e109, upd2_j, if_neg (by decide), e99, upd2_same]; omega
      · rw [e109, upd2_same]; omega
      · rw [e109, upd2_j, if_neg (by decide), e99, upd2_j, if_neg (by decide)]; exact g6
      · rw [e109, upd2_same]; omega
    rw [k6]
    refine ⟨fun h4 => tl v18 hf hj h5 k6 k4 (by rw [k7, show min (k + 1) 4 = min k 4 by omega]), fun h4 => ?_⟩
    refine S_byteAt t18 hpk ⟨by omega, by omega, by omega, fun v89 e89 => tl v89 (fun a ha => ?_) (fun j j4 j5 j6 j7 => ?_) ?_ ?_ ?_ ?_⟩
    · rw [e89, upd2_off _ _ _ ha]; exact hf a ha
    · rw [e89, upd2_j, if_neg j7]; exact hj j j4 j5 j6 j7
    · rw [e89, upd2_j, if_neg (by decide)]; exact h5
    · rw [e89, upd2_j, if_neg (by decide)]; exact k6
    · rw [e89, upd2_j, if_neg (by decide)]; exact k4
    · rw [e89, upd2_same, k7, show min (k + 1) 4 = k + 1 by omega, show min k 4 = k by omega, wrd_succ]
      have hok := wrd_ok (b := b) (p := p) (k := k) (by omega) kl
      rw [show b (p + (k : Int)) - 97 + 1 = b (p + (k : Int)) - 96 by omega]
      exact cx_or hok.2 (wrd_len b p k) (by omega) (by omega)
  · rw [e15, upd2_j, if_neg j7, e10, upd2_j, if_neg j6, e5, upd2_j, if_neg j5]
  · rw [e15, upd2_j, if_neg (by decide), e10, upd2_j, if_neg (by decide), e5, upd2_same]; exact hp
  · rw [e15, upd2_j, if_neg (by decide), e10, upd2_same]; rfl
  · rw [e15, upd2_j, if_neg (by decide), e10, upd2_j, if_neg (by decide), e5, upd2_j, if_neg (by decide), hp]; omega
  · rw [e15, upd2_same]; rfl

/-! ===== sets of nodes as bits ===== -/
def bsf (p : Nat → Bool) : Nat → Int
  | 0 => 0
  | k + 1 => if p k = true then i_or (bsf p k) (i_shl 1 (k : Int)) else bsf p k
theorem bsf_r (p : Nat → Bool) : ∀ n, r32 (bsf p n)
  | 0 => r32_0
  | k + 1 => by
    unfold bsf
    split
    · exact r32_or _ _
    · exact bsf_r p k
theorem bsf_tb (p : Nat → Bool) (j : Nat) : ∀ n, n ≤ 32 → tb (bsf p n) j = (decide (j < n) && p j)
  | 0, _ => by rw [show bsf p 0 = 0 from rfl, tb_0]; simp
  | k + 1, h => by
    have ih := bsf_tb p j k (by omega)
    unfold bsf
    by_cases hp : p k = true
    · rw [if_pos hp, tb_or, ih, tb_shl1 (by omega)]
      by_cases hj : j = k
      · subst hj; simp [hp]
      · by_cases hlt : j < k
        · simp [hlt, hj, Nat.lt_succ_of_lt hlt]
        · simp [hlt, hj, show ¬ j < k + 1 by omega]
    · rw [if_neg hp, ih]
      by_cases hj : j = k
      · subst hj
        have : p j = false := by cases h : p j <;> simp_all
        simp [this]
      · by_cases hlt : j < k
        · simp [hlt, Nat.lt_succ_of_lt hlt]
        · simp [hlt, show ¬ j < k + 1 by omega]

noncomputable def bs (n : Int) (p : Int → Prop) : Int := bsf (fun k => @decide (p (k : Int)) (Classical.propDecidable _)) n.toNat
theorem bs_r (n : Int) (p : Int → Prop) : r32 (bs n p) := bsf_r _ _
theorem bs_tb {n : Int} (h : n ≤ 32) (p : Int → Prop) (k : Nat) : tb (bs n p) k = true ↔ (k : Int) < n ∧ p (k : Int) := by
  unfold bs
  rw [bsf_tb _ _ _ (by omega)]
  simp only [Bool.and_eq_true, decide_eq_true_eq]
  constructor
  · rintro ⟨h1, h2⟩; exact ⟨by omega, h2⟩
  · rintro ⟨h1, h2⟩; exact ⟨by omega, h2⟩
theorem bs_eq {n x : Int} (hn : n ≤ 32) {p : Int → Prop} (hx : r32 x) (h : ∀ k : Nat, k < 32 → (tb x k = true ↔ (k : Int) < n ∧ p (k : Int))) : x = bs n p := by
  refine tb_ext hx (bs_r n p) (fun k hk => ?_)
  have h1 := h k hk
  have h2 := bs_tb hn p k
  cases e1 : tb x k <;> cases e2 : tb (bs n p) k <;> simp_all
theorem bs_congr {n : Int} {p p' : Int → Prop} (hn : n ≤ 32) (h : ∀ k : Int, 0 ≤ k → k < n → (p k ↔ p' k)) : bs n p = bs n p' := by
  refine bs_eq hn (bs_r n p) (fun k hk => ?_)
  rw [bs_tb hn]
  constructor
  · rintro ⟨h1, h2⟩; exact ⟨h1, (h _ (by omega) h1).mp h2⟩
  · rintro ⟨h1, h2⟩; exact ⟨h1, (h _ (by omega) h1).mpr h2⟩
/-! ===== a network in the class's cells; what 'measure' leaves ===== -/
def xG (v : VT) (g : Nat) (n : Int) (L : List Ln) : Prop := v g 0 = n ∧ v g 1 = L.length ∧ ∀ k : Int, 0 ≤ k → k < L.length → v (g + 2) k.toNat = lo L k ∧ v (g + 3) k.toNat = hi L k ∧ v (g + 4) k.toNat = pr L k
def conn (n : Int) (L : List Ln) : Prop := ∀ a b : Int, 0 ≤ a → a < n → 0 ≤ b → b < n → 0 ≤ dd L a b
def mt (v : VT) (n : Int) (L : List Ln) : Prop :=
  v 138 2 = n ∧ (∀ a : Int, 0 ≤ a → a < n → r32 (v 139 a.toNat) ∧ ∀ k : Nat, tb (v 139 a.toNat) k = true ↔ adj L a (k : Int)) ∧
  (∀ a b : Int, 0 ≤ a → a < n → 0 ≤ b → b < n → v (141 + a.toNat) b.toNat = dd L a b) ∧ (v 138 1 = 0 ∨ v 138 1 = 1) ∧ (v 138 1 = 1 ↔ conn n L)
theorem xG_10 {v : VT} {n : Int} {L : List Ln} (h : xG v 10 n L) : v 10 0 = n ∧ v 10 1 = L.length ∧ ∀ k : Int, 0 ≤ k → k < L.length → v 12 k.toNat = lo L k ∧ v 13 k.toNat = hi L k ∧ v 14 k.toNat = pr L k := h
theorem S_measure {n : Int} {L : List Ln} {v : VT} {q : VT → Prop} (w : wfL n L) (hn : 0 ≤ n ∧ n ≤ 24) (hg : xG v 10 n L)
    (hq : ∀ v' : VT, (∀ a, ¬ ((138 ≤ a ∧ a ≤ 139) ∨ (141 ≤ a ∧ a ≤ 164)) → v' a = v a) → v' 138 0 = 1 → v' 138 6 = 0 → mt v' n L → q v') : P_X2_measure v q := by
  obtain ⟨g0, g1, g2⟩ := xG_10 hg
  have hlen := w.2.2
  unfold P_X2_measure
  intro v5 e5 v10 e10 v15 e15 K41 hK41 X20 hX20
  have f15 : ∀ a, a ≠ 138 → v15 a = v a := fun a ha => by rw [e15, upd2_off _ _ _ ha, e10, upd2_off _ _ _ ha, e5, upd2_off _ _ _ ha]
  have a2 : v15 138 2 = n := by rw [e15, upd2_j, if_neg (by decide), e10, upd2_j, if_neg (by decide), e5, upd2_same, g0]
  have a1 : v15 138 1 = 1 := by rw [e15, upd2_j, if_neg (by decide), e10, upd2_same]
  have a6 : v15 138 6 = 0 := by rw [e15, upd2_same]
  have r1 : ∀ v41 : VT, (∀ a, a ≠ 138 → a ≠ 139 → v41 a = v a) → v41 138 = v15 138 → (∀ a : Int, 0 ≤ a → a < n → v41 139 a.toNat = 0) → K41 v41 := by
    intro v41 hf h138 hz
    apply hK41
    intro K101 hK101 X43 hX43
    have r2 : ∀ v101 : VT, (∀ a, a ≠ 138 → a ≠ 139 → v101 a = v a) → v101 138 = v15 138 → (∀ a : Int, 0 ≤ a → a < n → r32 (v101 139 a.toNat) ∧ ∀ k : Nat, tb (v101 139 a.toNat) k = true ↔ adj L a (k : Int)) → K101 v101 := by
      intro v101 hf h138 hnear
      apply hK101
      intro X103 hX103
      refine up2 (X := X103) n (fun i v103 => 0 ≤ i ∧ (∀ a, a ≠ 138 → ¬ (141 ≤ a ∧ a ≤ 164) → v103 a = v101 a) ∧ (∀ j, j ≠ 1 → v103 138 j = v101 138 j) ∧ (∀ a b : Int, 0 ≤ a → a < i → 0 ≤ b → b < n → v103 (141 + a.toNat) b.toNat = dd L a b) ∧ (v103 138 1 = 0 ∨ v103 138 1 = 1) ∧ (v103 138 1 = 1 ↔ ∀ a b : Int, 0 ≤ a → a < i → 0 ≤ b → b < n → 0 ≤ dd L a b)) ?_ (by omega) ⟨by omega, fun a _ _ => rfl, fun j _ => rfl, fun a b h1 h2 => by omega, by rw [h138, a1]; omega, by rw [h138, a1]; exact ⟨fun _ a b h1 h2 => by omega, fun _ => rfl⟩⟩
      intro i v103 hle ⟨i0, hf3, hj3, hs3, hw3, hw3'⟩ hnext
      apply hX103
      have e2 : v103 138 2 = n := by rw [hj3 2 (by decide), h138, a2]
      rw [e2]
      refine ⟨fun hc v124 e124 => ?_, fun hc => ?_⟩
      · have f124 : ∀ a, a ≠ 138 → v124 a = v103 a := fun a ha => by rw [e124, upd2_off _ _ _ ha]
        have j124 : ∀ j, j ≠ 0 → v124 138 j = v103 138 j := fun j hj => by rw [e124, upd2_j, if_neg hj]
        refine hq v124 (fun a ha => ?_) (by rw [e124, upd2_same]) (by rw [j124 6 (by decide), hj3 6 (by decide), h138, a6]) ⟨by rw [j124 2 (by decide)]; exact e2, fun a h1 h2 => ?_, fun a b h1 h2 h3 h4 => ?_, by rw [j124 1 (by decide)]; exact hw3, ?_⟩
        · rw [f124 a (by omega), hf3 a (by omega) (by omega)]; exact hf a (by omega) (by omega)
        · rw [f124 139 (by omega), hf3 139 (by omega) (by omega)]; exact hnear a h1 h2
        · rw [f124 _ (by omega)]; exact hs3 a b h1 (by omega) h3 h4
        · rw [j124 1 (by decide), hw3']
          exact ⟨fun h a b h1 h2 h3 h4 => h a b h1 (by omega) h3 h4, fun h a b h1 h2 h3 h4 => h a b h1 (by omega) h3 h4⟩
      · refine S_measureFrom w hn e2 ⟨i0, hc⟩ (fun a h1 h2 k => by rw [hf3 139 (by omega) (by omega)]; exact (hnear a h1 h2).2 k) (fun v' k1 k2 k3 k4 k5 => ?_)
        refine ⟨by omega, hnext hc _ ⟨by omega, fun a h1 h2 => ?_, fun j hj => ?_, fun a b h1 h2 h3 h4 => ?_, k4, ?_⟩⟩
        · rw [k1 a h1 (by omega)]; exact hf3 a h1 h2
        · rw [k2 j hj]; exact hj3 j hj
        · by_cases e : a = i
          · rw [e]; exact k3 b h3 h4
          · rw [k1 _ (by omega) (by omega)]; exact hs3 a b h1 (by omega) h3 h4
        · rw [k5]
          have hne : ¬ v103 138 1 = 0 ↔ v103 138 1 = 1 := by omega
          rw [hne, hw3']
          constructor
          · rintro ⟨h1, h2⟩ a b k1 k2 k3 k4
            by_cases e : a = i
            · rw [e]; exact h2 b k3 k4
            · exact h1 a b k1 (by omega) k3 k4
          · intro h
            exact ⟨fun a b k1 k2 k3 k4 => h a b k1 (by omega) k3 k4, fun b k1 k2 => h i b i0 (by omega) k1 k2⟩
    refine up2 (X := X43) (L.length : Int) (fun i v43 => 0 ≤ i ∧ (∀ a, a ≠ 139 → v43 a = v41 a) ∧ (∀ a : Int, 0 ≤ a → a < n → r32 (v43 139 a.toNat) ∧ ∀ k : Nat, tb (v43 139 a.toNat) k = true ↔ ∃ j : Int, 0 ≤ j ∧ j < i ∧ ((lo L j = a ∧ hi L j = (k : Int)) ∨ (lo L j = (k : Int) ∧ hi L j = a)))) ?_ (by omega) ⟨by omega, fun a _ => rfl, fun a h1 h2 => ⟨by rw [hz a h1 h2]; exact r32_0, fun k => ?_⟩⟩
    · intro i v43 hle ⟨i0, hf3, hb3⟩ hnext
      apply hX43
      have e1 : v43 10 1 = L.length := by rw [hf3 10 (by omega), hf 10 (by omega) (by omega)]; exact g1
      rw [e1]
      refine ⟨fun hc => r2 v43 (fun a h1 h2 => by rw [hf3 a h2]; exact hf a h1 h2) (by rw [hf3 138 (by omega)]; exact h138) (fun a h1 h2 => ⟨(hb3 a h1 h2).1, fun k => ?_⟩), fun hc => ?_⟩
      · rw [(hb3 a h1 h2).2 k]
        constructor
        · rintro ⟨j, j1, j2, j3⟩; exact ⟨j, j1, by omega, j3⟩
        · rintro ⟨j, j1, j2, j3⟩; exact ⟨j, j1, by omega, j3⟩
      · have el : v43 12 i.toNat = lo L i := by rw [hf3 12 (by omega), hf 12 (by omega) (by omega)]; exact (g2 i i0 hc).1
        have eh : v43 13 i.toNat = hi L i := by rw [hf3 13 (by omega), hf 13 (by omega) (by omega)]; exact (g2 i i0 hc).2.1
        have hw := w.1 i i0 hc
        rw [el, eh]
        refine ⟨by omega, by omega, by omega, by omega, fun v72 e72 => ?_⟩
        have el2 : v72 12 i.toNat = lo L i := by rw [e72, upd2_off _ _ _ (by omega)]; exact el
        have eh2 : v72 13 i.toNat = hi L i := by rw [e72, upd2_off _ _ _ (by omega)]; exact eh
        rw [el2, eh2]
        refine ⟨by omega, by omega, by omega, by omega, fun v94 e94 => ⟨by omega, hnext hc _ ⟨by omega, fun a ha => ?_, fun a h1 h2 => ⟨?_, fun k => ?_⟩⟩⟩⟩
        · rw [e94, upd2_off _ _ _ ha, e72, upd2_off _ _ _ ha]; exact hf3 a ha
        · rw [e94, upd2_at _ _ _ (by omega) h1]
          split
          · exact r32_or _ _
          · rw [e72, upd2_at _ _ _ (by omega) h1]
            split
            · exact r32_or _ _
            · exact (hb3 a h1 h2).1
        · have key : tb (v94 139 a.toNat) k = true ↔ (tb (v43 139 a.toNat) k = true ∨ (a = lo L i ∧ (k : Int) = hi L i) ∨ (a = hi L i ∧ (k : Int) = lo L i)) := by
            rw [e94, upd2_at _ _ _ (by omega) h1, e72, upd2_at _ _ _ (by omega) h1, upd2_at _ _ _ (by omega) (by omega)]
            by_cases ea : a = hi L i
            · rw [if_pos ea, if_neg (by omega), tb_or, Bool.or_eq_true, tb_shl1' (by omega), decide_eq_true_iff, ea]
              constructor
              · rintro (h | h)
                · exact Or.inl h
                · exact Or.inr (Or.inr ⟨rfl, by omega⟩)
              · rintro (h | ⟨h, -⟩ | ⟨-, h⟩)
                · exact Or.inl h
                · omega
                · exact Or.inr (by omega)
            · rw [if_neg ea]
              by_cases eb : a = lo L i
              · rw [if_pos eb, tb_or, Bool.or_eq_true, tb_shl1' (by omega), decide_eq_true_iff, eb]
                constructor
                · rintro (h | h)
                  · exact Or.inl h
                  · exact Or.inr (Or.inl ⟨rfl, by omega⟩)
                · rintro (h | ⟨-, h⟩ | ⟨h, -⟩)
                  · exact Or.inl h
                  · exact Or.inr (by omega)
                  · omega
              · rw [if_neg eb]
                constructor
                · exact Or.inl
                · rintro (h | ⟨h, -⟩ | ⟨h, -⟩)
                  · exact h
                  · exact absurd h eb
                  · exact absurd h ea
          rw [key, (hb3 a h1 h2).2 k]
          constructor
          · rintro (⟨j, j1, j2, j3⟩ | ⟨h3, h4⟩ | ⟨h3, h4⟩)
            · exact ⟨j, j1, by omega, j3⟩
            · exact ⟨i, i0, by omega, Or.inl ⟨h3.symm, h4.symm⟩⟩
            · exact ⟨i, i0, by omega, Or.inr ⟨h4.symm, h3.symm⟩⟩
          · rintro ⟨j, j1, j2, j3⟩
            by_cases ej : j = i
            · subst ej
              rcases j3 with ⟨h3, h4⟩ | ⟨h3, h4⟩
              · exact Or.inr (Or.inl ⟨h3.symm, h4.symm⟩)
              · exact Or.inr (Or.inr ⟨h4.symm, h3.symm⟩)
            · exact Or.inl ⟨j, j1, by omega, j3⟩
    · rw [hz a h1 h2, tb_0]
      constructor
      · intro h; cases h
      · rintro ⟨j, j1, j2, -⟩; omega
  refine up2 (X := X20) n (fun i v20 => 0 ≤ i ∧ (∀ a, a ≠ 139 → v20 a = v15 a) ∧ ∀ a : Int, 0 ≤ a → a < i → v20 139 a.toNat = 0) ?_ (by omega) ⟨by omega, fun a _ => rfl, fun a h1 h2 => by omega⟩
  intro i v20 hle ⟨i0, hf, hz⟩ hnext
  apply hX20
  have e2 : v20 138 2 = n := by rw [hf 138 (by omega)]; exact a2
  rw [e2]
  refine ⟨fun hc => r1 v20 (fun a h1 h2 => by rw [hf a h2]; exact f15 a h1) (hf 138 (by omega)) (fun a h1 h2 => hz a h1 (by omega)), fun hc => ⟨by omega, fun v34 e34 => ⟨by omega, hnext hc _ ⟨by omega, fun a ha => ?_, fun a h1 h2 => ?_⟩⟩⟩⟩
  · rw [e34, upd2_off _ _ _ ha]; exact hf a ha
  · rw [e34, upd2_at _ _ _ i0 h1]
    by_cases e : a = i
    · rw [if_pos e]
    · rw [if_neg e]; exact hz a h1 (by omega)

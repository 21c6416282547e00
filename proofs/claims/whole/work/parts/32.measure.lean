/-! ===== the class: how far nodes are from one another ===== -/
theorem upd2_at (v : VT) (a : Nat) {i b : Int} (x : Int) (hi : 0 ≤ i) (hb : 0 ≤ b) : upd2 v a i.toNat x a b.toNat = if b = i then x else v a b.toNat := by
  unfold upd2
  by_cases h : b = i
  · rw [if_pos h, if_pos ⟨rfl, by rw [h]⟩]
  · rw [if_neg h, if_neg (fun q => h (by omega))]
theorem upd2_j (v : VT) (a i j : Nat) (x : Int) : upd2 v a i x a j = if j = i then x else v a j := by
  unfold upd2
  by_cases h : j = i
  · rw [if_pos h, if_pos ⟨rfl, h⟩]
  · rw [if_neg h, if_neg (fun q => h q.2)]
theorem S_hasBit {x k : Int} {v : VT} {q : Int → Prop} (h : 0 ≤ k ∧ k < 32) (h0 : tb x k.toNat = false → q 0) (h1 : tb x k.toNat = true → q 1) : P_X10_hasBit x k v q := by
  unfold P_X10_hasBit
  rw [bit_at h]
  cases hb : tb x k.toNat
  · exact ⟨fun _ => h0 hb, fun hc => absurd (by simp) hc⟩
  · exact ⟨fun hc => absurd hc (by simp), fun _ => h1 hb⟩
theorem S_allBits {n : Int} {v : VT} {q : Int → Prop} (h : 0 ≤ n ∧ n ≤ 30) (hq : q (i_shl 1 n - 1)) : P_X10_allBits n v q := by
  have := r_all h
  exact ⟨by omega, hq⟩
theorem S_measureFrom {n : Int} {L : List Ln} {x1 : Int} {v : VT} {q : VT → Prop} (w : wfL n L) (hn : 0 ≤ n ∧ n ≤ 24) (hv : v 138 2 = n) (hx : 0 ≤ x1 ∧ x1 < n)
    (hnear : ∀ a : Int, 0 ≤ a → a < n → ∀ k : Nat, tb (v 139 a.toNat) k = true ↔ adj L a (k : Int))
    (hq : ∀ v' : VT, (∀ a, a ≠ 138 → a ≠ 141 + x1.toNat → v' a = v a) → (∀ j, j ≠ 1 → v' 138 j = v 138 j) → (∀ b : Int, 0 ≤ b → b < n → v' (141 + x1.toNat) b.toNat = dd L x1 b) →
      (v' 138 1 = 0 ∨ v' 138 1 = 1) → (v' 138 1 = 1 ↔ (¬ v 138 1 = 0 ∧ ∀ b : Int, 0 ≤ b → b < n → 0 ≤ dd L x1 b)) → q v') : P_X2_measureFrom x1 v q := by
  unfold P_X2_measureFrom
  refine ⟨by omega, ?_⟩
  have hR1 : 141 ≤ 141 + x1.toNat ∧ 141 + x1.toNat ≤ 164 := by omega
  generalize 141 + x1.toNat = R at *
  intro K27 hK27 X9 hX9
  have rest : ∀ v27 : VT, (∀ a, a ≠ R → v27 a = v a) → (∀ b : Int, 0 ≤ b → b < n → v27 R b.toNat = -1) → K27 v27 := by
    intro v27 hf hr
    apply hK27
    intro K119 hK119 X37 hX37
    have fin : ∀ (i3 : Int) (v119 : VT), r32 i3 → (∀ a, a ≠ R → v119 a = v a) → (∀ k : Nat, k < 32 → (tb i3 k = true ↔ 0 ≤ dd L x1 (k : Int))) → (∀ b : Int, 0 ≤ b → b < n → v119 R b.toNat = dd L x1 b) → K119 i3 v119 := by
      intro i3 v119 hr3 hf hb hrow
      apply hK119
      have e1 : v119 138 1 = v 138 1 := by rw [hf 138 (by omega)]
      have e2 : v119 138 2 = n := by rw [hf 138 (by omega)]; exact hv
      rw [e1, e2]
      have done : ∀ (v143 : VT) (x : Int), v143 = upd2 v119 138 1 x → (x = 0 ∨ x = 1) → (x = 1 ↔ (¬ v 138 1 = 0 ∧ ∀ b : Int, 0 ≤ b → b < n → 0 ≤ dd L x1 b)) → q v143 := by
        intro v143 x e hx01 hx1
        refine hq v143 (fun a h1 h2 => ?_) (fun j hj => ?_) (fun b h1 h2 => ?_) ?_ ?_
        · rw [e, upd2_off _ _ _ h1]; exact hf a h2
        · rw [e, upd2_j, if_neg hj, hf 138 (by omega)]
        · rw [e, upd2_off _ _ _ (by omega)]; exact hrow b h1 h2
        · rw [e, upd2_same]; exact hx01
        · rw [e, upd2_same]; exact hx1
      refine ⟨fun hc v143 e => done v143 0 e (Or.inl rfl) ⟨fun h => absurd h (by omega), fun h => absurd hc h.1⟩, fun hc => ?_⟩
      refine S_allBits (by omega) ?_
      have hall : i3 = i_shl 1 n - 1 ↔ ∀ b : Int, 0 ≤ b → b < n → 0 ≤ dd L x1 b := by
        have hra := r_all (n := n) (by omega)
        constructor
        · intro e b h1 h2
          have := (hb b.toNat (by omega)).mp (by rw [e, tb_all (by omega)]; exact decide_eq_true (by omega))
          rwa [Int.toNat_of_nonneg h1] at this
        · intro h
          refine tb_ext hr3 (by unfold r32; omega) (fun k hk => ?_)
          rw [tb_all (by omega)]
          by_cases hkn : k < n.toNat
          · rw [decide_eq_true hkn, (hb k hk).mpr (h _ (by omega) (by omega))]
          · rw [decide_eq_false hkn]
            cases ht : tb i3 k
            · rfl
            · have := dd_in w hx ((hb k hk).mp ht)
              omega
      refine ⟨fun hne v143 e => done v143 0 e (Or.inl rfl) ⟨fun h => absurd h (by omega), fun h => absurd (hall.mpr h.2) hne⟩, fun he v143 e => done v143 1 e (Or.inr rfl) ⟨fun _ => ⟨hc, hall.mp he⟩, fun _ => rfl⟩⟩
    refine wh4 (X := X37) (fun i3 i4 i5 v37 => 0 ≤ i5 ∧ i5 ≤ n ∧ r32 i3 ∧ r32 i4 ∧ (∀ a, a ≠ R → v37 a = v a) ∧ (∀ k : Nat, k < 32 → (tb i3 k = true ↔ (0 ≤ dd L x1 (k : Int) ∧ dd L x1 (k : Int) ≤ i5))) ∧ (∀ k : Nat, k < 32 → (tb i4 k = true ↔ dd L x1 (k : Int) = i5)) ∧ (∀ b : Int, 0 ≤ b → b < n → ((0 ≤ dd L x1 b ∧ dd L x1 b < i5) → v37 R b.toNat = dd L x1 b) ∧ (¬ (0 ≤ dd L x1 b ∧ dd L x1 b < i5) → v37 R b.toNat = -1))) (fun _ _ i5 _ => (n - i5).toNat) ?_ ?_
    · intro i3 i4 i5 v37 ⟨g0, g1, gr3, gr4, gf, gb3, gb4, grow⟩ hnext
      apply hX37
      have e2 : v37 138 2 = n := by rw [gf 138 (by omega)]; exact hv
      rw [e2]
      have ex : (∀ b : Int, 0 ≤ dd L x1 b → dd L x1 b < i5) ∨ i4 = 0 → K119 i3 v37 := by
        intro hall
        have hlt : ∀ b : Int, 0 ≤ dd L x1 b → dd L x1 b < i5 := by
          rcases hall with h | h
          · exact h
          · intro b hb
            refine Classical.byContradiction fun hx2 => ?_
            obtain ⟨c, hc⟩ := dd_lev (L := L) (a := x1) (dd L x1 b).toNat b (by omega) i5.toNat (by omega)
            have hcin := dd_in w hx (b := c) (by omega)
            have := (gb4 c.toNat (by omega)).mpr (by rw [Int.toNat_of_nonneg hcin.1, hc]; omega)
            rw [h, tb_0] at this
            cases this
        refine fin i3 v37 gr3 gf (fun k hk => ?_) (fun b h1 h2 => ?_)
        · rw [gb3 k hk]
          constructor
          · exact fun h => h.1
          · intro h
            have := hlt _ h
            exact ⟨h, by omega⟩
        · by_cases hd : 0 ≤ dd L x1 b
          · exact (grow b h1 h2).1 ⟨hd, hlt b hd⟩
          · rw [(grow b h1 h2).2 (fun h => hd h.1)]
            have := dd_ge (L := L) (a := x1) (b := b)
            omega
      refine ⟨fun hc => ex (Or.inl fun b hb => ?_), fun hc => ⟨fun hc2 => ex (Or.inr hc2), fun hc2 => ?_⟩⟩
      · have := dd_lt w hx (b := b)
        omega
      · intro K100 hK100 X57 hX57
        refine up3m (X := X57) n (fun i7 i6 v57 => 0 ≤ i7 ∧ r32 i6 ∧ (∀ a, a ≠ R → v57 a = v a) ∧ (∀ k : Nat, k < 32 → (tb i6 k = true ↔ ∃ c : Int, 0 ≤ c ∧ c < i7 ∧ dd L x1 c = i5 ∧ adj L c (k : Int))) ∧ (∀ b : Int, 0 ≤ b → b < n → ((0 ≤ dd L x1 b ∧ (dd L x1 b < i5 ∨ (dd L x1 b = i5 ∧ b < i7))) → v57 R b.toNat = dd L x1 b) ∧ (¬ (0 ≤ dd L x1 b ∧ (dd L x1 b < i5 ∨ (dd L x1 b = i5 ∧ b < i7))) → v57 R b.toNat = -1))) ?_ (by omega) ⟨by omega, r32_0, gf, fun k hk => ?_, fun b h1 h2 => ?_⟩
        · intro i6 i7 v57 hi7 ⟨f0, fr6, ff, fb, frow⟩ hnext2
          apply hX57
          have e3 : v57 138 2 = n := by rw [ff 138 (by omega)]; exact hv
          rw [e3]
          refine ⟨fun hc3 => ?_, fun hc3 => ?_⟩
          · apply hK100
            intro l4 el4
            have h4 : ∀ k : Nat, k < 32 → (tb l4 k = true ↔ dd L x1 (k : Int) = i5 + 1) := by
              intro k hk
              rw [el4, tb_and, tb_not _ hk]
              have hb6 := fb k hk
              have hb3 := gb3 k hk
              constructor
              · intro h
                have h1 : tb i6 k = true := by cases h' : tb i6 k <;> simp [h'] at h ⊢
                have h2 : ¬ tb i3 k = true := by cases h' : tb i3 k <;> simp [h', h1] at h ⊢
                obtain ⟨c, c1, c2, c3, c4⟩ := hb6.mp h1
                have h5 := dd_next (a := x1) c4 (by omega)
                have h6 : ¬ (0 ≤ dd L x1 (k : Int) ∧ dd L x1 (k : Int) ≤ i5) := fun h => h2 (hb3.mpr h)
                omega
              · intro h
                obtain ⟨c, c1, c2⟩ := dd_prev (L := L) (a := x1) (b := (k : Int)) (k := i5) (by omega) (by omega)
                have hcin := dd_in w hx (b := c) (by omega)
                have h1 : tb i6 k = true := hb6.mpr ⟨c, by omega, by omega, c1, c2⟩
                have h2 : tb i3 k = false := by
                  cases h' : tb i3 k
                  · rfl
                  · have := hb3.mp h'
                    omega
                rw [h1, h2]; rfl
            refine ⟨by omega, hnext _ _ _ _ ⟨by omega, by omega, r32_or _ _, by rw [el4]; exact r32_and _ _, ff, fun k hk => ?_, fun k hk => ?_, fun b h1 h2 => ?_⟩ (by omega)⟩
            · rw [tb_or, Bool.or_eq_true, gb3 k hk, h4 k hk]
              have := dd_ge (L := L) (a := x1) (b := (k : Int))
              omega
            · exact h4 k hk
            · have hr := frow b h1 h2
              refine ⟨fun h => hr.1 ⟨h.1, by omega⟩, fun h => hr.2 (fun h' => h ⟨h'.1, by omega⟩)⟩
          · refine S_hasBit (by omega) (fun hb => ?_) (fun hb => ?_)
            · have hne : ¬ dd L x1 i7 = i5 := fun h => by
                have := (gb4 i7.toNat (by omega)).mpr (by rw [Int.toNat_of_nonneg f0]; exact h)
                rw [this] at hb; cases hb
              refine ⟨fun _ => ⟨by omega, hnext2 (by omega) _ _ ⟨by omega, fr6, ff, fun k hk => ?_, fun b h1 h2 => ?_⟩⟩, fun hc => absurd rfl hc⟩
              · rw [fb k hk]
                constructor
                · rintro ⟨c, c1, c2, c3, c4⟩
                  exact ⟨c, c1, by omega, c3, c4⟩
                · rintro ⟨c, c1, c2, c3, c4⟩
                  refine ⟨c, c1, ?_, c3, c4⟩
                  by_cases e : c = i7
                  · rw [e] at c3; exact absurd c3 hne
                  · omega
              · have hr := frow b h1 h2
                have hb7 : b = i7 → ¬ dd L x1 b = i5 := fun e => by rw [e]; exact hne
                refine ⟨fun h => hr.1 ⟨h.1, ?_⟩, fun h => hr.2 (fun h' => h ⟨h'.1, by omega⟩)⟩
                rcases h.2 with h3 | ⟨h3, h4⟩
                · exact Or.inl h3
                · by_cases e : b = i7
                  · exact absurd h3 (hb7 e)
                  · exact Or.inr ⟨h3, by omega⟩
            · have heq : dd L x1 i7 = i5 := by
                have := (gb4 i7.toNat (by omega)).mp hb
                rwa [Int.toNat_of_nonneg f0] at this
              refine ⟨fun hc => absurd hc (by decide), fun _ => ⟨by omega, fun v81 e81 => ⟨by omega, fun l6 e6 => ⟨by omega, hnext2 (by omega) _ _ ⟨by omega, by rw [e6]; exact r32_or _ _, fun a ha => ?_, fun k hk => ?_, fun b h1 h2 => ?_⟩⟩⟩⟩⟩
              · rw [e81, upd2_off _ _ _ ha]; exact ff a ha
              · have e139 : v81 139 i7.toNat = v 139 i7.toNat := by rw [e81, upd2_off _ _ _ (by omega), ff 139 (by omega)]
                rw [e6, tb_or, Bool.or_eq_true, fb k hk, e139, hnear i7 f0 (by omega) k]
                constructor
                · rintro (⟨c, c1, c2, c3, c4⟩ | h)
                  · exact ⟨c, c1, by omega, c3, c4⟩
                  · exact ⟨i7, f0, by omega, heq, h⟩
                · rintro ⟨c, c1, c2, c3, c4⟩
                  by_cases e : c = i7
                  · exact Or.inr (by rw [← e]; exact c4)
                  · exact Or.inl ⟨c, c1, by omega, c3, c4⟩
              · have hr := frow b h1 h2
                rw [e81, upd2_at _ _ _ f0 h1]
                by_cases e : b = i7
                · rw [if_pos e]
                  subst e
                  exact ⟨fun _ => heq.symm, fun h => absurd ⟨by omega, Or.inr ⟨heq, by omega⟩⟩ h⟩
                · rw [if_neg e]
                  refine ⟨fun h => hr.1 ⟨h.1, by omega⟩, fun h => hr.2 (fun h' => h ⟨h'.1, by omega⟩)⟩
        · rw [tb_0]
          constructor
          · intro h; cases h
          · rintro ⟨c, c1, c2, -⟩; omega
        · have hr := grow b h1 h2
          refine ⟨fun h => hr.1 ⟨h.1, by omega⟩, fun h => hr.2 (fun h' => h ⟨h'.1, by omega⟩)⟩
    · have hbit : ∀ k : Nat, k < 32 → (tb (i_shl 1 x1) k = true ↔ dd L x1 (k : Int) = 0) := by
        intro k hk
        rw [tb_shl1' (by omega), decide_eq_true_iff]
        constructor
        · intro h
          rw [h, Int.toNat_of_nonneg hx.1, dd_self]
        · intro h
          have := dd_zero h
          omega
      refine ⟨by omega, by omega, r32_shl _ _, r32_shl _ _, hf, fun k hk => ?_, hbit, fun b h1 h2 => ⟨fun h => by omega, fun _ => hr b h1 h2⟩⟩
      rw [hbit k hk]
      have := dd_ge (L := L) (a := x1) (b := (k : Int))
      omega
  refine up2 (X := X9) n (fun i v9 => 0 ≤ i ∧ (∀ a, a ≠ R → v9 a = v a) ∧ ∀ b : Int, 0 ≤ b → b < i → v9 R b.toNat = -1) ?_ (by omega) ⟨by omega, fun a _ => rfl, fun b h1 h2 => by omega⟩
  intro i v9 hi ⟨h0, hf, hr⟩ hnext
  apply hX9
  have e2 : v9 138 2 = n := by rw [hf 138 (by omega)]; exact hv
  rw [e2]
  refine ⟨fun hc => rest v9 hf (fun b h1 h2 => hr b h1 (by omega)), fun hc => ⟨by omega, fun v20 e20 => ⟨by omega, hnext (by omega) _ ⟨by omega, fun a ha => ?_, fun b h1 h2 => ?_⟩⟩⟩⟩
  · rw [e20, upd2_off _ _ _ ha]; exact hf a ha
  · rw [e20, upd2_at _ _ _ h0 h1]
    by_cases e : b = i
    · rw [if_pos e]
    · rw [if_neg e]; exact hr b h1 (by omega)

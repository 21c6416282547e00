/-! ===== see, as each side does it ===== -/
theorem i_dr8 : ∀ m ∈ List.range 1024, i_div (m : Int) 2 = (m / 2 : Nat) ∧ i_rem (m : Int) 2 = (m % 2 : Nat) := by decide +kernel
theorem i_dr8' {x : Int} (h : 0 ≤ x ∧ x < 1024) : i_div x 2 = x / 2 ∧ i_rem x 2 = x % 2 := by
  have := i_dr8 x.toNat (List.mem_range.mpr (by omega))
  rw [Int.toNat_of_nonneg h.1] at this
  omega
def okE (n m : Int) (b : Int → Int) : Prop := (2 ≤ m ∧ m ≤ 24 ∧ m % 2 = 0) ∧ ∀ k : Int, 0 ≤ k → 2 * k + 1 < m → (0 ≤ b (2 * k) ∧ b (2 * k) < n) ∧ b (2 * k + 1) ≤ 23
section Q17
variable {n : Int} {v : VT} {q : Int → VT → Prop}
theorem SX_see {m : Int} {b : Int → Int} (hg : v 10 0 = n) (h1 : v 1 1 = m) (hm : 0 ≤ m ∧ m ≤ 800) (hb : ∀ i : Int, 0 ≤ i → i < m → v 2 i.toNat = b i) (hN : 0 ≤ v 217 1 ∧ v 217 1 < 1000000)
    (hyes : okE n m b → ∀ v' : VT, (∀ a, a ≠ 0 → a ≠ 1 → a ≠ 214 → a ≠ 215 → v' a = v a) → (∀ j, j ≠ 16 → v' 0 j = v 0 j) → v' 0 16 = m / 2 → (∀ j, j ≠ 1 → v' 1 j = v 1 j) → v' 1 1 = 0 → (∀ i : Int, 0 ≤ i → i < m / 2 → v' 214 i.toNat = b (2 * i) ∧ v' 215 i.toNat = b (2 * i + 1)) → q (m / 2) v')
    (hno : ¬ okE n m b → ∀ v' : VT, (∀ a, a ≠ 1 → a ≠ 217 → v' a = v a) → (∀ j, j ≠ 1 → v' 1 j = v 1 j) → v' 1 1 = 0 → (∀ j, j ≠ 1 → v' 217 j = v 217 j) → v' 217 1 = v 217 1 + 1 → q (-1) v') : P_X10_see v q := by
  unfold P_X10_see
  obtain ⟨ed, er⟩ := i_dr8' (x := m) (by omega)
  rw [h1, ed, er]
  intro v13 e13 K38 hK38 K37 hK37
  have f13 : ∀ a, a ≠ 1 → v13 a = v a := fun a ha => by rw [e13, upd2_off _ _ _ ha]
  have j13 : ∀ j, j ≠ 1 → v13 1 j = v 1 j := fun j hj => by rw [e13, upd2_j, if_neg hj]
  have z13 : v13 1 1 = 0 := by rw [e13, upd2_same]
  have body : ∀ s0 : Int, (s0 = 0 ∧ ¬ okE n m b) ∨ (s0 = 1 ∧ 2 ≤ m ∧ m ≤ 24 ∧ m % 2 = 0) → K38 s0 := by
    intro s0 hs0
    apply hK38
    intro K99 hK99
    have fin : ∀ i2 : Int, (i2 = 0 ∧ ¬ okE n m b) ∨ (i2 = 1 ∧ okE n m b) → K99 i2 := by
      intro i2 hi2
      apply hK99
      refine ⟨fun hne v113 e113 => ?_, fun he => ?_⟩
      · have hok : okE n m b := by
          rcases hi2 with ⟨h, -⟩ | ⟨-, h⟩
          · exact absurd h hne
          · exact h
        have hm2 := hok.1
        intro X118 hX118
        refine up2 (X := X118) (m / 2) (fun i v118 => 0 ≤ i ∧ (∀ a, a ≠ 214 → a ≠ 215 → v118 a = v113 a) ∧ ∀ k : Int, 0 ≤ k → k < i → v118 214 k.toNat = b (2 * k) ∧ v118 215 k.toNat = b (2 * k + 1)) ?_ (by omega) ⟨by omega, fun a _ _ => rfl, fun k k0 k1 => by omega⟩
        intro i v118 hle ⟨i0, hf, hz⟩ hnext
        apply hX118
        have e16 : v118 0 16 = m / 2 := by rw [hf 0 (by omega) (by omega), e113, upd2_same]
        rw [e16]
        refine ⟨fun hc => hyes hok v118 (fun a a0 a1 a2 a3 => ?_) (fun j hj => ?_) e16 (fun j hj => ?_) ?_ (fun k k0 k1 => hz k k0 (by omega)), fun hc => ⟨by omega, by omega, by omega, fun v142 e142 => ⟨by omega, by omega, by omega, by omega, fun v161 e161 => ⟨by omega, hnext hc _ ⟨by omega, fun a a0 a1 => ?_, fun k k0 k1 => ?_⟩⟩⟩⟩⟩
        · rw [hf a a2 a3, e113, upd2_off _ _ _ a0]; exact f13 a a1
        · rw [hf 0 (by omega) (by omega), e113, upd2_j, if_neg hj, f13 0 (by omega)]
        · rw [hf 1 (by omega) (by omega), e113, upd2_off _ _ _ (by omega)]; exact j13 j hj
        · rw [hf 1 (by omega) (by omega), e113, upd2_off _ _ _ (by omega)]; exact z13
        · rw [e161, upd2_off _ _ _ a1, e142, upd2_off _ _ _ a0]; exact hf a a0 a1
        · have c2 : ∀ y : Int, 0 ≤ y → y < m → v118 2 y.toNat = b y := fun y y0 y1 => by rw [hf 2 (by omega) (by omega), e113, upd2_off _ _ _ (by omega), f13 2 (by omega)]; exact hb y y0 y1
          rw [e161, upd2_at _ _ _ i0 k0, upd2_off _ _ _ (by omega), e142, upd2_at _ _ _ i0 k0, upd2_off _ _ _ (by omega), upd2_off _ _ _ (by omega)]
          by_cases e : k = i
          · rw [if_pos e, if_pos e, c2 _ (by omega) (by omega), c2 _ (by omega) (by omega), e]; exact ⟨rfl, rfl⟩
          · rw [if_neg e, if_neg e]; exact hz k k0 (by omega)
      · have hnok : ¬ okE n m b := by
          rcases hi2 with ⟨-, h⟩ | ⟨h, -⟩
          · exact h
          · omega
        unfold P_X10_refuse
        have e217 : v13 217 (1 : Int).toNat = v 217 1 := by rw [f13 217 (by omega)]; rfl
        rw [e217]
        refine ⟨by omega, by omega, by omega, fun v9 e9 => hno hnok v9 (fun a a0 a1 => ?_) (fun j hj => ?_) ?_ (fun j hj => ?_) ?_⟩
        · rw [e9, upd2_off _ _ _ a1]; exact f13 a a0
        · rw [e9, upd2_off _ _ _ (by omega)]; exact j13 j hj
        · rw [e9, upd2_off _ _ _ (by omega)]; exact z13
        · rw [e9, upd2_j, if_neg (show ¬ j = (1 : Int).toNat from hj), f13 217 (by omega)]
        · rw [e9]; exact upd2_same _ _ _ _
    intro X41 hX41
    refine wh2 (X := X41) (fun r i => 0 ≤ i ∧ i ≤ m + 2 ∧ ((r = 0 ∧ ¬ okE n m b) ∨ (r = 1 ∧ (2 ≤ m ∧ m ≤ 24 ∧ m % 2 = 0) ∧ i % 2 = 0 ∧ ∀ k : Int, 0 ≤ k → 2 * k + 1 < i → (0 ≤ b (2 * k) ∧ b (2 * k) < n) ∧ b (2 * k + 1) ≤ 23))) (fun r i => (m + 2 - i).toNat) ?_ ⟨by omega, by omega, ?_⟩
    · intro r i ⟨i0, i1, hr⟩ hnext
      apply hX41
      refine ⟨fun h0 => fin r ?_, fun h0 => ?_⟩
      · rcases hr with ⟨-, h⟩ | ⟨h, -⟩
        · exact Or.inl ⟨h0, h⟩
        · omega
      · rcases hr with ⟨h, -⟩ | ⟨hr1, hm2, hpar, hk⟩
        · exact absurd h h0
        · refine ⟨by omega, fun hc => fin r (Or.inr ⟨hr1, hm2, fun k k0 k1 => hk k k0 (by omega)⟩), fun hc => ⟨by omega, ?_⟩⟩
          unfold P_X0_isNode
          have e2 : v13 2 i.toNat = b i := by rw [f13 2 (by omega)]; exact hb i i0 (by omega)
          have e3 : v13 2 (i + 1).toNat = b (i + 1) := by rw [f13 2 (by omega)]; exact hb (i + 1) (by omega) (by omega)
          have e10 : v13 10 0 = n := by rw [f13 10 (by omega)]; exact hg
          rw [e2, e10, e3]
          have ei : 2 * (i / 2) = i := by omega
          have bad : ¬ ((0 ≤ b i ∧ b i < n) ∧ b (i + 1) ≤ 23) → ¬ okE n m b := fun h g => h (by have := g.2 (i / 2) (by omega) (by omega); rwa [ei] at this)
          have no : ¬ ((0 ≤ b i ∧ b i < n) ∧ b (i + 1) ≤ 23) → X41 0 (i + 2) := fun h => hnext _ _ ⟨by omega, by omega, Or.inl ⟨rfl, bad h⟩⟩ (by omega)
          refine ⟨fun h => ⟨fun _ => ⟨by omega, no (by omega)⟩, fun g => absurd rfl g⟩, fun h => ⟨fun h2 => ⟨fun _ => ⟨by omega, no (by omega)⟩, fun g => absurd rfl g⟩, fun h2 => ⟨fun g => absurd g (by decide), fun _ => ⟨by omega, by omega, fun h3 => ⟨by omega, no (by omega)⟩, fun h3 => ⟨by omega, hnext _ _ ⟨by omega, by omega, Or.inr ⟨rfl, hm2, by omega, fun k k0 k1 => ?_⟩⟩ (by omega)⟩⟩⟩⟩⟩
          by_cases e : k = i / 2
          · rw [e, ei]; exact ⟨⟨h, h2⟩, h3⟩
          · exact hk k k0 (by omega)
    · rcases hs0 with h | ⟨h, h2⟩
      · exact Or.inl h
      · exact Or.inr ⟨h, h2, by omega, fun k k0 k1 => by omega⟩
  exact ⟨fun h => hK37 (body 0 (Or.inl ⟨rfl, fun g => by have := g.1; omega⟩)), fun h => ⟨fun h2 => hK37 (body 0 (Or.inl ⟨rfl, fun g => by have := g.1; omega⟩)), fun h2 => ⟨fun h3 => hK37 (body 0 (Or.inl ⟨rfl, fun g => by have := g.1; omega⟩)), fun h3 => body 1 (Or.inr ⟨rfl, h, h2, h3⟩)⟩⟩⟩
end Q17

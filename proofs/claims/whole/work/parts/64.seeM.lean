/-! ===== see, the reference ===== -/
section Q18
variable {n : Int} {v : VT} {q : Int → VT → Prop}
theorem SM_see {m : Int} {b : Int → Int} (hn : 0 ≤ n ∧ n ≤ 24) (hg : v 222 0 = n) (h1 : v 218 1 = m) (hm : 0 ≤ m ∧ m ≤ 800) (hb : ∀ i : Int, 0 ≤ i → i < m → v 219 i.toNat = b i) (hN : 0 ≤ v 220 1 ∧ v 220 1 < 1000000)
    (hyes : okE n m b → ∀ v' : VT, (∀ a, a ≠ 218 → a ≠ 238 → v' a = v a) → (∀ j, j ≠ 1 → j ≠ 33 → v' 218 j = v 218 j) → v' 218 33 = m / 2 → v' 218 1 = 0 → (∀ i : Int, 0 ≤ i → i < m → v' 238 i.toNat = b i) → q (m / 2) v')
    (hno : ¬ okE n m b → ∀ v' : VT, (∀ a, a ≠ 218 → a ≠ 220 → v' a = v a) → (∀ j, j ≠ 1 → v' 218 j = v 218 j) → v' 218 1 = 0 → (∀ j, j ≠ 1 → v' 220 j = v 220 j) → v' 220 1 = v 220 1 + 1 → q (-1) v') : P_X11_see v q := by
  unfold P_X11_see
  obtain ⟨ed, er⟩ := i_dr8' (x := m) (by omega)
  rw [h1, ed, er]
  intro v7 e7 K33 hK33 K32 hK32
  have f7 : ∀ a, a ≠ 218 → v7 a = v a := fun a ha => by rw [e7, upd2_off _ _ _ ha]
  have j7 : ∀ j, j ≠ 1 → v7 218 j = v 218 j := fun j hj => by rw [e7, upd2_j, if_neg hj]
  have z7 : v7 218 1 = 0 := by rw [e7, upd2_same]
  have g7 : v7 222 0 = n := by rw [f7 222 (by omega)]; exact hg
  have body : ∀ s0 : Int, (s0 = 0 ∧ ¬ okE n m b) ∨ (s0 = 1 ∧ 2 ≤ m ∧ m ≤ 24 ∧ m % 2 = 0) → K33 s0 := by
    intro s0 hs0
    apply hK33
    intro K83 hK83
    have fin : ∀ i2 : Int, (i2 = 0 ∧ ¬ okE n m b) ∨ (i2 = 1 ∧ okE n m b) → K83 i2 := by
      intro i2 hi2
      apply hK83
      refine ⟨fun hne => ?_, fun he => ?_⟩
      · have hok : okE n m b := by
          rcases hi2 with ⟨h, -⟩ | ⟨-, h⟩
          · exact absurd h hne
          · exact h
        have hm2 := hok.1
        intro X95 hX95
        refine up2 (X := X95) m (fun i v95 => 0 ≤ i ∧ (∀ a, a ≠ 238 → v95 a = v7 a) ∧ ∀ k : Int, 0 ≤ k → k < i → v95 238 k.toNat = b k) ?_ (by omega) ⟨by omega, fun a _ => rfl, fun k k0 k1 => by omega⟩
        intro i v95 hle ⟨i0, hf, hz⟩ hnext
        apply hX95
        refine ⟨fun hc v122 e122 => ?_, fun hc => ⟨by omega, by omega, fun v111 e111 => ⟨by omega, hnext hc _ ⟨by omega, fun a ha => by rw [e111, upd2_off _ _ _ ha]; exact hf a ha, fun k k0 k1 => ?_⟩⟩⟩⟩
        · have e33 : v122 218 33 = m / 2 := by rw [e122, upd2_same]
          rw [e33]
          refine hyes hok v122 (fun a a0 a1 => ?_) (fun j hj hj2 => ?_) e33 ?_ (fun k k0 k1 => ?_)
          · rw [e122, upd2_off _ _ _ a0, hf a a1, f7 a a0]
          · rw [e122, upd2_j, if_neg hj2, hf 218 (by omega)]; exact j7 j hj
          · rw [e122, upd2_j, if_neg (by decide), hf 218 (by omega)]; exact z7
          · rw [e122, upd2_off _ _ _ (by omega)]; exact hz k k0 (by omega)
        · rw [e111, upd2_at _ _ _ i0 k0]
          by_cases e : k = i
          · rw [if_pos e, hf 219 (by omega), f7 219 (by omega), e]; exact hb i i0 hc
          · rw [if_neg e]; exact hz k k0 (by omega)
      · have hnok : ¬ okE n m b := by
          rcases hi2 with ⟨-, h⟩ | ⟨h, -⟩
          · exact h
          · omega
        unfold P_X11_refuses
        have e220 : v7 220 (1 : Int).toNat = v 220 1 := by rw [f7 220 (by omega)]; rfl
        rw [e220]
        refine ⟨by omega, by omega, by omega, fun v9 e9 => hno hnok v9 (fun a a0 a1 => ?_) (fun j hj => ?_) ?_ (fun j hj => ?_) ?_⟩
        · rw [e9, upd2_off _ _ _ a1]; exact f7 a a0
        · rw [e9, upd2_off _ _ _ (by omega)]; exact j7 j hj
        · rw [e9, upd2_off _ _ _ (by omega)]; exact z7
        · rw [e9, upd2_j, if_neg (show ¬ j = (1 : Int).toNat from hj), f7 220 (by omega)]
        · rw [e9]; exact upd2_same _ _ _ _
    intro X36 hX36
    refine wh2 (X := X36) (fun r i => 0 ≤ i ∧ i ≤ m + 2 ∧ ((r = 0 ∧ ¬ okE n m b) ∨ (r = 1 ∧ (2 ≤ m ∧ m ≤ 24 ∧ m % 2 = 0) ∧ i % 2 = 0 ∧ ∀ k : Int, 0 ≤ k → 2 * k + 1 < i → (0 ≤ b (2 * k) ∧ b (2 * k) < n) ∧ b (2 * k + 1) ≤ 23))) (fun r i => (m + 2 - i).toNat) ?_ ⟨by omega, by omega, ?_⟩
    · intro r i ⟨i0, i1, hr⟩ hnext
      apply hX36
      refine ⟨fun hc => fin r ?_, fun hc => ⟨fun h0 => fin r ?_, fun h0 => ⟨by omega, ?_⟩⟩⟩
      · rcases hr with h | ⟨hr1, hm2, hpar, hk⟩
        · exact Or.inl h
        · exact Or.inr ⟨hr1, hm2, fun k k0 k1 => hk k k0 (by omega)⟩
      · rcases hr with h | ⟨h, -⟩
        · exact Or.inl h
        · omega
      · rcases hr with ⟨h, -⟩ | ⟨hr1, hm2, hpar, hk⟩
        · exact absurd h h0
        · unfold P_X11_isNode
          have e2 : v7 219 i.toNat = b i := by rw [f7 219 (by omega)]; exact hb i i0 (by omega)
          have e3 : v7 219 (i + 1).toNat = b (i + 1) := by rw [f7 219 (by omega)]; exact hb (i + 1) (by omega) (by omega)
          rw [e2, g7, e3]
          have ei : 2 * (i / 2) = i := by omega
          have bad : ¬ ((0 ≤ b i ∧ b i < n) ∧ b (i + 1) ≤ 23) → ¬ okE n m b := fun h g => h (by have := g.2 (i / 2) (by omega) (by omega); rwa [ei] at this)
          have no : ¬ ((0 ≤ b i ∧ b i < n) ∧ b (i + 1) ≤ 23) → X36 0 (i + 2) := fun h => hnext _ _ ⟨by omega, by omega, Or.inl ⟨rfl, bad h⟩⟩ (by omega)
          refine ⟨by omega, S_isIn (fun h => ⟨Or.inl rfl, fun _ => ⟨by omega, no (by omega)⟩, fun g => absurd rfl g⟩) (fun h => ⟨Or.inr rfl, fun g => absurd g (by decide), fun _ => ⟨by omega, by omega, fun h3 => ⟨by omega, no (by omega)⟩, fun h3 => ⟨by omega, hnext _ _ ⟨by omega, by omega, Or.inr ⟨rfl, hm2, by omega, fun k k0 k1 => ?_⟩⟩ (by omega)⟩⟩⟩)⟩
          by_cases e : k = i / 2
          · rw [e, ei]; exact ⟨by omega, h3⟩
          · exact hk k k0 (by omega)
    · rcases hs0 with h | ⟨h, h2⟩
      · exact Or.inl h
      · exact Or.inr ⟨h, h2, by omega, fun k k0 k1 => by omega⟩
  exact ⟨fun h => hK32 (body 0 (Or.inl ⟨rfl, fun g => by have := g.1; omega⟩)), fun h => ⟨fun h2 => hK32 (body 0 (Or.inl ⟨rfl, fun g => by have := g.1; omega⟩)), fun h2 => ⟨fun h3 => hK32 (body 0 (Or.inl ⟨rfl, fun g => by have := g.1; omega⟩)), fun h3 => body 1 (Or.inr ⟨rfl, by omega, by omega, h2⟩)⟩⟩⟩
end Q18

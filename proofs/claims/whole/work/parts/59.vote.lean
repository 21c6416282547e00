/-! ===== vote, as each side does it ===== -/
def okV (n m : Int) (b : Int → Int) : Prop := (1 ≤ m ∧ m ≤ 15) ∧ aln n m b
section Q16
variable {n : Int} {L : List Ln} {v : VT} {q : Int → VT → Prop}
theorem SX_vote {m : Int} {b : Int → Int} (hg : v 10 0 = n) (h1 : v 1 1 = m) (hm : 0 ≤ m ∧ m ≤ 800) (hb : ∀ i : Int, 0 ≤ i → i < m → v 2 i.toNat = b i) (hN : 0 ≤ v 217 1 ∧ v 217 1 < 1000000)
    (hyes : okV n m b → ∀ v' : VT, (∀ a, a ≠ 0 → a ≠ 1 → a ≠ 213 → v' a = v a) → (∀ j, j ≠ 15 → v' 0 j = v 0 j) → v' 0 15 = m → (∀ j, j ≠ 1 → v' 1 j = v 1 j) → v' 1 1 = 0 → (∀ i : Int, 0 ≤ i → i < m → v' 213 i.toNat = b i) → q m v')
    (hno : ¬ okV n m b → ∀ v' : VT, (∀ a, a ≠ 1 → a ≠ 217 → v' a = v a) → (∀ j, j ≠ 1 → v' 1 j = v 1 j) → v' 1 1 = 0 → (∀ j, j ≠ 1 → v' 217 j = v 217 j) → v' 217 1 = v 217 1 + 1 → q (-1) v') : P_X10_vote v q := by
  unfold P_X10_vote
  rw [h1]
  intro v13 e13 K32 hK32 K31 hK31
  have f13 : ∀ a, a ≠ 1 → v13 a = v a := fun a ha => by rw [e13, upd2_off _ _ _ ha]
  have j13 : ∀ j, j ≠ 1 → v13 1 j = v 1 j := fun j hj => by rw [e13, upd2_j, if_neg hj]
  have z13 : v13 1 1 = 0 := by rw [e13, upd2_same]
  have body : ∀ s0 : Int, (s0 = 0 ∧ ¬ okV n m b) ∨ (s0 = 1 ∧ 1 ≤ m ∧ m ≤ 15) → K32 s0 := by
    intro s0 hs0
    apply hK32
    intro K67 hK67
    have fin : ∀ i2 : Int, (i2 = 0 ∧ ¬ okV n m b) ∨ (i2 = 1 ∧ okV n m b) → K67 i2 := by
      intro i2 hi2
      apply hK67
      refine ⟨fun hne => ?_, fun he => ?_⟩
      · have hok : okV n m b := by
          rcases hi2 with ⟨h, -⟩ | ⟨-, h⟩
          · exact absurd h hne
          · exact h
        intro X79 hX79
        refine up2 (X := X79) m (fun i v79 => 0 ≤ i ∧ (∀ a, a ≠ 213 → v79 a = v13 a) ∧ ∀ k : Int, 0 ≤ k → k < i → v79 213 k.toNat = b k) ?_ (by omega) ⟨by omega, fun a _ => rfl, fun k k0 k1 => by omega⟩
        intro i v79 hle ⟨i0, hf, hz⟩ hnext
        apply hX79
        refine ⟨fun hc v107 e107 => ?_, fun hc => ⟨by omega, by have := hok.1; omega, fun v98 e98 => ⟨by omega, hnext hc _ ⟨by omega, fun a ha => by rw [e98, upd2_off _ _ _ ha]; exact hf a ha, fun k k0 k1 => ?_⟩⟩⟩⟩
        · have e15 : v107 0 15 = m := by rw [e107, upd2_same]
          rw [e15]
          refine hyes hok v107 (fun a a0 a1 a2 => ?_) (fun j hj => ?_) e15 (fun j hj => ?_) ?_ (fun k k0 k1 => ?_)
          · rw [e107, upd2_off _ _ _ a0, hf a a2, f13 a a1]
          · rw [e107, upd2_j, if_neg hj, hf 0 (by omega), f13 0 (by omega)]
          · rw [e107, upd2_off _ _ _ (by omega), hf 1 (by omega)]; exact j13 j hj
          · rw [e107, upd2_off _ _ _ (by omega), hf 1 (by omega)]; exact z13
          · rw [e107, upd2_off _ _ _ (by omega)]; exact hz k k0 (by omega)
        · rw [e98, upd2_at _ _ _ i0 k0]
          by_cases e : k = i
          · rw [if_pos e, hf 2 (by omega), f13 2 (by omega), e]; exact hb i i0 hc
          · rw [if_neg e]; exact hz k k0 (by omega)
      · have hnok : ¬ okV n m b := by
          rcases hi2 with ⟨-, h⟩ | ⟨h, -⟩
          · exact h
          · omega
        unfold P_X10_refuse
        have e217 : v13 217 (1 : Int).toNat = v 217 1 := by rw [f13 217 (by omega)]; rfl
        rw [e217]
        refine ⟨by omega, by omega, by omega, fun v9 e9 => hno hnok v9 (fun a a0 a1 => ?_) (fun j hj => ?_) ?_ (fun j hj => ?_) ?_⟩
        · rw [e9, upd2_off _ _ _ a1]; exact f13 a a0
        · rw [e9, upd2_off _ _ _ (by omega)]; exact j13 j hj
        · rw [e9, upd2_off _ _ _ (by omega)]; exact z13
        · rw [e9, upd2_j, if_neg (show ¬ j = (1 : Int).toNat from hj), f13 217 (by omega)]
        · rw [e9]; exact upd2_same _ _ _ _
    intro X35 hX35
    refine up2r (X := X35) m (fun i r => 0 ≤ i ∧ ((r = 0 ∧ ¬ okV n m b) ∨ (r = 1 ∧ (1 ≤ m ∧ m ≤ 15) ∧ ∀ k : Int, 0 ≤ k → k < i → 0 ≤ b k ∧ b k < n))) ?_ (by omega) ⟨by omega, ?_⟩
    · intro r i hle ⟨i0, hr⟩ hnext
      apply hX35
      refine ⟨fun h0 => fin r ?_, fun h0 => ?_⟩
      · rcases hr with ⟨-, h⟩ | ⟨h, -⟩
        · exact Or.inl ⟨h0, h⟩
        · omega
      · rcases hr with ⟨h, -⟩ | ⟨hr1, hm2, hk⟩
        · exact absurd h h0
        · refine ⟨fun hc => fin r (Or.inr ⟨hr1, hm2, fun k k0 k1 => hk k k0 (by omega)⟩), fun hc => ⟨by omega, ?_⟩⟩
          unfold P_X0_isNode
          have e2 : v13 2 i.toNat = b i := by rw [f13 2 (by omega)]; exact hb i i0 hc
          have e10 : v13 10 0 = n := by rw [f13 10 (by omega)]; exact hg
          rw [e2, e10]
          have bad : ¬ (0 ≤ b i ∧ b i < n) → ¬ okV n m b := fun h g => h (g.2 i i0 hc)
          refine ⟨fun h => ⟨by omega, hnext hc _ ⟨by omega, Or.inl ⟨rfl, bad (by omega)⟩⟩⟩, fun h => ⟨fun h2 => ⟨by omega, hnext hc _ ⟨by omega, Or.inl ⟨rfl, bad (by omega)⟩⟩⟩, fun h2 => ⟨by omega, hnext hc _ ⟨by omega, Or.inr ⟨rfl, hm2, fun k k0 k1 => ?_⟩⟩⟩⟩⟩
          by_cases e : k = i
          · rw [e]; exact ⟨h, h2⟩
          · exact hk k k0 (by omega)
    · rcases hs0 with h | ⟨h, h2⟩
      · exact Or.inl h
      · exact Or.inr ⟨h, h2, fun k k0 k1 => by omega⟩
  exact ⟨fun h => hK31 (body 0 (Or.inl ⟨rfl, fun g => by have := g.1; omega⟩)), fun h => ⟨fun h2 => hK31 (body 0 (Or.inl ⟨rfl, fun g => by have := g.1; omega⟩)), fun h2 => body 1 (Or.inr ⟨rfl, h, h2⟩)⟩⟩
theorem SM_vote {m : Int} {b : Int → Int} (hn : 0 ≤ n ∧ n ≤ 24) (hg : v 222 0 = n) (h1 : v 218 1 = m) (hm : 0 ≤ m ∧ m ≤ 800) (hb : ∀ i : Int, 0 ≤ i → i < m → v 219 i.toNat = b i) (hN : 0 ≤ v 220 1 ∧ v 220 1 < 1000000)
    (hyes : okV n m b → ∀ v' : VT, (∀ a, a ≠ 218 → a ≠ 236 → v' a = v a) → (∀ j, j ≠ 1 → j ≠ 30 → v' 218 j = v 218 j) → v' 218 30 = m → v' 218 1 = 0 → (∀ i : Int, 0 ≤ i → i < m → v' 236 i.toNat = b i) → q m v')
    (hno : ¬ okV n m b → ∀ v' : VT, (∀ a, a ≠ 218 → a ≠ 220 → v' a = v a) → (∀ j, j ≠ 1 → v' 218 j = v 218 j) → v' 218 1 = 0 → (∀ j, j ≠ 1 → v' 220 j = v 220 j) → v' 220 1 = v 220 1 + 1 → q (-1) v') : P_X11_vote v q := by
  unfold P_X11_vote
  rw [h1]
  intro v7 e7
  have f7 : ∀ a, a ≠ 218 → v7 a = v a := fun a ha => by rw [e7, upd2_off _ _ _ ha]
  have j7 : ∀ j, j ≠ 1 → v7 218 j = v 218 j := fun j hj => by rw [e7, upd2_j, if_neg hj]
  have z7 : v7 218 1 = 0 := by rw [e7, upd2_same]
  have g7 : v7 222 0 = n := by rw [f7 222 (by omega)]; exact hg
  have body : ∀ s0 : Int, (s0 = 0 ∧ ¬ okV n m b) ∨ (s0 = 1 ∧ 1 ≤ m ∧ m ≤ 15) → ∀ K48 : Int → Prop, (∀ i2 : Int, (i2 = 0 ∧ ¬ okV n m b) ∨ (i2 = 1 ∧ okV n m b) → K48 i2) → ∀ X22 : Int → Int → Prop, (∀ (i2_1 : Int) (i3_1 : Int), (((m ≤ i3_1) → K48 i2_1) ∧ ((i3_1 < m) → ((i2_1 = 0) → K48 i2_1) ∧ ((¬ i2_1 = 0) → (0 ≤ i3_1 ∧ i3_1 < 800) ∧ P_X11_isNode (v7 219 i3_1.toNat) v7 (fun r38 => (-2147483648 ≤ i3_1 + 1 ∧ i3_1 + 1 ≤ 2147483647) ∧ X22 r38 (i3_1 + 1))))) → X22 i2_1 i3_1) → X22 s0 0 := by
    intro s0 hs0 K48 fin X22 hX22
    refine up2r (X := X22) m (fun i r => 0 ≤ i ∧ ((r = 0 ∧ ¬ okV n m b) ∨ (r = 1 ∧ (1 ≤ m ∧ m ≤ 15) ∧ ∀ k : Int, 0 ≤ k → k < i → 0 ≤ b k ∧ b k < n))) ?_ (by omega) ⟨by omega, ?_⟩
    · intro r i hle ⟨i0, hr⟩ hnext
      apply hX22
      refine ⟨fun hc => fin r ?_, fun hc => ⟨fun h0 => fin r ?_, fun h0 => ⟨by omega, ?_⟩⟩⟩
      · rcases hr with h | ⟨hr1, hm2, hk⟩
        · exact Or.inl h
        · exact Or.inr ⟨hr1, hm2, fun k k0 k1 => hk k k0 (by omega)⟩
      · rcases hr with h | ⟨h, -⟩
        · exact Or.inl h
        · omega
      · rcases hr with ⟨h, -⟩ | ⟨hr1, hm2, hk⟩
        · exact absurd h h0
        · unfold P_X11_isNode
          have e2 : v7 219 i.toNat = b i := by rw [f7 219 (by omega)]; exact hb i i0 hc
          rw [e2, g7]
          have bad : ¬ (0 ≤ b i ∧ b i < n) → ¬ okV n m b := fun h g => h (g.2 i i0 hc)
          refine ⟨by omega, S_isIn (fun h => ⟨Or.inl rfl, by omega, hnext hc _ ⟨by omega, Or.inl ⟨rfl, bad (by omega)⟩⟩⟩) (fun h => ⟨Or.inr rfl, by omega, hnext hc _ ⟨by omega, Or.inr ⟨rfl, hm2, fun k k0 k1 => ?_⟩⟩⟩)⟩
          by_cases e : k = i
          · rw [e]; omega
          · exact hk k k0 (by omega)
    · rcases hs0 with h | ⟨h, h2⟩
      · exact Or.inl h
      · exact Or.inr ⟨h, h2, fun k k0 k1 => by omega⟩
  have fin : ∀ i2 : Int, (i2 = 0 ∧ ¬ okV n m b) ∨ (i2 = 1 ∧ okV n m b) → ((¬ i2 = 0) → ∀ X60 : Int → VT → Prop, (∀ (i3 : Int) (v60 : VT), (((m ≤ i3) → ∀ v85 : VT, v85 = upd2 v60 218 30 m → q m v85) ∧ ((i3 < m) → (0 ≤ i3 ∧ i3 < 800) ∧ (0 ≤ i3 ∧ i3 < 15) ∧ ∀ v76 : VT, v76 = upd2 v60 236 i3.toNat (v60 219 i3.toNat) → (-2147483648 ≤ i3 + 1 ∧ i3 + 1 ≤ 2147483647) ∧ X60 (i3 + 1) v76)) → X60 i3 v60) → X60 0 v7) ∧ ((i2 = 0) → P_X11_refuses 1 v7 (fun r54 v54 => q r54 v54)) := by
    intro i2 hi2
    refine ⟨fun hne => ?_, fun he => ?_⟩
    · have hok : okV n m b := by
        rcases hi2 with ⟨h, -⟩ | ⟨-, h⟩
        · exact absurd h hne
        · exact h
      intro X60 hX60
      refine up2 (X := X60) m (fun i v60 => 0 ≤ i ∧ (∀ a, a ≠ 236 → v60 a = v7 a) ∧ ∀ k : Int, 0 ≤ k → k < i → v60 236 k.toNat = b k) ?_ (by omega) ⟨by omega, fun a _ => rfl, fun k k0 k1 => by omega⟩
      intro i v60 hle ⟨i0, hf, hz⟩ hnext
      apply hX60
      refine ⟨fun hc v85 e85 => hyes hok v85 (fun a a0 a1 => ?_) (fun j hj hj2 => ?_) ?_ ?_ (fun k k0 k1 => ?_), fun hc => ⟨by omega, by have := hok.1; omega, fun v76 e76 => ⟨by omega, hnext hc _ ⟨by omega, fun a ha => by rw [e76, upd2_off _ _ _ ha]; exact hf a ha, fun k k0 k1 => ?_⟩⟩⟩⟩
      · rw [e85, upd2_off _ _ _ a0, hf a a1, f7 a a0]
      · rw [e85, upd2_j, if_neg hj2, hf 218 (by omega)]; exact j7 j hj
      · rw [e85, upd2_same]
      · rw [e85, upd2_j, if_neg (by decide), hf 218 (by omega)]; exact z7
      · rw [e85, upd2_off _ _ _ (by omega)]; exact hz k k0 (by omega)
      · rw [e76, upd2_at _ _ _ i0 k0]
        by_cases e : k = i
        · rw [if_pos e, hf 219 (by omega), f7 219 (by omega), e]; exact hb i i0 hc
        · rw [if_neg e]; exact hz k k0 (by omega)
    · have hnok : ¬ okV n m b := by
        rcases hi2 with ⟨-, h⟩ | ⟨h, -⟩
        · exact h
        · omega
      unfold P_X11_refuses
      have e220 : v7 220 (1 : Int).toNat = v 220 1 := by rw [f7 220 (by omega)]; rfl
      rw [e220]
      refine ⟨by omega, by omega, by omega, fun v9 e9 => hno hnok v9 (fun a a0 a1 => ?_) (fun j hj => ?_) ?_ (fun j hj => ?_) ?_⟩
      · rw [e9, upd2_off _ _ _ a1]; exact f7 a a0
      · rw [e9, upd2_off _ _ _ (by omega)]; exact j7 j hj
      · rw [e9, upd2_off _ _ _ (by omega)]; exact z7
      · rw [e9, upd2_j, if_neg (show ¬ j = (1 : Int).toNat from hj), f7 220 (by omega)]
      · rw [e9]; exact upd2_same _ _ _ _
  refine S_isIn (fun hc => ?_) (fun hc => ?_)
  · exact fun K48 hK48 => body 0 (Or.inl ⟨rfl, fun g => hc g.1⟩) K48 (fun i2 h => hK48 i2 (fin i2 h))
  · exact fun K48 hK48 => body 1 (Or.inr ⟨rfl, hc⟩) K48 (fun i2 h => hK48 i2 (fin i2 h))
end Q16

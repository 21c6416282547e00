/-! ===== the reference: the line between two nodes ===== -/
theorem S_lineOf {n x y : Int} {g : Nat} {L : List Ln} {v : VT} {q : Int → Prop} (w : wfL n L) (hg : mG v g n L) (h0 : ¬ adj L x y → q (-1)) (h1 : ∀ k : Int, 0 ≤ k → k < L.length → ((lo L k = x ∧ hi L k = y) ∨ (lo L k = y ∧ hi L k = x)) → q k) : P_X11_lineOf g x y v q := by
  have hlen := w.2.2
  unfold P_X11_lineOf
  rw [hg.2.1]
  intro K10 hK10
  have body : ∀ a b : Int, (a = x ∧ b = y ∧ x < y) ∨ (a = y ∧ b = x ∧ y ≤ x) → ∀ K21 : Int → Prop, (∀ (s0_1 : Int), (∀ X26 : Int → Prop, (∀ (i5 : Int), ((((L.length : Int) ≤ i5) → q (-1)) ∧ ((i5 < (L.length : Int)) → (-2147483648 ≤ 2 * i5 ∧ 2 * i5 ≤ 2147483647) ∧ (-2147483648 ≤ 26 + (2 * i5) ∧ 26 + (2 * i5) ≤ 2147483647) ∧ (0 ≤ (26 + (2 * i5)) ∧ (26 + (2 * i5)) < 206) ∧ ((¬ (v g (26 + (2 * i5)).toNat) = a) → (-2147483648 ≤ i5 + 1 ∧ i5 + 1 ≤ 2147483647) ∧ X26 (i5 + 1)) ∧ (((v g (26 + (2 * i5)).toNat) = a) → (-2147483648 ≤ 2 * i5 ∧ 2 * i5 ≤ 2147483647) ∧ (-2147483648 ≤ 26 + (2 * i5) ∧ 26 + (2 * i5) ≤ 2147483647) ∧ (-2147483648 ≤ (26 + (2 * i5)) + 1 ∧ (26 + (2 * i5)) + 1 ≤ 2147483647) ∧ (0 ≤ ((26 + (2 * i5)) + 1) ∧ ((26 + (2 * i5)) + 1) < 206) ∧ ((¬ (v g ((26 + (2 * i5)) + 1).toNat) = s0_1) → (-2147483648 ≤ i5 + 1 ∧ i5 + 1 ≤ 2147483647) ∧ X26 (i5 + 1)) ∧ (((v g ((26 + (2 * i5)) + 1).toNat) = s0_1) → q i5)))) → X26 i5) → X26 0) → K21 s0_1) → K21 b := by
    intro a b hab K21 hK21
    apply hK21
    intro X26 hX26
    refine up1 (X := X26) (L.length : Int) (fun i => 0 ≤ i ∧ ∀ k : Int, 0 ≤ k → k < i → ¬ (lo L k = a ∧ hi L k = b)) ?_ (by omega) ⟨by omega, fun k k0 k1 => by omega⟩
    intro i hle ⟨i0, hb⟩ hnext
    apply hX26
    have step : ¬ (lo L i = a ∧ hi L i = b) → ∀ k : Int, 0 ≤ k → k < i + 1 → ¬ (lo L k = a ∧ hi L k = b) := fun hno k k0 k1 => by
      by_cases e : k = i
      · rw [e]; exact hno
      · exact hb k k0 (by omega)
    refine ⟨fun hc => h0 ?_, fun hc => ?_⟩
    · rintro ⟨k, k0, k1, k2⟩
      have hw := w.1 k k0 k1
      have := hb k k0 (by omega)
      omega
    · obtain ⟨e1, e2, -⟩ := hg.2.2 i i0 hc
      rw [e1, e2]
      refine ⟨by omega, by omega, by omega, fun hne => ⟨by omega, hnext hc ⟨by omega, step (fun g => hne g.1)⟩⟩, fun he => ⟨by omega, by omega, by omega, by omega, fun hne => ⟨by omega, hnext hc ⟨by omega, step (fun g => hne g.2)⟩⟩, fun he2 => h1 i i0 hc ?_⟩⟩
      omega
  refine ⟨fun h => hK10 _ (fun K21 hK21 => ⟨fun _ => ?_, fun h2 => by omega⟩), fun h => hK10 _ (fun K21 hK21 => ⟨fun h2 => by omega, fun _ => ?_⟩)⟩
  · exact body y x (Or.inr ⟨rfl, rfl, h⟩) K21 hK21
  · exact body x y (Or.inl ⟨rfl, rfl, h⟩) K21 hK21

/-! ===== the class: weigh ===== -/
def fop (x : Int) : Int → Int → Int := fun c p => if x = 0 then c + p else max c p
theorem okf_op (x : Int) : okf (fop x) := by
  by_cases h : x = 0
  · have : fop x = fun c p => c + p := by funext c p; unfold fop; rw [if_pos h]
    rw [this]; exact okf_add
  · have : fop x = fun c p => max c p := by funext c p; unfold fop; rw [if_neg h]
    rw [this]; exact okf_max
section Weigh
variable {n t : Int} {L : List Ln} {v : VT}
theorem S_lower {a b p x : Int} {q : Int → VT → Prop} (ha : 0 ≤ a ∧ a < 24) (hb : 0 ≤ b ∧ b < 24) (hr : 0 ≤ v 201 b.toNat ∧ v 201 b.toNat ≤ 1000000) (hp : 1 ≤ p ∧ p ≤ 9)
    (h1 : v 201 b.toNat < 1000000 → fop x (v 201 b.toNat) p < v 201 a.toNat → ∀ v', v' = upd2 v 201 a.toNat (fop x (v 201 b.toNat) p) → q 1 v') (h0 : (v 201 b.toNat < 1000000 → v 201 a.toNat ≤ fop x (v 201 b.toNat) p) → q 0 v) : P_X6_lower a b p x v q := by
  unfold P_X6_lower
  refine ⟨by omega, fun hlt => ?_, fun hge => h0 (fun h => by omega)⟩
  intro K39 hK39
  have body : ∀ s0 : Int, s0 = fop x (v 201 b.toNat) p → K39 s0 := by
    intro s0 e
    apply hK39
    refine ⟨by omega, fun hl => ⟨by omega, fun v61 e61 => h1 hlt (by rw [← e]; exact hl) v61 (by rw [e61, e])⟩, fun hg => h0 (fun _ => by rw [← e]; exact hg)⟩
  refine ⟨fun hx => ⟨by omega, by omega, body _ (by unfold fop; rw [if_pos hx])⟩, fun hx => ⟨by omega, body _ (by unfold fop; rw [if_neg hx])⟩⟩
def wA (f : Int → Int → Int) (L : List Ln) (n t : Int) (v : VT) : Prop := v 201 t.toNat = 0 ∧ ∀ a : Int, 0 ≤ a → a < n → (v 201 a.toNat = 1000000 ∨ ∃ k, cwk f L t k a (v 201 a.toNat)) ∧ 0 ≤ v 201 a.toNat ∧ v 201 a.toNat ≤ 1000000
theorem wA_put {f : Int → Int → Int} (w : wfL n L) (hf : okf f) (ht : 0 ≤ t ∧ t < n) {a b p : Int} {v' : VT} (h : wA f L n t v) (hab : nbp L b a p) (hlt : v 201 b.toNat < 1000000) (hl : f (v 201 b.toNat) p < v 201 a.toNat) (e : v' = upd2 v 201 a.toNat (f (v 201 b.toNat) p)) : wA f L n t v' ∧ ∀ c : Int, 0 ≤ c → v' 201 c.toNat = if c = a then f (v 201 b.toNat) p else v 201 c.toNat := by
  have hin := adj_in w (nbp_adj hab)
  have hpr := nbp_r w hab
  have hb := h.2 b hin.1 hin.2.1
  have m := hf.2.1 (v 201 b.toNat) p hb.2.1 hpr.1
  have at' : ∀ c : Int, 0 ≤ c → v' 201 c.toNat = if c = a then f (v 201 b.toNat) p else v 201 c.toNat := fun c c0 => by
    rw [e, upd2_at _ _ _ hin.2.2.1 c0]
  refine ⟨⟨?_, fun c c0 c1 => ?_⟩, at'⟩
  · rw [at' t ht.1]
    by_cases et : t = a
    · rw [← et] at hl; have := h.1; omega
    · rw [if_neg et]; exact h.1
  · rw [at' c c0]
    have hc := h.2 c c0 c1
    by_cases ec : c = a
    · rw [if_pos ec]
      have ha := h.2 a hin.2.2.1 hin.2.2.2.1
      rcases hb.1 with h2 | ⟨k, h2⟩
      · omega
      · exact ⟨Or.inr ⟨k + 1, by rw [ec]; exact ⟨b, _, p, hab, h2, rfl⟩⟩, by omega, by omega⟩
    · rw [if_neg ec]; exact hc
theorem S_weigh {x : Int} {q : VT → Prop} (w : wfL n L) (hn : 0 ≤ n ∧ n ≤ 24) (hg : xG v 10 n L) (ht : 0 ≤ t ∧ t < n)
    (hq : ∀ v', (∀ a, a ≠ 201 → v' a = v a) → (∀ a : Int, 0 ≤ a → a < n → 0 ≤ dd L t a → isL (fop x) L t a (v' 201 a.toNat)) → (∀ a : Int, 0 ≤ a → a < n → 0 ≤ v' 201 a.toNat ∧ v' 201 a.toNat ≤ 1000000) → q v') : P_X6_weigh t x v q := by
  have hf := okf_op x
  have hlen := w.2.2
  have gr : ∀ v' : VT, (∀ a, a ≠ 201 → v' a = v a) → xG v' 10 n L := fun v' h => xG_frame hg (h 10 (by omega)) (h 12 (by omega)) (h 13 (by omega)) (h 14 (by omega))
  unfold P_X6_weigh
  intro K37 hK37 X3 hX3
  have fin : ∀ v' : VT, (∀ a, a ≠ 201 → v' a = v a) → wA (fop x) L n t v' → (∀ (k : Nat) (a c : Int), (k : Int) < n → cwk (fop x) L t k a c → v' 201 a.toNat ≤ c) → q v' := by
    intro v' hfr hA hB
    refine hq v' hfr (fun a a0 a1 hd => ?_) (fun a a0 a1 => (hA.2 a a0 a1).2)
    obtain ⟨k, c, hk⟩ := cwk_ex (f := fop x) ⟨_, dd_wk hd⟩
    obtain ⟨k', c', g1, g2, g3⟩ := cwk_short w hf ht k hk
    have h1 := hB k' a c' g1 g3
    have h2 := cwk_r w hf g3
    refine isL_n w hf ht ?_ (fun k c' hk h => hB k a c' hk h)
    rcases (hA.2 a a0 a1).1 with h3 | h3
    · omega
    · exact h3
  have s1 : ∀ v37 : VT, (∀ a, a ≠ 201 → v37 a = v a) → wA (fop x) L n t v37 → K37 v37 := by
    intro v37 hfr hA
    apply hK37
    intro X43 hX43
    refine wh3 (X := X43) (fun ch i v43 => 0 ≤ i ∧ i ≤ n ∧ (∀ a, a ≠ 201 → v43 a = v a) ∧ wA (fop x) L n t v43 ∧ (∀ (k : Nat) (a c : Int), (k : Int) ≤ i ∨ ch = 0 → cwk (fop x) L t k a c → v43 201 a.toNat ≤ c)) (fun ch i v43 => (n - i).toNat) ?_ ⟨by omega, by omega, hfr, hA, fun k a c hk h => ?_⟩
    · intro ch i v43 ⟨i0, hle, hf4, hA4, hB4⟩ hnext
      apply hX43
      have g43 := gr v43 hf4
      rw [g43.1]
      refine ⟨fun h0 => fin v43 hf4 hA4 (fun k a c _ h => hB4 k a c (Or.inr h0) h), fun h0 => ⟨fun hc => fin v43 hf4 hA4 (fun k a c hk h => hB4 k a c (Or.inl (by omega)) h), fun hc => ?_⟩⟩
      intro X63 hX63
      refine up3m (X := X63) (L.length : Int) (fun j ch v63 => 0 ≤ j ∧ (ch = 0 ∨ ch = 1) ∧ (∀ a, a ≠ 201 → v63 a = v a) ∧ wA (fop x) L n t v63 ∧ (∀ a : Int, 0 ≤ a → a < n → v63 201 a.toNat ≤ v43 201 a.toNat) ∧ (ch = 0 → ∀ a : Int, 0 ≤ a → a < n → v63 201 a.toNat = v43 201 a.toNat) ∧ (∀ l : Int, 0 ≤ l → l < j → (v43 201 (hi L l).toNat < 1000000 → v63 201 (lo L l).toNat ≤ fop x (v43 201 (hi L l).toNat) (pr L l)) ∧ (v43 201 (lo L l).toNat < 1000000 → v63 201 (hi L l).toNat ≤ fop x (v43 201 (lo L l).toNat) (pr L l)))) ?_ (by omega) ⟨by omega, Or.inl rfl, hf4, hA4, fun a a0 a1 => Int.le_refl _, fun _ a a0 a1 => rfl, fun l l0 l1 => by omega⟩
      intro c6 j v63 hle2 ⟨j0, hch, hf6, hA6, hm6, he6, hl6⟩ hnext2
      apply hX63
      obtain ⟨g0, g1, g2⟩ := xG_10 (gr v63 hf6)
      rw [g1]
      refine ⟨fun hc2 => ⟨by omega, hnext _ _ _ ⟨by omega, by omega, hf6, hA6, fun k a c hk h => ?_⟩ (by omega)⟩, fun hc2 => ⟨by omega, by omega, by omega, ?_⟩⟩
      · have e : j = (L.length : Int) := by omega
        have step : ∀ b a p, nbp L b a p → v43 201 b.toNat < 1000000 → v63 201 a.toNat ≤ fop x (v43 201 b.toNat) p := by
          rintro b a p ⟨l, l0, l1, l2, l3⟩ hlt
          have := hl6 l l0 (by omega)
          rw [← l3]
          rcases l2 with ⟨e1, e2⟩ | ⟨e1, e2⟩
          · rw [← e1, ← e2]; rw [← e1] at hlt; exact this.2 hlt
          · rw [← e1, ← e2]; rw [← e2] at hlt; exact this.1 hlt
        by_cases hz : c6 = 0
        · refine fix_le w hf (V := fun a => v63 201 a.toNat) (cap := 1000000) (by show v63 201 t.toNat ≤ 0; rw [hA6.1]; omega) (fun b a p hp => ?_) (fun b a p hp hlt => ?_) h
          · have hin := adj_in w (nbp_adj hp)
            exact (hA6.2 a hin.2.2.1 hin.2.2.2.1).2.2
          · have hin := adj_in w (nbp_adj hp)
            have eb := he6 hz b hin.1 hin.2.1
            show v63 201 a.toNat ≤ fop x (v63 201 b.toNat) p
            have hlt : v63 201 b.toNat < 1000000 := hlt
            rw [eb] at hlt ⊢
            exact step b a p hp hlt
        · have hk : (k : Int) ≤ i + 1 := by omega
          cases k with
          | zero => rw [h.1, hA6.1, h.2]; omega
          | succ k =>
            obtain ⟨b, c', p, h1, h2, h3⟩ := h
            have b1 := hB4 k b c' (Or.inl (by omega)) h2
            have r1 := cwk_r w hf h2
            have := step b a p h1 (by omega)
            have := hf.1 (v43 201 b.toNat) c' p b1
            rw [h3]; omega
      · have hw := w.1 j j0 hc2
        obtain ⟨q1, q2, q3⟩ := g2 j j0 hc2
        rw [q1, q2, q3]
        have nlo : nbp L (hi L j) (lo L j) (pr L j) := ⟨j, j0, hc2, Or.inr ⟨rfl, rfl⟩, rfl⟩
        have nhi : nbp L (lo L j) (hi L j) (pr L j) := ⟨j, j0, hc2, Or.inl ⟨rfl, rfl⟩, rfl⟩
        have second : ∀ (r95 : Int) (v95 : VT), (r95 = 0 ∨ r95 = 1) → (∀ a, a ≠ 201 → v95 a = v a) → wA (fop x) L n t v95 → (∀ a : Int, 0 ≤ a → a < n → v95 201 a.toNat ≤ v63 201 a.toNat) → (r95 = 0 → ∀ a : Int, 0 ≤ a → a < n → v95 201 a.toNat = v63 201 a.toNat) → (v63 201 (hi L j).toNat < 1000000 → v95 201 (lo L j).toNat ≤ fop x (v63 201 (hi L j).toNat) (pr L j)) → ∀ (r123 : Int) (v123 : VT), (r123 = 0 ∨ r123 = 1) → (∀ a, a ≠ 201 → v123 a = v a) → wA (fop x) L n t v123 → (∀ a : Int, 0 ≤ a → a < n → v123 201 a.toNat ≤ v95 201 a.toNat) → (r123 = 0 → ∀ a : Int, 0 ≤ a → a < n → v123 201 a.toNat = v95 201 a.toNat) → (v95 201 (lo L j).toNat < 1000000 → v123 201 (hi L j).toNat ≤ fop x (v95 201 (lo L j).toNat) (pr L j)) → ∀ ch : Int, (ch = 0 ∨ ch = 1) → (ch = 0 → c6 = 0 ∧ r95 = 0 ∧ r123 = 0) → X63 ch (j + 1) v123 := by
          intro r95 v95 hr9 hf9 hA9 hm9 he9 hl9 r123 v123 hr12 hf12 hA12 hm12 he12 hl12 ch hch2 hz
          refine hnext2 hc2 _ _ ⟨by omega, hch2, hf12, hA12, fun a a0 a1 => by have := hm12 a a0 a1; have := hm9 a a0 a1; have := hm6 a a0 a1; omega, fun h0 a a0 a1 => ?_, fun l l0 l1 => ?_⟩
          · obtain ⟨z1, z2, z3⟩ := hz h0
            rw [he12 z3 a a0 a1, he9 z2 a a0 a1, he6 z1 a a0 a1]
          · have hwl := w.1 l l0 (by omega)
            have x1 := hm12 (lo L l) (by omega) (by omega)
            have x2 := hm9 (lo L l) (by omega) (by omega)
            have y1 := hm12 (hi L l) (by omega) (by omega)
            have y2 := hm9 (hi L l) (by omega) (by omega)
            by_cases el : l = j
            · rw [el] at x1 x2 y1 y2 ⊢
              have z1 := hm6 (hi L j) (by omega) (by omega)
              have z2 := hm6 (lo L j) (by omega) (by omega)
              refine ⟨fun hlt => ?_, fun hlt => ?_⟩
              · have a1 := hl9 (by omega)
                have a2 := hf.1 (v63 201 (hi L j).toNat) (v43 201 (hi L j).toNat) (pr L j) z1
                omega
              · have a1 := hl12 (by omega)
                have a2 := hf.1 (v95 201 (lo L j).toNat) (v43 201 (lo L j).toNat) (pr L j) (by omega)
                omega
            · have := hl6 l l0 (by omega)
              exact ⟨fun hlt => by have := this.1 hlt; omega, fun hlt => by have := this.2 hlt; omega⟩
        have tail : ∀ (r95 : Int) (v95 : VT), (r95 = 0 ∨ r95 = 1) → (∀ a, a ≠ 201 → v95 a = v a) → wA (fop x) L n t v95 → (∀ a : Int, 0 ≤ a → a < n → v95 201 a.toNat ≤ v63 201 a.toNat) → (r95 = 0 → ∀ a : Int, 0 ≤ a → a < n → v95 201 a.toNat = v63 201 a.toNat) → (v63 201 (hi L j).toNat < 1000000 → v95 201 (lo L j).toNat ≤ fop x (v63 201 (hi L j).toNat) (pr L j)) → (0 ≤ j ∧ j < 60) ∧ (0 ≤ j ∧ j < 60) ∧ (0 ≤ j ∧ j < 60) ∧ P_X6_lower (v95 13 j.toNat) (v95 12 j.toNat) (v95 14 j.toNat) x v95 (fun r123 v123 => ((¬ c6 = 0) → (-2147483648 ≤ j + 1 ∧ j + 1 ≤ 2147483647) ∧ X63 1 (j + 1) v123) ∧ ((c6 = 0) → ((¬ r95 = 0) → (-2147483648 ≤ j + 1 ∧ j + 1 ≤ 2147483647) ∧ X63 1 (j + 1) v123) ∧ ((r95 = 0) → ((r123 = 0) → (-2147483648 ≤ j + 1 ∧ j + 1 ≤ 2147483647) ∧ X63 0 (j + 1) v123) ∧ ((¬ r123 = 0) → (-2147483648 ≤ j + 1 ∧ j + 1 ≤ 2147483647) ∧ X63 1 (j + 1) v123)))) := by
          intro r95 v95 hr9 hf9 hA9 hm9 he9 hl9
          obtain ⟨-, -, g2'⟩ := xG_10 (gr v95 hf9)
          obtain ⟨q1, q2, q3⟩ := g2' j j0 hc2
          rw [q1, q2, q3]
          have rlo := (hA9.2 (lo L j) (by omega) (by omega)).2
          have fin2 : ∀ (r123 : Int) (v123 : VT), (r123 = 0 ∨ r123 = 1) → (∀ a, a ≠ 201 → v123 a = v a) → wA (fop x) L n t v123 → (∀ a : Int, 0 ≤ a → a < n → v123 201 a.toNat ≤ v95 201 a.toNat) → (r123 = 0 → ∀ a : Int, 0 ≤ a → a < n → v123 201 a.toNat = v95 201 a.toNat) → (v95 201 (lo L j).toNat < 1000000 → v123 201 (hi L j).toNat ≤ fop x (v95 201 (lo L j).toNat) (pr L j)) → ((¬ c6 = 0) → (-2147483648 ≤ j + 1 ∧ j + 1 ≤ 2147483647) ∧ X63 1 (j + 1) v123) ∧ ((c6 = 0) → ((¬ r95 = 0) → (-2147483648 ≤ j + 1 ∧ j + 1 ≤ 2147483647) ∧ X63 1 (j + 1) v123) ∧ ((r95 = 0) → ((r123 = 0) → (-2147483648 ≤ j + 1 ∧ j + 1 ≤ 2147483647) ∧ X63 0 (j + 1) v123) ∧ ((¬ r123 = 0) → (-2147483648 ≤ j + 1 ∧ j + 1 ≤ 2147483647) ∧ X63 1 (j + 1) v123))) := by
            intro r123 v123 k1 k2 k3 k4 k5 k6
            have go := second r95 v95 hr9 hf9 hA9 hm9 he9 hl9 r123 v123 k1 k2 k3 k4 k5 k6
            exact ⟨fun _ => ⟨by omega, go 1 (Or.inr rfl) (fun h => absurd h (by decide))⟩, fun hz => ⟨fun _ => ⟨by omega, go 1 (Or.inr rfl) (fun h => absurd h (by decide))⟩, fun hz2 => ⟨fun hz3 => ⟨by omega, go 0 (Or.inl rfl) (fun _ => ⟨hz, hz2, hz3⟩)⟩, fun _ => ⟨by omega, go 1 (Or.inr rfl) (fun h => absurd h (by decide))⟩⟩⟩⟩
          refine ⟨by omega, by omega, by omega, S_lower (by omega) (by omega) rlo (by omega) (fun hlt hl v' ev => ?_) (fun hno => fin2 0 v95 (Or.inl rfl) hf9 hA9 (fun a _ _ => Int.le_refl _) (fun _ a _ _ => rfl) hno)⟩
          obtain ⟨p1, p2⟩ := wA_put w hf ht hA9 nhi hlt hl ev
          refine fin2 1 v' (Or.inr rfl) (fun a ha => by rw [ev, upd2_off _ _ _ ha]; exact hf9 a ha) p1 (fun a a0 a1 => ?_) (fun h => absurd h (by decide)) (fun _ => by rw [p2 _ (by omega), if_pos rfl]; exact Int.le_refl _)
          rw [p2 a a0]
          by_cases ea : a = hi L j
          · rw [if_pos ea, ea]; omega
          · rw [if_neg ea]; exact Int.le_refl _
        have rhi := (hA6.2 (hi L j) (by omega) (by omega)).2
        refine S_lower (by omega) (by omega) rhi (by omega) (fun hlt hl v' ev => ?_) (fun hno => tail 0 v63 (Or.inl rfl) hf6 hA6 (fun a _ _ => Int.le_refl _) (fun _ a _ _ => rfl) hno)
        obtain ⟨p1, p2⟩ := wA_put w hf ht hA6 nlo hlt hl ev
        refine tail 1 v' (Or.inr rfl) (fun a ha => by rw [ev, upd2_off _ _ _ ha]; exact hf6 a ha) p1 (fun a a0 a1 => ?_) (fun h => absurd h (by decide)) (fun _ => by rw [p2 _ (by omega), if_pos rfl]; exact Int.le_refl _)
        rw [p2 a a0]
        by_cases ea : a = lo L j
        · rw [if_pos ea, ea]; omega
        · rw [if_neg ea]; exact Int.le_refl _
    · have hk : k = 0 := by omega
      rw [hk] at h
      rw [h.1, hA.1, h.2]; omega
  refine up2 (X := X3) n (fun i v3 => 0 ≤ i ∧ (∀ a, a ≠ 201 → v3 a = v a) ∧ ∀ a : Int, 0 ≤ a → a < i → v3 201 a.toNat = if a = t then 0 else 1000000) ?_ (by omega) ⟨by omega, fun a _ => rfl, fun a a0 a1 => by omega⟩
  intro i v3 hle ⟨i0, hfr, hz⟩ hnext
  apply hX3
  rw [(gr v3 hfr).1]
  have put : ∀ y : Int, y = (if i = t then 0 else 1000000) → i < n → ∀ v30 : VT, v30 = upd2 v3 201 i.toNat y → X3 (i + 1) v30 := by
    intro y hy hc v30 e30
    refine hnext hc _ ⟨by omega, fun a ha => by rw [e30, upd2_off _ _ _ ha]; exact hfr a ha, fun a a0 a1 => ?_⟩
    rw [e30, upd2_at _ _ _ i0 a0]
    by_cases e : a = i
    · rw [if_pos e, hy, e]
    · rw [if_neg e]; exact hz a a0 (by omega)
  refine ⟨fun hc => s1 v3 hfr ⟨by rw [hz t ht.1 (by omega), if_pos rfl], fun a a0 a1 => ?_⟩, fun hc => ⟨fun hne => ⟨by omega, fun v30 e30 => ⟨by omega, put _ (by rw [if_neg hne]) hc v30 e30⟩⟩, fun he => ⟨by omega, fun v30 e30 => ⟨by omega, put _ (by rw [if_pos he]) hc v30 e30⟩⟩⟩⟩
  rw [hz a a0 (by omega)]
  by_cases e : a = t
  · rw [if_pos e]; exact ⟨Or.inr ⟨0, e, rfl⟩, by omega, by omega⟩
  · rw [if_neg e]; exact ⟨Or.inl rfl, by omega, by omega⟩
end Weigh

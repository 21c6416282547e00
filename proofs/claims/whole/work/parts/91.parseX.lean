/-! ===== the class reads a text ===== -/
section RowF
variable {m p : Int} {b : Int → Int} {way : Bool} {f : Nat} {A A' : Net} {last j x : Int}
theorem rowF_i {e : Flt} (h : ndS m b way (sk m b p) A last j = .inl e) : rowF m b way (f + 1) p A last j = .inl e := by
  show (match ndS m b way (sk m b p) A last j with
      | .inl e => .inl e
      | .inr (A', x) => _ : Flt ⊕ (Int × Net)) = _
  rw [h]
theorem rowF_c (h : ndS m b way (sk m b p) A last j = .inr (A', x)) (hs : sgn m b (sk m b (sk m b p + (rn m b (sk m b p) : Int))) = 44) : rowF m b way (f + 1) p A last j = rowF m b way f (sk m b (sk m b p + (rn m b (sk m b p) : Int)) + 1) A' x (j + 1) := by
  show (match ndS m b way (sk m b p) A last j with
      | .inl e => .inl e
      | .inr (A', x) => _ : Flt ⊕ (Int × Net)) = _
  rw [h]
  dsimp only
  rw [if_pos hs]
theorem rowF_s (h : ndS m b way (sk m b p) A last j = .inr (A', x)) (hs : sgn m b (sk m b (sk m b p + (rn m b (sk m b p) : Int))) = 59 ∧ (way = true → 1 ≤ j)) : rowF m b way (f + 1) p A last j = .inr (sk m b (sk m b p + (rn m b (sk m b p) : Int)) + 1, A') := by
  show (match ndS m b way (sk m b p) A last j with
      | .inl e => .inl e
      | .inr (A', x) => _ : Flt ⊕ (Int × Net)) = _
  rw [h]
  dsimp only
  rw [if_neg (by rw [hs.1]; decide), if_pos hs]
theorem rowF_b (h : ndS m b way (sk m b p) A last j = .inr (A', x)) (h1 : ¬ sgn m b (sk m b (sk m b p + (rn m b (sk m b p) : Int))) = 44) (h2 : ¬ (sgn m b (sk m b (sk m b p + (rn m b (sk m b p) : Int))) = 59 ∧ (way = true → 1 ≤ j))) : rowF m b way (f + 1) p A last j = .inl (1, sk m b (sk m b p + (rn m b (sk m b p) : Int))) := by
  show (match ndS m b way (sk m b p) A last j with
      | .inl e => .inl e
      | .inr (A', x) => _ : Flt ⊕ (Int × Net)) = _
  rw [h]
  dsimp only
  rw [if_neg h1, if_neg h2]
end RowF
def xFr (v0 v : VT) : Prop := ∀ a, ¬ (3 ≤ a ∧ a ≤ 8) → v a = v0 a
def xSt (v0 v : VT) (p : Int) (A : Net) (s : Int) : Prop := xFr v0 v ∧ v 3 1 = 0 ∧ v 3 2 = -1 ∧ v 3 3 = s ∧ v 3 4 = p ∧ xNet v 4 A
def xBd (v0 v : VT) (e : Flt) : Prop := xFr v0 v ∧ v 3 1 = e.1 ∧ v 3 2 = e.2
section ParseX
variable {v0 v : VT} {m p s : Int} {b : Int → Int} {A : Net}
theorem xTp (ht : isTp v0 m b) (h : xFr v0 v) : isTp v m b := isTp_frame ht (h 1 (by omega)) (h 2 (by omega))
theorem S_skip {q : VT → Prop} (ht : isTp v0 m b) (h : xSt v0 v p A s) (hp : 0 ≤ p ∧ p ≤ m) (hq : ∀ v', xSt v0 v' (sk m b p) A s → q v') : P_X5_skipBlanks v q := by
  have hm := ht.2.1
  unfold P_X5_skipBlanks
  intro X0 hX0
  refine wh1 (X := X0) (fun v' => ∃ p' : Int, xSt v0 v' p' A s ∧ (p ≤ p' ∧ p' ≤ m) ∧ ∀ i : Int, p ≤ i → i < p' → b i = 32 ∨ b i = 10) (fun v' => (m - v' 3 4).toNat) ?_ ⟨p, h, by omega, fun i i0 i1 => by omega⟩
  intro v' ⟨p', h', hr, hb⟩ hnext
  have t' := xTp ht h'.1
  apply hX0
  rw [t'.1, h'.2.2.2.2.1]
  have step : p' < m → (b p' = 32 ∨ b p' = 10) → (-2147483648 ≤ p' + 1 ∧ p' + 1 ≤ 2147483647) ∧ ∀ v44 : VT, v44 = upd2 v' 3 4 (p' + 1) → X0 v44 := fun hlt hbl => ⟨by omega, fun v44 e44 => by
    have f44 : ∀ a, a ≠ 3 → v44 a = v' a := fun a ha => by rw [e44]; exact upd2_off _ _ _ ha
    have j44 : ∀ j, j ≠ 4 → v44 3 j = v' 3 j := fun j hj => by rw [e44, upd2_j, if_neg hj]
    refine hnext _ ⟨p' + 1, ⟨fun a ha => by rw [f44 a (by omega)]; exact h'.1 a ha, by rw [j44 1 (by decide)]; exact h'.2.1, by rw [j44 2 (by decide)]; exact h'.2.2.1, by rw [j44 3 (by decide)]; exact h'.2.2.2.1, by rw [e44, upd2_same], xNet_fr h'.2.2.2.2.2 (fun a ha => f44 a (by omega))⟩, by omega, fun i i0 i1 => ?_⟩ (by rw [e44, upd2_same, h'.2.2.2.2.1]; omega)
    by_cases e : i = p'
    · rw [e]; exact hbl
    · exact hb i i0 (by omega)⟩
  refine ⟨fun hc => ?_, fun hc => S_byteAt t' (by omega) ⟨fun g => step hc (Or.inl g), fun g => S_byteAt t' (by omega) ⟨fun g2 => ?_, fun g2 => step hc (Or.inr g2)⟩⟩⟩
  · have e : sk m b p = p' := sk_is ⟨⟨by omega, by omega⟩, hb, Or.inl (by omega)⟩
    exact hq v' (by rw [e]; exact h')
  · have e : sk m b p = p' := sk_is ⟨⟨by omega, by omega⟩, hb, Or.inr ⟨g, g2⟩⟩
    exact hq v' (by rw [e]; exact h')
theorem S_rw {q : VT → Prop} (ht : isTp v0 m b) (h : xSt v0 v p A s) (hp : 0 ≤ p ∧ p ≤ m) (hq : ∀ v', xSt v0 v' (p + (rn m b p : Int)) A s → v' 3 5 = p → v' 3 6 = (rn m b p : Int) → v' 3 7 = cx (wrd b p (min (rn m b p) 4)) → q v') : P_X5_readWord v q := by
  refine S_readWord (xTp ht h.1) h.2.2.2.2.1 hp (fun v' k f' j' e5 e6 e4 e7 hr => ?_)
  have ek := rn_is hr
  subst ek
  exact hq v' ⟨fun a ha => by rw [f' a (by omega)]; exact h.1 a ha, by rw [j' 1 (by omega) (by omega) (by omega) (by omega)]; exact h.2.1, by rw [j' 2 (by omega) (by omega) (by omega) (by omega)]; exact h.2.2.1, by rw [j' 3 (by omega) (by omega) (by omega) (by omega)]; exact h.2.2.2.1, e4, xNet_fr h.2.2.2.2.2 (fun a ha => f' a (by omega))⟩ e5 e6 e7
theorem S_isWord {k2 : Nat} {q : Int → Prop} (hk2 : k2 = 1 ∨ k2 = 2) (ht : isTp v m b) (hp : 0 ≤ p ∧ p ≤ m) (e5 : v 3 5 = p) (e6 : v 3 6 = (rn m b p : Int)) (h0 : ¬ wdw k2 m b p → q 0) (h1 : wdw k2 m b p → q 1) : P_X5_isWord k2 v q := by
  have hr := rn_spec (b := b) hp.2
  have hm := ht.2.1
  have hs : sLen k2 = 5 ∨ sLen k2 = 3 := by rcases hk2 with e | e <;> rw [e] <;> decide
  unfold P_X5_isWord
  rw [e5, e6]
  intro K16 hK16
  refine ⟨fun hne => hK16 _ (fun X20 hX20 => ?_), fun he => hK16 _ (fun X20 hX20 => ?_)⟩
  · apply hX20
    exact ⟨fun _ => ⟨Or.inl rfl, h0 (fun g => hne g.1)⟩, fun g => absurd rfl g⟩
  · refine up2r (X := X20) (sLen k2) (fun i r => 0 ≤ i ∧ ((r = 0 ∧ ¬ wdw k2 m b p) ∨ (r = 1 ∧ ∀ k : Int, 0 ≤ k → k < i → b (p + k) = sAt k2 k.toNat))) ?_ (by omega) ⟨by omega, Or.inr ⟨rfl, fun k k0 k1 => by omega⟩⟩
    intro r i hle ⟨i0, hst⟩ hnext
    apply hX20
    refine ⟨fun hz => ⟨Or.inl hz, ?_⟩, fun hnz => ?_⟩
    · rcases hst with ⟨-, g⟩ | ⟨g, -⟩
      · rw [hz]; exact h0 g
      · omega
    · rcases hst with ⟨g, -⟩ | ⟨g, gb⟩
      · exact absurd g hnz
      · refine ⟨fun hge => ⟨Or.inr g, ?_⟩, fun hlt => ⟨by omega, S_byteAt ht (by have := hr.1; omega) ⟨by omega, fun hne => ⟨by omega, hnext hlt _ ⟨by omega, Or.inl ⟨rfl, fun w => hne (w.2 i i0 hlt)⟩⟩⟩, fun heq => ⟨by omega, hnext hlt _ ⟨by omega, Or.inr ⟨rfl, fun k k0 k1 => ?_⟩⟩⟩⟩⟩⟩
        · rw [g]; exact h1 ⟨he, fun k k0 k1 => gb k k0 (by omega)⟩
        · by_cases e : k = i
          · rw [e]; exact heq
          · exact gb k k0 (by omega)
theorem S_fail {k w : Int} {q : VT → Prop} (h : xFr v0 v) (hq : ∀ v', xBd v0 v' (k, w) → q v') : P_X5_fail k w v q := by
  unfold P_X5_fail
  intro v2 e2 v7 e7
  refine hq v7 ⟨fun a ha => ?_, ?_, ?_⟩
  · rw [e7, upd2_off _ _ _ (by omega), e2, upd2_off _ _ _ (by omega)]; exact h a ha
  · rw [e7, upd2_j, if_neg (by decide), e2, upd2_same]
  · rw [e7, upd2_same]
theorem S_nameHere {q : VT → Prop} (ht : isTp v0 m b) (h : xSt v0 v p A s) (hp : 0 ≤ p ∧ p ≤ m)
    (hb1 : (rn m b (sk m b p) = 0 ∨ own m b (sk m b p) ≠ -1) → ∀ v', xBd v0 v' (1, sk m b p) → q v')
    (hb2 : ¬ (rn m b (sk m b p) = 0 ∨ own m b (sk m b p) ≠ -1) → 4 < rn m b (sk m b p) → ∀ v', xBd v0 v' (1, sk m b p + 4) → q v')
    (hok : ¬ (rn m b (sk m b p) = 0 ∨ own m b (sk m b p) ≠ -1) → ¬ 4 < rn m b (sk m b p) → ∀ v', xSt v0 v' (sk m b p + (rn m b (sk m b p) : Int)) A s → v' 3 5 = sk m b p → v' 3 7 = cx (wrd b (sk m b p) (rn m b (sk m b p))) → q v') : P_X5_readNameHere v q := by
  have s1 := sk_r (b := b) hp.2
  have hm := ht.2.1
  unfold P_X5_readNameHere
  refine S_skip ht h hp (fun v2 h2 => S_rw ht h2 (by omega) (fun v7 h7 e5 e6 e7 => ?_))
  have t7 := xTp ht h7.1
  rw [e5, e6]
  refine ⟨fun g => S_fail h7.1 (hb1 (Or.inl (by omega))), fun g => ?_⟩
  refine S_isWord (k2 := 1) (Or.inl rfl) t7 (by omega) e5 e6 (fun w1 => ⟨fun k => absurd rfl k, fun _ => ?_⟩) (fun w1 => ⟨fun _ => S_fail h7.1 (hb1 (Or.inr (by rw [own_0.mpr w1]; decide))), fun k => absurd k (by decide)⟩)
  refine S_isWord (k2 := 2) (Or.inr rfl) t7 (by omega) e5 e6 (fun w2 => ⟨fun _ => ?_, fun k => absurd rfl k⟩) (fun w2 => ⟨fun k => absurd k (by decide), fun _ => S_fail h7.1 (hb1 (Or.inr (by rw [own_1.mpr w2]; decide)))⟩)
  have hno : ¬ (rn m b (sk m b p) = 0 ∨ own m b (sk m b p) ≠ -1) := by
    intro k
    rcases k with k | k
    · omega
    · exact k (own_n.mpr ⟨w1, w2⟩)
  refine ⟨fun g4 => hok hno (by omega) v7 h7 e5 ?_, fun g4 => ⟨by omega, S_fail h7.1 (hb2 hno (by omega))⟩⟩
  rw [e7, show min (rn m b (sk m b p)) 4 = rn m b (sk m b p) by omega]
theorem S_comma {en : Int} {q : Int → VT → Prop} (ht : isTp v0 m b) (h : xSt v0 v p A s) (hp : 0 ≤ p ∧ p ≤ m) (hs : 0 ≤ s ∧ s ≤ 100000)
    (hc : sgn m b (sk m b p) = 44 → ∀ v', xSt v0 v' (sk m b p + 1) A s → q 1 v')
    (hse : sgn m b (sk m b p) = 59 → ¬ en = 0 → ∀ v', xSt v0 v' (sk m b p + 1) A (s + 1) → q 0 v')
    (hb : ¬ sgn m b (sk m b p) = 44 → ¬ (sgn m b (sk m b p) = 59 ∧ ¬ en = 0) → ∀ v', xBd v0 v' (1, sk m b p) → q 0 v') : P_X5_readComma en v q := by
  have s1 := sk_r (b := b) hp.2
  have hm := ht.2.1
  unfold P_X5_readComma
  refine S_skip ht h hp (fun v2 h2 => ?_)
  have t2 := xTp ht h2.1
  rw [h2.2.2.2.2.1]
  have nx : ∀ v' : VT, v' = upd2 v2 3 4 (sk m b p + 1) → xSt v0 v' (sk m b p + 1) A s := fun v' e' => by
    have f : ∀ a, a ≠ 3 → v' a = v2 a := fun a ha => by rw [e']; exact upd2_off _ _ _ ha
    have j : ∀ j, j ≠ 4 → v' 3 j = v2 3 j := fun j hj => by rw [e', upd2_j, if_neg hj]
    exact ⟨fun a ha => by rw [f a (by omega)]; exact h2.1 a ha, by rw [j 1 (by decide)]; exact h2.2.1, by rw [j 2 (by decide)]; exact h2.2.2.1, by rw [j 3 (by decide)]; exact h2.2.2.2.1, by rw [e', upd2_same], xNet_fr h2.2.2.2.2.2 (fun a ha => f a (by omega))⟩
  have body : ∀ c : Int, c = sgn m b (sk m b p) → (((¬ c = 44) → ((¬ c = 59) → P_X5_fail 1 (sk m b p) v2 (fun v71 => q 0 v71)) ∧ ((c = 59) → ((en = 0) → P_X5_fail 1 (sk m b p) v2 (fun v71_1 => q 0 v71_1)) ∧ ((¬ en = 0) → (-2147483648 ≤ sk m b p + 1 ∧ sk m b p + 1 ≤ 2147483647) ∧ ∀ v49 : VT, v49 = upd2 v2 3 4 (sk m b p + 1) → (-2147483648 ≤ (v49 3 3) + 1 ∧ (v49 3 3) + 1 ≤ 2147483647) ∧ ∀ v59 : VT, v59 = upd2 v49 3 3 ((v49 3 3) + 1) → q 0 v59))) ∧ ((c = 44) → (-2147483648 ≤ sk m b p + 1 ∧ sk m b p + 1 ≤ 2147483647) ∧ ∀ v27 : VT, v27 = upd2 v2 3 4 (sk m b p + 1) → q 1 v27)) := by
    intro c ec
    rw [ec]
    refine ⟨fun g1 => ⟨fun g2 => S_fail h2.1 (hb g1 (fun k => g2 k.1)), fun g2 => ⟨fun g3 => S_fail h2.1 (hb g1 (fun k => k.2 g3)), fun g3 => ⟨by omega, fun v49 e49 => ?_⟩⟩⟩, fun g1 => ⟨by omega, fun v27 e27 => hc g1 v27 (nx v27 e27)⟩⟩
    have h49 := nx v49 e49
    rw [h49.2.2.2.1]
    refine ⟨by omega, fun v59 e59 => hse g2 g3 v59 ?_⟩
    have f : ∀ a, a ≠ 3 → v59 a = v49 a := fun a ha => by rw [e59]; exact upd2_off _ _ _ ha
    have j : ∀ j, j ≠ 3 → v59 3 j = v49 3 j := fun j hj => by rw [e59, upd2_j, if_neg hj]
    exact ⟨fun a ha => by rw [f a (by omega)]; exact h49.1 a ha, by rw [j 1 (by decide)]; exact h49.2.1, by rw [j 2 (by decide)]; exact h49.2.2.1, by rw [e59, upd2_same], by rw [j 4 (by decide)]; exact h49.2.2.2.2.1, xNet_fr h49.2.2.2.2.2 (fun a ha => f a (by omega))⟩
  by_cases hlt : sk m b p < m
  · exact S_byteAt t2 (by omega) (body _ (by unfold sgn; rw [if_pos hlt]))
  · exact S_byteAt0 t2 (by omega) (body _ (by unfold sgn; rw [if_neg hlt]))
/-- a name told in the first row -/
theorem S_node {last j : Int} {q : Int → VT → Prop} (ht : isTp v0 m b) (h : xSt v0 v p A s) (hp : 0 ≤ p ∧ p ≤ m) (hJ : okJ false A last j) (hj : j ≠ 24)
    (hb : ∀ e : Flt, ndS m b false (sk m b p) A last j = .inl e → ∀ v' r, xBd v0 v' e → q r v')
    (hok : ∀ A' x, ndS m b false (sk m b p) A last j = .inr (A', x) → ∀ v', xSt v0 v' (sk m b p + (rn m b (sk m b p) : Int)) A' s → q x v') : P_X5_readNode v q := by
  have s1 := sk_r (b := b) hp.2
  have hr := rn_spec (b := b) s1.2
  obtain ⟨hA, hj2, h1, -⟩ := id hJ
  have hj1 := h1 rfl
  have kd0 : ∀ {e : Flt} {v' : VT}, xBd v0 v' e → e.1 ≠ 0 → ¬ v' 3 1 = 0 := fun hx he g => he (by rw [← hx.2.1]; exact g)
  unfold P_X5_readNode
  refine S_nameHere ht h hp (fun c v' hx => ?_) (fun c1 c2 v' hx => ?_) (fun c1 c2 v' hx e5 e7 => ?_)
  · have en : ndS m b false (sk m b p) A last j = .inl (1, sk m b p) := by unfold ndS; rw [if_neg hj, if_pos c]
    intro K36 hK36
    have := kd0 hx (by show (1 : Int) ≠ 0; decide)
    exact ⟨fun _ => hK36 _ ⟨fun _ => hb _ en v' _ hx, fun g => absurd g this⟩, fun g => absurd g this⟩
  · have en : ndS m b false (sk m b p) A last j = .inl (1, sk m b p + 4) := by unfold ndS; rw [if_neg hj, if_neg c1, if_pos c2]
    intro K36 hK36
    have := kd0 hx (by show (1 : Int) ≠ 0; decide)
    exact ⟨fun _ => hK36 _ ⟨fun _ => hb _ en v' _ hx, fun g => absurd g this⟩, fun g => absurd g this⟩
  · have hwo : okN (wrd b (sk m b p) (rn m b (sk m b p))) := wrd_ok (by omega) hr.2.1
    have hwn : wrd b (sk m b p) (rn m b (sk m b p)) ≠ [] := fun g => by
      have := wrd_len b (sk m b p) (rn m b (sk m b p))
      rw [g] at this
      have h0 : 0 = rn m b (sk m b p) := this
      exact c1 (Or.inl h0.symm)
    intro K36 hK36
    refine ⟨fun g => absurd hx.2.1 g, fun _ => ?_⟩
    rw [e7, e5]
    refine S_findName (n := A.1) (N := A.2.2) hA.1 hx.2.2.2.2.2.1.1 (fun i i0 i1 => ⟨hA.2.2 i i0 i1, hx.2.2.2.2.2.2 i i0 i1⟩) hwo hwn ⟨fun g => hK36 _ ⟨fun k => absurd hx.2.1 k, fun _ => ?_⟩, fun g => S_fail hx.1 (fun v2 h2 => ?_)⟩
    · have en : ndS m b false (sk m b p) A last j = .inr (addN A (wrd b (sk m b p) (rn m b (sk m b p))), -1) := by unfold ndS; rw [if_neg hj, if_neg c1, if_neg c2, if_pos rfl, if_neg (fun k => k g)]
      have e0 : v' 4 0 = A.1 := hx.2.2.2.2.2.1.1
      have hA1 := hA.1
      unfold P_X0_addNode
      rw [e0, e7]
      refine ⟨fun k => by omega, fun _ => ⟨by omega, fun v18 e18 => ?_⟩⟩
      have n18 : v18 4 0 = A.1 := by rw [e18, upd2_off _ _ _ (by omega)]; exact e0
      rw [n18]
      refine ⟨by omega, fun v26 e26 => hok _ _ en v26 ?_⟩
      have f : ∀ a, a ≠ 4 → a ≠ 5 → v26 a = v' a := fun a a1 a2 => by rw [e26, upd2_off _ _ _ a1, e18, upd2_off _ _ _ a2]
      refine ⟨fun a ha => by rw [f a (by omega) (by omega)]; exact hx.1 a ha, by rw [f 3 (by omega) (by omega)]; exact hx.2.1, by rw [f 3 (by omega) (by omega)]; exact hx.2.2.1, by rw [f 3 (by omega) (by omega)]; exact hx.2.2.2.1, by rw [f 3 (by omega) (by omega)]; exact hx.2.2.2.2.1, ⟨by rw [e26, upd2_same]; rfl, ?_, fun k k0 k1 => ?_⟩, fun i i0 i1 => ?_⟩
      · rw [e26, upd2_j, if_neg (by decide), e18, upd2_off _ _ _ (by omega)]; exact hx.2.2.2.2.2.1.2.1
      · rw [f 6 (by omega) (by omega), f 7 (by omega) (by omega), f 8 (by omega) (by omega)]; exact hx.2.2.2.2.2.1.2.2 k k0 k1
      · have i1' : i < A.1 + 1 := i1
        show v26 5 i.toNat = cx (if i = A.1 then _ else A.2.2 i)
        rw [e26, upd2_off _ _ _ (by omega), e18]
        show upd2 v' 5 A.1.toNat _ 5 i.toNat = _
        rw [upd2_at _ _ _ hA1.1 i0]
        by_cases e : i = A.1
        · rw [if_pos e, if_pos e]
        · rw [if_neg e, if_neg e]; exact hx.2.2.2.2.2.2 i i0 (by show i < A.1; omega)
    · have en : ndS m b false (sk m b p) A last j = .inl (3, sk m b p) := by unfold ndS; rw [if_neg hj, if_neg c1, if_neg c2, if_pos rfl, if_pos g]
      have := kd0 h2 (by show (3 : Int) ≠ 0; decide)
      exact hK36 _ ⟨fun _ => hb _ en v2 _ h2, fun k => absurd k this⟩
/-- a name told in a way -/
theorem S_stop {last j : Int} {q : Int → VT → Prop} (ht : isTp v0 m b) (h : xSt v0 v p A s) (hp : 0 ≤ p ∧ p ≤ m) (hJ : okJ true A last j) (hj : j ≠ 24) (hl : j = 0 → last = -1)
    (hb : ∀ e : Flt, ndS m b true (sk m b p) A last j = .inl e → ∀ v' r, xBd v0 v' e → q r v')
    (hok : ∀ A' x, ndS m b true (sk m b p) A last j = .inr (A', x) → ∀ v', xSt v0 v' (sk m b p + (rn m b (sk m b p) : Int)) A' s → q x v') : P_X5_readStop last v q := by
  have s1 := sk_r (b := b) hp.2
  have hr := rn_spec (b := b) s1.2
  obtain ⟨hA, hj2, -, h2⟩ := id hJ
  have hlen := hA.2.1.2.2
  have kd0 : ∀ {e : Flt} {v' : VT}, xBd v0 v' e → e.1 ≠ 0 → ¬ v' 3 1 = 0 := fun hx he g => he (by rw [← hx.2.1]; exact g)
  unfold P_X5_readStop
  refine S_nameHere ht h hp (fun c v' hx => ?_) (fun c1 c2 v' hx => ?_) (fun c1 c2 v' hx e5 e7 => ?_)
  · have en : ndS m b true (sk m b p) A last j = .inl (1, sk m b p) := by unfold ndS; rw [if_neg hj, if_pos c]
    intro K27 hK27
    have hne := kd0 hx (by show (1 : Int) ≠ 0; decide)
    exact ⟨fun _ => hK27 _ (fun K49 hK49 => ⟨fun _ => hK49 _ ⟨fun _ => hb _ en v' _ hx, fun g => absurd g hne⟩, fun g => absurd g hne⟩), fun g => absurd g hne⟩
  · have en : ndS m b true (sk m b p) A last j = .inl (1, sk m b p + 4) := by unfold ndS; rw [if_neg hj, if_neg c1, if_pos c2]
    intro K27 hK27
    have hne := kd0 hx (by show (1 : Int) ≠ 0; decide)
    exact ⟨fun _ => hK27 _ (fun K49 hK49 => ⟨fun _ => hK49 _ ⟨fun _ => hb _ en v' _ hx, fun g => absurd g hne⟩, fun g => absurd g hne⟩), fun g => absurd g hne⟩
  · have hwo : okN (wrd b (sk m b p) (rn m b (sk m b p))) := wrd_ok (by omega) hr.2.1
    have hwn : wrd b (sk m b p) (rn m b (sk m b p)) ≠ [] := fun g => by
      have := wrd_len b (sk m b p) (rn m b (sk m b p))
      rw [g] at this
      have h0 : 0 = rn m b (sk m b p) := this
      exact c1 (Or.inl h0.symm)
    intro K27 hK27
    refine ⟨fun g => absurd hx.2.1 g, fun _ => ?_⟩
    rw [e7]
    refine S_findName (n := A.1) (N := A.2.2) hA.1 hx.2.2.2.2.2.1.1 (fun i i0 i1 => ⟨hA.2.2 i i0 i1, hx.2.2.2.2.2.2 i i0 i1⟩) hwo hwn (hK27 _ ?_)
    have hfn := fN_r A.1 A.2.2 (wrd b (sk m b p) (rn m b (sk m b p)))
    have en0 : ndS m b true (sk m b p) A last j = (if fN A.1 A.2.2 (wrd b (sk m b p) (rn m b (sk m b p))) = -1 then .inl (3, sk m b p)
      else @ite _ (0 < j ∧ (fN A.1 A.2.2 (wrd b (sk m b p) (rn m b (sk m b p))) = last ∨ adj A.2.1 last (fN A.1 A.2.2 (wrd b (sk m b p) (rn m b (sk m b p)))))) (Classical.propDecidable _) (.inl (4, sk m b p))
      (if 0 < j ∧ A.2.1.length = 60 then .inl (5, sk m b p) else .inr (if 0 < j then netJ A last (fN A.1 A.2.2 (wrd b (sk m b p) (rn m b (sk m b p)))) else A, fN A.1 A.2.2 (wrd b (sk m b p) (rn m b (sk m b p)))))) := by
      unfold ndS; rw [if_neg hj, if_neg c1, if_neg c2, if_neg (by decide)]
    generalize fN A.1 A.2.2 (wrd b (sk m b p) (rn m b (sk m b p))) = x at *
    rw [e5]
    intro K49 hK49
    refine ⟨fun g => absurd hx.2.1 g, fun _ => ⟨fun g => hK49 _ ⟨fun k => absurd hx.2.1 k, fun _ => ?_⟩, fun g => S_fail hx.1 (fun v2 h2 => ?_)⟩⟩
    · rw [if_neg g] at en0
      have hxr : 0 ≤ x ∧ x < A.1 := by
        rcases hfn with k | k
        · exact absurd k.1 g
        · exact k.1
      rw [e5]
      refine ⟨fun gl => ?_, fun gl => ?_⟩
      · have j0 : ¬ 0 < j := fun k => by have := h2 rfl k; omega
        rw [if_neg (fun k => j0 k.1), if_neg (fun k => j0 k.1), if_neg j0] at en0
        exact hok _ _ en0 v' hx
      · have j0 : 0 < j := by
          rcases Int.lt_or_le 0 j with k | k
          · exact k
          · exact absurd (hl (by omega)) gl
        have hlr := h2 rfl j0
        have four : (x = last ∨ adj A.2.1 last x) → P_X5_fail 4 (sk m b p) v' (fun v85 => q x v85) := fun k => by
          rw [if_pos ⟨j0, k⟩] at en0
          exact S_fail hx.1 (fun v2 h2' => hb _ en0 v2 _ h2')
        refine ⟨fun k => four (Or.inl k), fun k => S_findLine hA.2.1 hx.2.2.2.2.2.1 (fun hna => ⟨fun _ => ?_, fun k2 => absurd rfl k2⟩) (fun l l0 l1 l2 => ⟨fun k2 => by omega, fun _ => four (Or.inr ⟨l, l0, l1, l2⟩)⟩)⟩
        rw [if_neg (fun k2 => by rcases k2.2 with k3 | k3; exact k k3; exact hna k3)] at en0
        have e41 : v' 4 1 = (A.2.1.length : Int) := hx.2.2.2.2.2.1.2.1
        rw [e41]
        refine ⟨fun hlt => ?_, fun hge => ?_⟩
        · rw [if_neg (fun k2 => by have := k2.2; omega), if_pos j0] at en0
          refine S_addLine hx.2.2.2.2.2.1 (by omega) (fun v2 f2 j2 g2 _ => hok _ _ en0 v2 ?_)
          refine ⟨fun a ha => by rw [f2 a (by omega) (by omega) (by omega) (by omega)]; exact hx.1 a ha, by rw [f2 3 (by omega) (by omega) (by omega) (by omega)]; exact hx.2.1, by rw [f2 3 (by omega) (by omega) (by omega) (by omega)]; exact hx.2.2.1, by rw [f2 3 (by omega) (by omega) (by omega) (by omega)]; exact hx.2.2.2.1, by rw [f2 3 (by omega) (by omega) (by omega) (by omega)]; exact hx.2.2.2.2.1, g2, fun i i0 i1 => ?_⟩
          rw [f2 5 (by omega) (by omega) (by omega) (by omega)]; exact hx.2.2.2.2.2.2 i i0 i1
        · rw [if_pos ⟨j0, by omega⟩] at en0
          exact S_fail hx.1 (fun v2 h2' => hb _ en0 v2 _ h2')
    · rw [if_pos g] at en0
      have hne := kd0 h2 (by show (3 : Int) ≠ 0; decide)
      exact hK49 _ ⟨fun _ => hb _ en0 v2 _ h2, fun k => absurd k hne⟩
end ParseX

/-! ===== the class: collect; why a network doesn't sit in a cube ===== -/
theorem S_collect {n : Int} {L : List Ln} {v : VT} {q : VT → Prop} (w : wfL n L) (hn : 0 ≤ n ∧ n ≤ 24) (hg : xG v 10 n L) (hm : mt v n L)
    (hq : ∀ v' : VT, (∀ a, ¬ (191 ≤ a ∧ a ≤ 196) → v' a = v a) → v' 191 0 = 1 → kOKx v' L → q v') : P_X1_collect v q := by
  obtain ⟨g0, g1, g2⟩ := xG_10 hg
  have hlen := w.2.2
  have hR := RA_ok L
  unfold P_X1_collect
  intro v2 e2 K28 hK28 X7 hX7
  have f2 : ∀ a, a ≠ 191 → v2 a = v a := fun a ha => by rw [e2, upd2_off _ _ _ ha]
  have s1 : ∀ v28 : VT, (∀ a, ¬ (191 ≤ a ∧ a ≤ 196) → v28 a = v a) → v28 191 1 = 0 → (∀ j : Int, 0 ≤ j → j < L.length → v28 192 j.toNat = -1) → K28 v28 := by
    intro v28 hf hc hz
    apply hK28
    intro X30 hX30
    refine up2 (X := X30) (L.length : Int) (fun i v30 => 0 ≤ i ∧ (∀ a, ¬ (191 ≤ a ∧ a ≤ 196) → v30 a = v a) ∧ v30 191 1 = nr L.length (RA L) i ∧ (∀ j : Int, 0 ≤ j → j < L.length → (rt L.length (RA L) j < i → v30 192 j.toNat = kd L.length (RA L) j) ∧ (i ≤ rt L.length (RA L) j → v30 192 j.toNat = -1)) ∧ (∀ r : Int, 0 ≤ r → r < i → rt L.length (RA L) r = r → v30 194 (nr L.length (RA L) r).toNat = r ∧ v30 193 (nr L.length (RA L) r).toNat = sz L.length (RA L) r)) ?_ (by omega) ⟨by omega, hf, by rw [hc]; rfl, fun j j1 j2 => ⟨fun h => by have := rt_le hR ⟨j1, j2⟩; omega, fun _ => hz j j1 j2⟩, fun r r1 r2 => by omega⟩
    intro i v30 hle ⟨i0, hf3, hc3, ho3, hl3⟩ hnext
    apply hX30
    have e10 : v30 10 1 = L.length := by rw [hf3 10 (by omega)]; exact g1
    rw [e10]
    refine ⟨fun hc4 v63 e63 => hq v63 (fun a ha => ?_) (by rw [e63, upd2_same]) ⟨?_, fun j j1 j2 => ?_, fun r r1 r2 r3 => ?_⟩, fun hc4 => ⟨by omega, ?_⟩⟩
    · rw [e63, upd2_off _ _ _ (by omega)]; exact hf3 a ha
    · rw [e63, upd2_j, if_neg (by decide), hc3, show i = (L.length : Int) by omega]
    · rw [e63, upd2_off _ _ _ (by omega)]
      have := rt_le hR ⟨j1, j2⟩
      exact (ho3 j j1 j2).1 (by omega)
    · rw [e63, upd2_off _ _ _ (by omega), upd2_off _ _ _ (by omega)]; exact hl3 r r1 (by omega) r3
    · have hri := rt_le hR ⟨i0, hc4⟩
      have hoi := ho3 i i0 hc4
      refine ⟨fun hc5 => ⟨by omega, ?_⟩, fun hc5 => ?_⟩
      · have hne : ¬ rt L.length (RA L) i = i := fun h => hc5 (hoi.2 (by omega))
        refine hnext hc4 _ ⟨by omega, hf3, by rw [hc3, nr_out i0 hne], fun j j1 j2 => ⟨fun h => (ho3 j j1 j2).1 ?_, fun h => (ho3 j j1 j2).2 (by omega)⟩, fun r r1 r2 r3 => hl3 r r1 ?_ r3⟩
        · by_cases e : rt L.length (RA L) j = i
          · have := rt_rt hR ⟨j1, j2⟩
            rw [e] at this
            exact absurd this hne
          · omega
        · by_cases e : r = i
          · rw [e] at r3; exact absurd r3 hne
          · omega
      · have hroot : rt L.length (RA L) i = i := by
          by_cases h : rt L.length (RA L) i < i
          · have h1 := hoi.1 h
            have h2 := (kd_in hR ⟨i0, hc4⟩).1
            omega
          · omega
        refine S_collectFrom w hn (xG_frame hg (hf3 10 (by omega)) (hf3 12 (by omega)) (hf3 13 (by omega)) (hf3 14 (by omega))) (mt_frame hm (fun a ha => hf3 a (by omega)) hn.2) ⟨i0, hc4⟩ hroot hc3 ho3 (fun v' k1 k2 k3 k4 k5 k6 => ⟨by omega, hnext hc4 _ ⟨by omega, fun a ha => by rw [k1 a ha]; exact hf3 a ha, by rw [k3, nr_in i0 hroot], fun j j1 j2 => ⟨fun h => (k4 j j1 j2).1 (by omega), fun h => (k4 j j1 j2).2 (by omega)⟩, fun r r1 r2 r3 => ?_⟩⟩)
        rw [k5, k6]
        by_cases e : r = i
        · rw [e, if_pos rfl, if_pos rfl]; exact ⟨rfl, rfl⟩
        · have hne : ¬ (nr L.length (RA L) r).toNat = (nr L.length (RA L) i).toNat := fun h => by
            have h1 : 0 ≤ nr L.length (RA L) r := nr_pos
            have h2 : 0 ≤ nr L.length (RA L) i := nr_pos
            exact e (nr_inj r1 i0 r3 hroot (by omega))
          rw [if_neg hne, if_neg hne]
          exact hl3 r r1 (by omega) r3
  refine up2 (X := X7) (L.length : Int) (fun i v7 => 0 ≤ i ∧ (∀ a, a ≠ 192 → v7 a = v2 a) ∧ ∀ j : Int, 0 ≤ j → j < i → v7 192 j.toNat = -1) ?_ (by omega) ⟨by omega, fun a _ => rfl, fun j j1 j2 => by omega⟩
  intro i v7 hle ⟨i0, hf, hz⟩ hnext
  apply hX7
  have e10 : v7 10 1 = L.length := by rw [hf 10 (by omega), f2 10 (by omega)]; exact g1
  rw [e10]
  refine ⟨fun hc => s1 v7 (fun a ha => by rw [hf a (by omega)]; exact f2 a (by omega)) (by rw [hf 191 (by omega), e2, upd2_same]) (fun j j1 j2 => hz j j1 (by omega)), fun hc => ⟨by omega, fun v21 e21 => ⟨by omega, hnext hc _ ⟨by omega, fun a ha => ?_, fun j j1 j2 => ?_⟩⟩⟩⟩
  · rw [e21, upd2_off _ _ _ ha]; exact hf a ha
  · rw [e21, upd2_at _ _ _ i0 j1]
    by_cases e : j = i
    · rw [if_pos e]
    · rw [if_neg e]; exact hz j j1 (by omega)
/-! ===== the first of pairs ===== -/
def lexf (A E : Int) (S : Int → Int) (p : Int → Int → Prop) (x y : Int) : Prop := 0 ≤ x ∧ x < A ∧ S x ≤ y ∧ y < E ∧ p x y ∧ ∀ a b, 0 ≤ a → a < A → S a ≤ b → b < E → (a < x ∨ (a = x ∧ b < y)) → ¬ p a b
def non2 (A E : Int) (S : Int → Int) (p : Int → Int → Prop) : Prop := ∀ a b, 0 ≤ a → a < A → S a ≤ b → b < E → ¬ p a b
theorem lexf_one {A E : Int} {S : Int → Int} {p : Int → Int → Prop} {x y x' y' : Int} (h : lexf A E S p x y) (h' : lexf A E S p x' y') : x = x' ∧ y = y' := by
  obtain ⟨a1, a2, a3, a4, a5, a6⟩ := h
  obtain ⟨b1, b2, b3, b4, b5, b6⟩ := h'
  have h1 : ¬ (x < x' ∨ (x = x' ∧ y < y')) := fun hc => b6 x y a1 a2 a3 a4 hc a5
  have h2 : ¬ (x' < x ∨ (x' = x ∧ y' < y)) := fun hc => a6 x' y' b1 b2 b3 b4 hc b5
  omega
theorem lexf_non {A E : Int} {S : Int → Int} {p : Int → Int → Prop} {x y : Int} (h : lexf A E S p x y) (h' : non2 A E S p) : False := h' x y h.1 h.2.1 h.2.2.1 h.2.2.2.1 h.2.2.2.2.1
/-- a search: r is 0 so far, or the first is found -/
def srch (A E : Int) (S : Int → Int) (p : Int → Int → Prop) (why : Int) (a b : Int) (r x y : Int) : Prop :=
  (r = 0 ∧ ∀ a' b', 0 ≤ a' → a' < A → S a' ≤ b' → b' < E → (a' < a ∨ (a' = a ∧ b' < b)) → ¬ p a' b') ∨ (r = why ∧ lexf A E S p x y)
def p1 (L : List Ln) (a b : Int) : Prop := dd L a b = -1
def p2 (L : List Ln) (k c : Int) : Prop := dd L (lo L k) c = dd L (hi L k) c
def p3 (L : List Ln) (i j : Int) : Prop := kd L.length (RA L) i = kd L.length (RA L) j ∧ ¬ alk L i j
def rsn (n : Int) (L : List Ln) (r x y : Int) : Prop :=
  (r = 1 ∧ lexf n n (fun a => a + 1) (p1 L) x y) ∨ (non2 n n (fun a => a + 1) (p1 L) ∧ ((r = 2 ∧ lexf L.length n (fun _ => 0) (p2 L) x y) ∨ (non2 L.length n (fun _ => 0) (p2 L) ∧ ((r = 3 ∧ lexf L.length L.length (fun a => a + 1) (p3 L) x y) ∨ (r = 0 ∧ non2 L.length L.length (fun a => a + 1) (p3 L))))))
theorem rsn_one {n : Int} {L : List Ln} {r x y r' x' y' : Int} (h : rsn n L r x y) (h' : rsn n L r' x' y') : r = r' ∧ (r ≠ 0 → x = x' ∧ y = y') := by
  rcases h with ⟨h1, h2⟩ | ⟨h0, ⟨h1, h2⟩ | ⟨h3, ⟨h1, h2⟩ | ⟨h1, h2⟩⟩⟩ <;> rcases h' with ⟨g1, g2⟩ | ⟨g0, ⟨g1, g2⟩ | ⟨g3, ⟨g1, g2⟩ | ⟨g1, g2⟩⟩⟩
  all_goals first
    | exact ⟨by omega, fun _ => lexf_one h2 g2⟩
    | exact ⟨by omega, fun h => absurd h1 h⟩
    | exact (lexf_non h2 g0).elim
    | exact (lexf_non g2 h0).elim
    | exact (lexf_non h2 g3).elim
    | exact (lexf_non g2 h3).elim
    | exact (lexf_non h2 g2).elim
    | exact (lexf_non g2 h2).elim
theorem rsn_r {n : Int} {L : List Ln} {r x y : Int} (h : rsn n L r x y) : 0 ≤ r ∧ r ≤ 3 := by
  rcases h with ⟨h1, h2⟩ | ⟨h0, ⟨h1, h2⟩ | ⟨h3, ⟨h1, h2⟩ | ⟨h1, h2⟩⟩⟩ <;> omega
theorem S_tell {x1 x2 x3 : Int} {v : VT} {q : VT → Prop} (hq : ∀ v', (∀ a, a ≠ 197 → v' a = v a) → (∀ j, j ≠ 2 → j ≠ 3 → j ≠ 4 → v' 197 j = v 197 j) → v' 197 2 = x1 → v' 197 3 = x2 → v' 197 4 = x3 → q v') : P_X8_tell x1 x2 x3 v q := by
  unfold P_X8_tell
  intro v2 e2 v7 e7 v12 e12
  refine hq v12 (fun a ha => ?_) (fun j h2 h3 h4 => ?_) ?_ ?_ ?_
  · rw [e12, upd2_off _ _ _ ha, e7, upd2_off _ _ _ ha, e2, upd2_off _ _ _ ha]
  · rw [e12, upd2_j, if_neg h4, e7, upd2_j, if_neg h3, e2, upd2_j, if_neg h2]
  · rw [e12, upd2_j, if_neg (by decide), e7, upd2_j, if_neg (by decide), e2, upd2_same]
  · rw [e12, upd2_j, if_neg (by decide), e7, upd2_same]
  · rw [e12, upd2_same]
/-- what a search in the seat leaves -/
def zF (v v' : VT) : Prop := (∀ a, a ≠ 197 → v' a = v a) ∧ ∀ j, j ≠ 2 → j ≠ 3 → j ≠ 4 → v' 197 j = v 197 j
theorem zF_rf (v : VT) : zF v v := ⟨fun _ _ => rfl, fun _ _ _ _ => rfl⟩
theorem srch_no {A E : Int} {S : Int → Int} {p : Int → Int → Prop} {why a b r x y : Int} (h : srch A E S p why a b r x y) (hp : ¬ p a b) : srch A E S p why a (b + 1) r x y := by
  rcases h with ⟨h1, h2⟩ | h
  · refine Or.inl ⟨h1, fun a' b' k1 k2 k3 k4 k5 => ?_⟩
    by_cases e : a' = a ∧ b' = b
    · rw [e.1, e.2]; exact hp
    · exact h2 a' b' k1 k2 k3 k4 (by omega)
  · exact Or.inr h
theorem srch_row {A E : Int} {S : Int → Int} {p : Int → Int → Prop} {why a b r x y : Int} (h : srch A E S p why a b r x y) (hb : E ≤ b ∨ r ≠ 0) : srch A E S p why (a + 1) (S (a + 1)) r x y := by
  rcases h with ⟨h1, h2⟩ | h
  · refine Or.inl ⟨h1, fun a' b' k1 k2 k3 k4 k5 => h2 a' b' k1 k2 k3 k4 ?_⟩
    by_cases e : a' = a + 1
    · rw [e] at k3; omega
    · omega
  · exact Or.inr h
theorem srch_yes {A E : Int} {S : Int → Int} {p : Int → Int → Prop} {why a b r x y : Int} (h : srch A E S p why a b r x y) (hr : r = 0) (hw : why ≠ 0) (h0 : 0 ≤ a) (h1 : a < A) (h2 : S a ≤ b) (h3 : b < E) (hp : p a b) (a9 b9 : Int) : srch A E S p why a9 b9 why a b := by
  rcases h with ⟨h1', h2'⟩ | ⟨h, -⟩
  · exact Or.inr ⟨rfl, h0, h1, h2, h3, hp, h2'⟩
  · omega
theorem srch_0 {A E : Int} {S : Int → Int} {p : Int → Int → Prop} {why x y : Int} : srch A E S p why 0 (S 0) 0 x y := Or.inl ⟨rfl, fun a' b' k1 k2 k3 k4 k5 => by
  rcases k5 with k5 | ⟨k5, k6⟩
  · omega
  · rw [k5] at k3; omega⟩
theorem srch_end {A E : Int} {S : Int → Int} {p : Int → Int → Prop} {why a b r x y : Int} (h : srch A E S p why a b r x y) (ha : A ≤ a ∨ r ≠ 0) : (r = 0 ∧ non2 A E S p) ∨ (r = why ∧ lexf A E S p x y) := by
  rcases h with ⟨h1, h2⟩ | h
  · exact Or.inl ⟨h1, fun a' b' k1 k2 k3 k4 => h2 a' b' k1 k2 k3 k4 (by omega)⟩
  · exact Or.inr h
theorem S_findApart {n : Int} {L : List Ln} {v : VT} {q : VT → Prop} (hn : 0 ≤ n ∧ n ≤ 24) (hm : mt v n L) (h5 : v 197 5 = n) (h2 : v 197 2 = 0)
    (hq : ∀ v', zF v v' → ((v' 197 2 = 0 ∧ non2 n n (fun a => a + 1) (p1 L)) ∨ (v' 197 2 = 1 ∧ lexf n n (fun a => a + 1) (p1 L) (v' 197 3) (v' 197 4))) → q v') : P_X8_findApart v q := by
  unfold P_X8_findApart
  intro X2 hX2
  refine wh2 (X := X2) (fun i v2 => 0 ≤ i ∧ i ≤ n ∧ zF v v2 ∧ srch n n (fun a => a + 1) (p1 L) 1 i (i + 1) (v2 197 2) (v2 197 3) (v2 197 4)) (fun i _ => (n - i).toNat) ?_ ⟨by omega, by omega, zF_rf v, by rw [h2]; exact srch_0⟩
  intro i v2 ⟨i0, i1, hz, hs⟩ hnext
  apply hX2
  have e5 : v2 197 5 = n := by rw [hz.2 5 (by decide) (by decide) (by decide)]; exact h5
  rw [e5]
  refine ⟨fun hc => hq v2 hz (srch_end hs (Or.inr hc)), fun hc => ⟨fun hc2 => hq v2 hz (srch_end hs (Or.inl hc2)), fun hc2 => ⟨by omega, ?_⟩⟩⟩
  intro X21 hX21
  refine wh2 (X := X21) (fun j v21 => i + 1 ≤ j ∧ j ≤ n ∧ zF v v21 ∧ srch n n (fun a => a + 1) (p1 L) 1 i j (v21 197 2) (v21 197 3) (v21 197 4)) (fun j _ => (n - j).toNat) ?_ ⟨by omega, by omega, hz, hs⟩
  intro j v21 ⟨j0, j1, hz3, hs3⟩ hnext2
  apply hX21
  have e5' : v21 197 5 = n := by rw [hz3.2 5 (by decide) (by decide) (by decide)]; exact h5
  rw [e5']
  refine ⟨fun hc3 => ⟨by omega, hnext (i + 1) v21 ⟨by omega, by omega, hz3, srch_row hs3 (Or.inr hc3)⟩ (by omega)⟩, fun hc3 => ⟨fun hc4 => ⟨by omega, hnext (i + 1) v21 ⟨by omega, by omega, hz3, srch_row hs3 (Or.inl hc4)⟩ (by omega)⟩, fun hc4 => ⟨by omega, by omega, ?_⟩⟩⟩
  have ed : v21 (141 + i.toNat) j.toNat = dd L i j := by rw [hz3.1 _ (by omega)]; exact hm.2.2.1 i j i0 hc2 (by omega) hc4
  rw [ed]
  refine ⟨fun hc5 => ⟨by omega, hnext2 (j + 1) v21 ⟨by omega, by omega, hz3, srch_no hs3 hc5⟩ (by omega)⟩, fun hc5 => S_tell (fun v' k1 k2 k3 k4 k5 => ⟨by omega, hnext2 (j + 1) v' ⟨by omega, by omega, ⟨fun a ha => by rw [k1 a ha]; exact hz3.1 a ha, fun j' a1 a2 a3 => by rw [k2 j' a1 a2 a3]; exact hz3.2 j' a1 a2 a3⟩, ?_⟩ (by omega)⟩)⟩
  rw [k3, k4, k5]
  exact srch_yes hs3 hc3 (by decide) i0 hc2 (by show i + 1 ≤ j; omega) hc4 hc5 i (j + 1)
theorem S_findEquallyFar {n : Int} {L : List Ln} {v : VT} {q : VT → Prop} (w : wfL n L) (hn : 0 ≤ n ∧ n ≤ 24) (hg : xG v 10 n L) (hm : mt v n L) (h5 : v 197 5 = n) (h2 : v 197 2 = 0)
    (hq : ∀ v', zF v v' → ((v' 197 2 = 0 ∧ non2 L.length n (fun _ => 0) (p2 L)) ∨ (v' 197 2 = 2 ∧ lexf L.length n (fun _ => 0) (p2 L) (v' 197 3) (v' 197 4))) → q v') : P_X8_findEquallyFar v q := by
  obtain ⟨g0, g1, g2⟩ := xG_10 hg
  have hlen := w.2.2
  unfold P_X8_findEquallyFar
  intro X2 hX2
  refine wh2 (X := X2) (fun i v2 => 0 ≤ i ∧ i ≤ L.length ∧ zF v v2 ∧ srch L.length n (fun _ => 0) (p2 L) 2 i 0 (v2 197 2) (v2 197 3) (v2 197 4)) (fun i _ => (L.length - i).toNat) ?_ ⟨by omega, by omega, zF_rf v, by rw [h2]; exact srch_0⟩
  intro i v2 ⟨i0, i1, hz, hs⟩ hnext
  apply hX2
  have e10 : v2 10 1 = L.length := by rw [hz.1 10 (by omega)]; exact g1
  rw [e10]
  refine ⟨fun hc => hq v2 hz (srch_end hs (Or.inr hc)), fun hc => ⟨fun hc2 => hq v2 hz (srch_end hs (Or.inl hc2)), fun hc2 => ?_⟩⟩
  have hwi := w.1 i i0 hc2
  rw [hz.1 12 (by omega), hz.1 13 (by omega), (g2 i i0 hc2).1, (g2 i i0 hc2).2.1]
  refine ⟨by omega, by omega, by omega, by omega, ?_⟩
  intro X46 hX46
  refine wh2 (X := X46) (fun j v46 => 0 ≤ j ∧ j ≤ n ∧ zF v v46 ∧ srch L.length n (fun _ => 0) (p2 L) 2 i j (v46 197 2) (v46 197 3) (v46 197 4)) (fun j _ => (n - j).toNat) ?_ ⟨by omega, by omega, hz, hs⟩
  intro j v46 ⟨j0, j1, hz3, hs3⟩ hnext2
  apply hX46
  have e5' : v46 197 5 = n := by rw [hz3.2 5 (by decide) (by decide) (by decide)]; exact h5
  rw [e5']
  refine ⟨fun hc3 => ⟨by omega, hnext (i + 1) v46 ⟨by omega, by omega, hz3, srch_row (S := fun _ => 0) hs3 (Or.inr hc3)⟩ (by omega)⟩, fun hc3 => ⟨fun hc4 => ⟨by omega, hnext (i + 1) v46 ⟨by omega, by omega, hz3, srch_row (S := fun _ => 0) hs3 (Or.inl hc4)⟩ (by omega)⟩, fun hc4 => ⟨by omega, by omega, ?_⟩⟩⟩
  have ed1 : v46 (141 + (lo L i).toNat) j.toNat = dd L (lo L i) j := by rw [hz3.1 _ (by omega)]; exact hm.2.2.1 _ j (by omega) (by omega) j0 hc4
  have ed2 : v46 (141 + (hi L i).toNat) j.toNat = dd L (hi L i) j := by rw [hz3.1 _ (by omega)]; exact hm.2.2.1 _ j (by omega) (by omega) j0 hc4
  rw [ed1, ed2]
  refine ⟨fun hc5 => ⟨by omega, hnext2 (j + 1) v46 ⟨by omega, by omega, hz3, srch_no hs3 hc5⟩ (by omega)⟩, fun hc5 => S_tell (fun v' k1 k2 k3 k4 k5 => ⟨by omega, hnext2 (j + 1) v' ⟨by omega, by omega, ⟨fun a ha => by rw [k1 a ha]; exact hz3.1 a ha, fun j' a1 a2 a3 => by rw [k2 j' a1 a2 a3]; exact hz3.2 j' a1 a2 a3⟩, ?_⟩ (by omega)⟩)⟩
  rw [k3, k4, k5]
  exact srch_yes hs3 hc3 (by decide) i0 hc2 j0 hc4 hc5 i (j + 1)
theorem S_findNotAlike {n : Int} {L : List Ln} {v : VT} {q : VT → Prop} (w : wfL n L) (hn : 0 ≤ n ∧ n ≤ 24) (hg : xG v 10 n L) (hm : mt v n L) (hk : kOKx v L) (h2 : v 197 2 = 0)
    (hq : ∀ v', zF v v' → ((v' 197 2 = 0 ∧ non2 L.length L.length (fun a => a + 1) (p3 L)) ∨ (v' 197 2 = 3 ∧ lexf L.length L.length (fun a => a + 1) (p3 L) (v' 197 3) (v' 197 4))) → q v') : P_X8_findNotAlike v q := by
  obtain ⟨g0, g1, g2⟩ := xG_10 hg
  have hlen := w.2.2
  unfold P_X8_findNotAlike
  intro X3 hX3
  refine wh2 (X := X3) (fun i v2 => 0 ≤ i ∧ i ≤ L.length ∧ zF v v2 ∧ srch L.length L.length (fun a => a + 1) (p3 L) 3 i (i + 1) (v2 197 2) (v2 197 3) (v2 197 4)) (fun i _ => (L.length - i).toNat) ?_ ⟨by omega, by omega, zF_rf v, by rw [h2]; exact srch_0⟩
  intro i v2 ⟨i0, i1, hz, hs⟩ hnext
  apply hX3
  have e10 : v2 10 1 = L.length := by rw [hz.1 10 (by omega)]; exact g1
  rw [e10]
  refine ⟨fun hc => hq v2 hz (srch_end hs (Or.inr hc)), fun hc => ⟨fun hc2 => hq v2 hz (srch_end hs (Or.inl hc2)), fun hc2 => ⟨by omega, ?_⟩⟩⟩
  intro X25 hX25
  refine wh2 (X := X25) (fun j v25 => i + 1 ≤ j ∧ j ≤ L.length ∧ zF v v25 ∧ srch L.length L.length (fun a => a + 1) (p3 L) 3 i j (v25 197 2) (v25 197 3) (v25 197 4)) (fun j _ => (L.length - j).toNat) ?_ ⟨by omega, by omega, hz, hs⟩
  intro j v25 ⟨j0, j1, hz3, hs3⟩ hnext2
  apply hX25
  have e10' : v25 10 1 = L.length := by rw [hz3.1 10 (by omega)]; exact g1
  rw [e10']
  refine ⟨fun hc3 => ⟨by omega, hnext (i + 1) v25 ⟨by omega, by omega, hz3, srch_row hs3 (Or.inr hc3)⟩ (by omega)⟩, fun hc3 => ⟨fun hc4 => ⟨by omega, hnext (i + 1) v25 ⟨by omega, by omega, hz3, srch_row hs3 (Or.inl hc4)⟩ (by omega)⟩, fun hc4 => ⟨by omega, by omega, ?_⟩⟩⟩
  rw [hz3.1 192 (by omega), hk.2.1 i i0 hc2, hk.2.1 j (by omega) hc4]
  refine ⟨fun hc5 => ⟨by omega, hnext2 (j + 1) v25 ⟨by omega, by omega, hz3, srch_no hs3 (fun h => hc5 h.1)⟩ (by omega)⟩, fun hc5 => ?_⟩
  refine S_areAlike w hn (xG_frame hg (hz3.1 10 (by omega)) (hz3.1 12 (by omega)) (hz3.1 13 (by omega)) (hz3.1 14 (by omega))) (mt_frame hm (fun a ha => hz3.1 a (by omega)) hn.2) ⟨i0, hc2⟩ ⟨by omega, hc4⟩ (fun hna => ?_) (fun hal => ?_)
  · refine ⟨fun h => absurd rfl h, fun _ => S_tell (fun v' k1 k2 k3 k4 k5 => ⟨by omega, hnext2 (j + 1) v' ⟨by omega, by omega, ⟨fun a ha => by rw [k1 a ha]; exact hz3.1 a ha, fun j' a1 a2 a3 => by rw [k2 j' a1 a2 a3]; exact hz3.2 j' a1 a2 a3⟩, ?_⟩ (by omega)⟩)⟩
    rw [k3, k4, k5]
    exact srch_yes hs3 hc3 (by decide) i0 hc2 (by show i + 1 ≤ j; omega) hc4 ⟨hc5, hna⟩ i (j + 1)
  · exact ⟨fun _ => ⟨by omega, hnext2 (j + 1) v25 ⟨by omega, by omega, hz3, srch_no hs3 (fun h => h.2 hal)⟩ (by omega)⟩, fun h => absurd h (by decide)⟩
theorem zF_trans {v v' v'' : VT} (h1 : zF v v') (h2 : zF v' v'') : zF v v'' := ⟨fun a ha => by rw [h2.1 a ha]; exact h1.1 a ha, fun j a1 a2 a3 => by rw [h2.2 j a1 a2 a3]; exact h1.2 j a1 a2 a3⟩
theorem S_findReason {n : Int} {L : List Ln} {v : VT} {q : VT → Prop} (w : wfL n L) (hn : 0 ≤ n ∧ n ≤ 24) (hg : xG v 10 n L) (hm : mt v n L) (hk : kOKx v L) (h5 : v 197 5 = n)
    (hq : ∀ v', zF v v' → rsn n L (v' 197 2) (v' 197 3) (v' 197 4) → q v') : P_X8_findReason v q := by
  unfold P_X8_findReason
  intro v2 e2 v7 e7 v12 e12
  have hz : zF v v12 := ⟨fun a ha => by rw [e12, upd2_off _ _ _ ha, e7, upd2_off _ _ _ ha, e2, upd2_off _ _ _ ha], fun j h2 h3 h4 => by rw [e12, upd2_j, if_neg h4, e7, upd2_j, if_neg h3, e2, upd2_j, if_neg h2]⟩
  have h2 : v12 197 2 = 0 := by rw [e12, upd2_j, if_neg (by decide), e7, upd2_j, if_neg (by decide), e2, upd2_same]
  have tr : ∀ {v' : VT}, zF v v' → xG v' 10 n L ∧ mt v' n L ∧ kOKx v' L ∧ v' 197 5 = n := fun {v'} hz => ⟨xG_frame hg (hz.1 10 (by omega)) (hz.1 12 (by omega)) (hz.1 13 (by omega)) (hz.1 14 (by omega)), mt_frame hm (fun a ha => hz.1 a (by omega)) hn.2, by unfold kOKx; rw [hz.1 191 (by omega), hz.1 192 (by omega), hz.1 193 (by omega), hz.1 194 (by omega)]; exact hk, by rw [hz.2 5 (by decide) (by decide) (by decide)]; exact h5⟩
  refine S_findApart hn (tr hz).2.1 (tr hz).2.2.2 h2 (fun v17 z17 h17 => ?_)
  have hz17 := zF_trans hz z17
  rcases h17 with ⟨a1, a2⟩ | ⟨a1, a2⟩
  · refine ⟨fun h => absurd a1 h, fun _ => S_findEquallyFar w hn (tr hz17).1 (tr hz17).2.1 (tr hz17).2.2.2 a1 (fun v30 z30 h30 => ?_)⟩
    have hz30 := zF_trans hz17 z30
    rcases h30 with ⟨b1, b2⟩ | ⟨b1, b2⟩
    · refine ⟨fun h => absurd b1 h, fun _ => S_findNotAlike w hn (tr hz30).1 (tr hz30).2.1 (tr hz30).2.2.1 b1 (fun v44 z44 h44 => ?_)⟩
      rcases h44 with ⟨c1, c2⟩ | ⟨c1, c2⟩
      · exact hq v44 (zF_trans hz30 z44) (Or.inr ⟨a2, Or.inr ⟨b2, Or.inr ⟨c1, c2⟩⟩⟩)
      · exact hq v44 (zF_trans hz30 z44) (Or.inr ⟨a2, Or.inr ⟨b2, Or.inl ⟨c1, c2⟩⟩⟩)
    · exact ⟨fun _ => hq v30 hz30 (Or.inr ⟨a2, Or.inl ⟨b1, b2⟩⟩), fun h => absurd h (by omega)⟩
  · exact ⟨fun h => ⟨fun _ => hq v17 hz17 (Or.inl ⟨a1, a2⟩), fun h' => absurd h' h⟩, fun h => absurd h (by omega)⟩

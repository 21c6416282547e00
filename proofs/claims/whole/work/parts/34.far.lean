/-! ===== the reference: how far, by paths that grow node by node in between ===== -/
noncomputable def fw (L : List Ln) : Nat → Int → Int → Int
  | 0, a, b => @ite _ (a = b) (Classical.propDecidable _) 0 (@ite _ (adj L a b) (Classical.propDecidable _) 1 99)
  | m + 1, a, b => min (fw L m a b) (fw L m a (m : Int) + fw L m (m : Int) b)
def pwk (L : List Ln) (m : Int) : Nat → Int → Int → Prop
  | 0, a, b => a = b
  | k + 1, a, b => ∃ c, pwk L m k a c ∧ adj L c b ∧ (k = 0 ∨ c < m)
section FW
variable {L : List Ln} {n : Int}
theorem fw_r : ∀ (m : Nat) (a b : Int), 0 ≤ fw L m a b ∧ fw L m a b ≤ 99
  | 0, a, b => by
    unfold fw
    split
    · omega
    · split <;> omega
  | m + 1, a, b => by
    have h1 := fw_r m a b
    have h2 := fw_r m a (m : Int)
    have h3 := fw_r m (m : Int) b
    show 0 ≤ min _ _ ∧ min _ _ ≤ 99
    omega
theorem fw_self : ∀ (m : Nat) (a : Int), fw L m a a = 0
  | 0, a => by unfold fw; rw [if_pos rfl]
  | m + 1, a => by
    have h1 := fw_self m a
    have h2 := fw_r (L := L) m a (m : Int)
    have h3 := fw_r (L := L) m (m : Int) a
    show min _ _ = _
    omega
theorem fw_row (m : Nat) (b : Int) : fw L (m + 1) (m : Int) b = fw L m (m : Int) b := by
  have h1 := fw_self (L := L) m (m : Int)
  show min _ _ = _
  omega
theorem fw_col (m : Nat) (a : Int) : fw L (m + 1) a (m : Int) = fw L m a (m : Int) := by
  have h1 := fw_self (L := L) m (m : Int)
  show min _ _ = _
  omega
theorem fw_wk : ∀ (m : Nat) (a b : Int), fw L m a b < 99 → wk L (fw L m a b).toNat a b
  | 0, a, b => by
    intro h
    unfold fw at h ⊢
    split at h
    · rename_i e; rw [if_pos e]; exact e
    · rename_i e
      rw [if_neg e]
      split at h
      · rename_i e2; rw [if_pos e2]; exact wk_one e2
      · omega
  | m + 1, a, b => by
    intro h
    have h1 := fw_r (L := L) m a (m : Int)
    have h2 := fw_r (L := L) m (m : Int) b
    have h3 := fw_r (L := L) m a b
    have e : fw L (m + 1) a b = min (fw L m a b) (fw L m a (m : Int) + fw L m (m : Int) b) := rfl
    by_cases hc : fw L m a b ≤ fw L m a (m : Int) + fw L m (m : Int) b
    · have e2 : fw L (m + 1) a b = fw L m a b := by omega
      rw [e2] at h ⊢
      exact fw_wk m a b h
    · have e2 : fw L (m + 1) a b = fw L m a (m : Int) + fw L m (m : Int) b := by omega
      rw [e2] at h ⊢
      have := wk_add (fw_wk m a (m : Int) (by omega)) (fw_wk m (m : Int) b (by omega))
      rwa [show (fw L m a (m : Int)).toNat + (fw L m (m : Int) b).toNat = (fw L m a (m : Int) + fw L m (m : Int) b).toNat by omega] at this
theorem pwk_split (m : Int) : ∀ (k : Nat) (a b : Int), pwk L (m + 1) k a b → pwk L m k a b ∨ ∃ i j : Nat, i + j = k ∧ 0 < j ∧ pwk L (m + 1) i a m ∧ pwk L m j m b
  | 0, a, b, h => Or.inl h
  | k + 1, a, b, ⟨c, h1, h2, h3⟩ => by
    rcases h3 with h3 | h3
    · subst h3
      exact Or.inl ⟨c, h1, h2, Or.inl rfl⟩
    · by_cases hc : c = m
      · subst hc
        exact Or.inr ⟨k, 1, rfl, by omega, h1, c, rfl, h2, Or.inl rfl⟩
      · rcases pwk_split m k a c h1 with h4 | ⟨i, j, h4, h5, h6, h7⟩
        · exact Or.inl ⟨c, h4, h2, Or.inr (by omega)⟩
        · exact Or.inr ⟨i, j + 1, by omega, by omega, h6, c, h7, h2, Or.inr (by omega)⟩
theorem fw_pwk (w : wfL n L) : ∀ (m k : Nat) (a b : Int), pwk L (m : Int) k a b → fw L m a b ≤ k
  | 0, k, a, b, h => by
    match k, h with
    | 0, h => cases (h : a = b); rw [fw_self]; omega
    | 1, ⟨c, h1, h2, _⟩ =>
      cases (h1 : a = c)
      unfold fw
      split
      · omega
      · first
          | omega
          | (rw [if_pos h2]; omega)
    | k + 2, ⟨c, _, h2, h3⟩ =>
      have := adj_in w h2
      omega
  | m + 1, k, a, b, h => by
    have key : ∀ K : Nat, ∀ k, k ≤ K → ∀ a b : Int, pwk L ((m : Int) + 1) k a b → fw L (m + 1) a b ≤ k := by
      intro K
      induction K with
      | zero =>
        intro k hk a b h
        have : k = 0 := by omega
        subst this
        cases (h : a = b)
        rw [fw_self]; omega
      | succ K ih =>
        intro k hk a b h
        have e : fw L (m + 1) a b = min (fw L m a b) (fw L m a (m : Int) + fw L m (m : Int) b) := rfl
        rcases pwk_split (m : Int) k a b h with h1 | ⟨i, j, h1, h2, h3, h4⟩
        · have := fw_pwk w m k a b h1
          omega
        · have h5 := ih i (by omega) a (m : Int) h3
          rw [fw_col] at h5
          have h6 := fw_pwk w m j (m : Int) b h4
          omega
    exact key k k (Nat.le_refl k) a b h
theorem wk_pwk (w : wfL n L) : ∀ (k : Nat) (a b : Int), wk L k a b → pwk L n k a b
  | 0, a, b, h => h
  | k + 1, a, b, ⟨c, h1, h2⟩ => ⟨c, wk_pwk w k a c h1, h2, Or.inr (by have := adj_in w h2; omega)⟩
theorem fw_end (w : wfL n L) (hn : 0 ≤ n ∧ n ≤ 24) {a b : Int} (ha : 0 ≤ a ∧ a < n) : (0 ≤ dd L a b → fw L n.toNat a b = dd L a b) ∧ (dd L a b = -1 → fw L n.toNat a b = 99) := by
  have hr := fw_r (L := L) n.toNat a b
  constructor
  · intro h
    have h1 := wk_pwk w _ a b (dd_wk h)
    have h2 := fw_pwk w n.toNat _ a b (by rw [Int.toNat_of_nonneg hn.1]; exact h1)
    have h3 := dd_lt w ha (b := b)
    have h4 := dd_le (fw_wk (L := L) n.toNat a b (by omega))
    omega
  · intro h
    by_cases hlt : fw L n.toNat a b < 99
    · have := dd_le (fw_wk n.toNat a b hlt)
      omega
    · omega
end FW
def mG (v : VT) (g : Nat) (n : Int) (L : List Ln) : Prop := v g 0 = n ∧ v g 1 = L.length ∧ ∀ k : Int, 0 ≤ k → k < L.length → v g (26 + (2 * k)).toNat = lo L k ∧ v g ((26 + (2 * k)) + 1).toNat = hi L k ∧ v g (146 + k).toNat = pr L k
theorem S_low {v : VT} {n k : Int} {L : List Ln} {q : Int → Prop} (w : wfL n L) (h : mG v 222 n L) (hk : 0 ≤ k ∧ k < L.length) (hq : q (lo L k)) : P_X11_low k v q := by
  have := w.2.2
  refine ⟨by omega, by omega, by omega, ?_⟩
  rw [(h.2.2 k hk.1 hk.2).1]; exact hq
theorem S_high {v : VT} {n k : Int} {L : List Ln} {q : Int → Prop} (w : wfL n L) (h : mG v 222 n L) (hk : 0 ≤ k ∧ k < L.length) (hq : q (hi L k)) : P_X11_high k v q := by
  have := w.2.2
  refine ⟨by omega, by omega, by omega, by omega, ?_⟩
  rw [(h.2.2 k hk.1 hk.2).2.1]; exact hq
theorem S_priceOf {v : VT} {n k : Int} {L : List Ln} {q : Int → Prop} (w : wfL n L) (h : mG v 222 n L) (hk : 0 ≤ k ∧ k < L.length) (hq : q (pr L k)) : P_X11_priceOf k v q := by
  have := w.2.2
  refine ⟨by omega, by omega, ?_⟩
  rw [(h.2.2 k hk.1 hk.2).2.2]; exact hq
theorem S_farOf' {v : VT} {a b : Int} {q : Int → Prop} (ha : 0 ≤ a ∧ a < 24) (hb : 0 ≤ b ∧ b < 24) (hq : q (v 224 ((24 * a) + b).toNat)) : P_X11_farOf a b v q :=
  ⟨by omega, by omega, by omega, hq⟩
theorem far_at (v : VT) {a b c d : Int} (x : Int) (ha : 0 ≤ a) (hb : 0 ≤ b ∧ b < 24) (hc : 0 ≤ c) (hd : 0 ≤ d ∧ d < 24) : upd2 v 224 ((24 * a) + b).toNat x 224 ((24 * c) + d).toNat = if c = a ∧ d = b then x else v 224 ((24 * c) + d).toNat := by
  rw [upd2_at _ _ _ (by omega) (by omega)]
  by_cases h : c = a ∧ d = b
  · rw [if_pos h, if_pos (by omega)]
  · rw [if_neg h, if_neg (by omega)]
theorem mG_frame {v v' : VT} {g : Nat} {n : Int} {L : List Ln} (h : mG v g n L) (hf : v' g = v g) : mG v' g n L := by
  unfold mG; rw [hf]; exact h
theorem S_laysFar {n : Int} {L : List Ln} {v : VT} {q : VT → Prop} (w : wfL n L) (hn : 0 ≤ n ∧ n ≤ 24) (hg : mG v 222 n L)
    (hq : ∀ v' : VT, (∀ a, a ≠ 224 → v' a = v a) → (∀ a b : Int, 0 ≤ a → a < n → 0 ≤ b → b < n → (0 ≤ dd L a b → v' 224 ((24 * a) + b).toNat = dd L a b) ∧ (dd L a b = -1 → v' 224 ((24 * a) + b).toNat = 99)) → q v') : P_X11_laysFar v q := by
  obtain ⟨g0, g1, g2⟩ := id hg
  have hlen := w.2.2
  unfold P_X11_laysFar
  rw [g0]
  intro K55 hK55 X9 hX9
  have s1 : ∀ v55 : VT, (∀ a, a ≠ 224 → v55 a = v a) → (∀ a b : Int, 0 ≤ a → a < n → 0 ≤ b → b < n → v55 224 ((24 * a) + b).toNat = if a = b then 0 else 99) → K55 v55 := by
    intro v55 hf hz
    apply hK55
    intro K113 hK113 X57 hX57
    have s2 : ∀ v113 : VT, (∀ a, a ≠ 224 → v113 a = v a) → (∀ a b : Int, 0 ≤ a → a < n → 0 ≤ b → b < n → v113 224 ((24 * a) + b).toNat = fw L 0 a b) → K113 v113 := by
      intro v113 hf hz
      apply hK113
      intro X115 hX115
      refine up2 (X := X115) n (fun i v115 => 0 ≤ i ∧ (∀ a, a ≠ 224 → v115 a = v a) ∧ (∀ a b : Int, 0 ≤ a → a < n → 0 ≤ b → b < n → v115 224 ((24 * a) + b).toNat = fw L i.toNat a b)) ?_ (by omega) ⟨by omega, hf, hz⟩
      intro i v115 hle ⟨i0, hf1, hz1⟩ hnext
      apply hX115
      refine ⟨fun hc => ?_, fun hc => ?_⟩
      · have e : i = n := by omega
        subst e
        exact hq v115 hf1 (fun a b h1 h2 h3 h4 => by rw [hz1 a b h1 h2 h3 h4]; exact fw_end w hn ⟨h1, h2⟩)
      · have em : ((i.toNat : Nat) : Int) = i := Int.toNat_of_nonneg i0
        have e1 : (i + 1).toNat = i.toNat + 1 := by omega
        intro X122 hX122
        refine up2 (X := X122) n (fun a v122 => 0 ≤ a ∧ (∀ a, a ≠ 224 → v122 a = v a) ∧ (∀ a' b' : Int, 0 ≤ a' → a' < n → 0 ≤ b' → b' < n → v122 224 ((24 * a') + b').toNat = if a' < a then fw L (i.toNat + 1) a' b' else fw L i.toNat a' b')) ?_ (by omega) ⟨by omega, hf1, fun a' b' h1 h2 h3 h4 => by rw [if_neg (by omega)]; exact hz1 a' b' h1 h2 h3 h4⟩
        intro a v122 hle2 ⟨a0, hf2, hz2⟩ hnext2
        apply hX122
        refine ⟨fun hc2 => ⟨by omega, hnext hc _ ⟨by omega, hf2, fun a' b' h1 h2 h3 h4 => ?_⟩⟩, fun hc2 => ?_⟩
        · rw [hz2 a' b' h1 h2 h3 h4, if_pos (by omega), e1]
        · intro X130 hX130
          refine up2 (X := X130) n (fun b v130 => 0 ≤ b ∧ (∀ a, a ≠ 224 → v130 a = v a) ∧ (∀ a' b' : Int, 0 ≤ a' → a' < n → 0 ≤ b' → b' < n → v130 224 ((24 * a') + b').toNat = if a' < a ∨ (a' = a ∧ b' < b) then fw L (i.toNat + 1) a' b' else fw L i.toNat a' b')) ?_ (by omega) ⟨by omega, hf2, fun a' b' h1 h2 h3 h4 => ?_⟩
          · intro b v130 hle3 ⟨b0, hf3, hz3⟩ hnext3
            apply hX130
            refine ⟨fun hc3 => ⟨by omega, hnext2 hc2 _ ⟨by omega, hf3, fun a' b' h1 h2 h3 h4 => ?_⟩⟩, fun hc3 => ?_⟩
            · rw [hz3 a' b' h1 h2 h3 h4]
              by_cases h : a' < a + 1
              · rw [if_pos h, if_pos (by omega)]
              · rw [if_neg h, if_neg (by omega)]
            · have r1 : v130 224 ((24 * a) + i).toNat = fw L i.toNat a i := by
                rw [hz3 a i a0 hc2 i0 hc]
                have := fw_col (L := L) i.toNat a
                rw [em] at this
                split
                · exact this
                · rfl
              have r2 : v130 224 ((24 * i) + b).toNat = fw L i.toNat i b := by
                rw [hz3 i b i0 hc b0 hc3]
                have := fw_row (L := L) i.toNat b
                rw [em] at this
                split
                · exact this
                · rfl
              have r3 : v130 224 ((24 * a) + b).toNat = fw L i.toNat a b := by
                rw [hz3 a b a0 hc2 b0 hc3, if_neg (by omega)]
              have hb1 := fw_r (L := L) i.toNat a i
              have hb2 := fw_r (L := L) i.toNat i b
              have em1 : fw L (i.toNat + 1) a b = min (fw L i.toNat a b) (fw L i.toNat a i + fw L i.toNat i b) := by
                show min _ _ = _
                rw [em]
              refine S_farOf' (by omega) (by omega) ?_
              refine S_farOf' (by omega) (by omega) ?_
              rw [r1, r2]
              refine ⟨by omega, ?_⟩
              refine S_farOf' (by omega) (by omega) ?_
              rw [r3]
              refine ⟨fun hc4 => ⟨by omega, hnext3 hc3 _ ⟨by omega, hf3, fun a' b' h1 h2 h3 h4 => ?_⟩⟩, fun hc4 => ⟨by omega, by omega, by omega, fun v177 e177 => ⟨by omega, hnext3 hc3 _ ⟨by omega, fun a' ha => ?_, fun a' b' h1 h2 h3 h4 => ?_⟩⟩⟩⟩
              · rw [hz3 a' b' h1 h2 h3 h4]
                by_cases e : a' = a ∧ b' = b
                · obtain ⟨rfl, rfl⟩ := e
                  rw [if_neg (by omega), if_pos (by omega), em1]; omega
                · by_cases h : a' < a ∨ (a' = a ∧ b' < b)
                  · rw [if_pos h, if_pos (by omega)]
                  · rw [if_neg h, if_neg (by omega)]
              · rw [e177, upd2_off _ _ _ ha]; exact hf3 a' ha
              · rw [e177, far_at _ _ a0 (by omega) h1 (by omega)]
                by_cases e : a' = a ∧ b' = b
                · rw [if_pos e]
                  obtain ⟨rfl, rfl⟩ := e
                  rw [if_pos (by omega), em1]; omega
                · rw [if_neg e, hz3 a' b' h1 h2 h3 h4]
                  by_cases h : a' < a ∨ (a' = a ∧ b' < b)
                  · rw [if_pos h, if_pos (by omega)]
                  · rw [if_neg h, if_neg (by omega)]
          · rw [hz2 a' b' h1 h2 h3 h4]
            by_cases h : a' < a
            · rw [if_pos h, if_pos (by omega)]
            · rw [if_neg h, if_neg (by omega)]
    refine up2 (X := X57) (L.length : Int) (fun i v57 => 0 ≤ i ∧ (∀ a, a ≠ 224 → v57 a = v a) ∧ (∀ a b : Int, 0 ≤ a → a < n → 0 ≤ b → b < n → ((∃ j : Int, 0 ≤ j ∧ j < i ∧ ((lo L j = a ∧ hi L j = b) ∨ (lo L j = b ∧ hi L j = a))) → v57 224 ((24 * a) + b).toNat = 1) ∧ (¬ (∃ j : Int, 0 ≤ j ∧ j < i ∧ ((lo L j = a ∧ hi L j = b) ∨ (lo L j = b ∧ hi L j = a))) → v57 224 ((24 * a) + b).toNat = if a = b then 0 else 99))) ?_ (by omega) ⟨by omega, hf, fun a b h1 h2 h3 h4 => ⟨fun ⟨j, j1, j2, _⟩ => absurd j1 (by omega), fun _ => hz a b h1 h2 h3 h4⟩⟩
    intro i v57 hle ⟨i0, hf1, hz1⟩ hnext
    apply hX57
    have e1 : v57 222 1 = L.length := by rw [hf1 222 (by omega)]; exact g1
    rw [e1]
    refine ⟨fun hc => s2 v57 hf1 (fun a b h1 h2 h3 h4 => ?_), fun hc => ?_⟩
    · have hz := hz1 a b h1 h2 h3 h4
      have e : i = L.length := by omega
      rw [e] at hz
      unfold fw
      by_cases hab : a = b
      · rw [if_pos hab, hz.2 (fun h => (adj_in w (a := a) (b := b) h).2.2.2.2 hab), if_pos hab]
      · rw [if_neg hab]
        by_cases had : adj L a b
        · rw [if_pos had]; exact hz.1 had
        · rw [if_neg had, hz.2 had, if_neg hab]
    · have hw := w.1 i i0 hc
      have hg1 : mG v57 222 n L := mG_frame hg (hf1 222 (by omega))
      refine S_low w hg1 ⟨i0, hc⟩ ⟨by omega, ?_⟩
      refine S_high w hg1 ⟨i0, hc⟩ ⟨by omega, by omega, fun v86 e86 => ?_⟩
      have hg2 : mG v86 222 n L := mG_frame hg1 (by rw [e86, upd2_off _ _ _ (by omega)])
      refine S_high w hg2 ⟨i0, hc⟩ ⟨by omega, ?_⟩
      refine S_low w hg2 ⟨i0, hc⟩ ⟨by omega, by omega, fun v106 e106 => ⟨by omega, hnext hc _ ⟨by omega, fun a ha => ?_, fun a b h1 h2 h3 h4 => ?_⟩⟩⟩
      · rw [e106, upd2_off _ _ _ ha, e86, upd2_off _ _ _ ha]; exact hf1 a ha
      · have hz := hz1 a b h1 h2 h3 h4
        rw [e106, far_at _ _ (by omega) (by omega) h1 (by omega), e86, far_at _ _ (by omega) (by omega) h1 (by omega)]
        refine ⟨fun ⟨j, j1, j2, j3⟩ => ?_, fun h => ?_⟩
        · by_cases c1 : a = hi L i ∧ b = lo L i
          · rw [if_pos c1]
          · rw [if_neg c1]
            by_cases c2 : a = lo L i ∧ b = hi L i
            · rw [if_pos c2]
            · rw [if_neg c2]
              refine hz.1 ⟨j, j1, ?_, j3⟩
              by_cases ej : j = i
              · rw [ej] at j3; omega
              · omega
        · rw [if_neg (fun c1 => h ⟨i, i0, by omega, Or.inr ⟨c1.2.symm, c1.1.symm⟩⟩), if_neg (fun c2 => h ⟨i, i0, by omega, Or.inl ⟨c2.1.symm, c2.2.symm⟩⟩)]
          exact hz.2 (fun ⟨j, j1, j2, j3⟩ => h ⟨j, j1, by omega, j3⟩)
  refine up2 (X := X9) n (fun i v9 => 0 ≤ i ∧ (∀ a, a ≠ 224 → v9 a = v a) ∧ (∀ a b : Int, 0 ≤ a → a < i → 0 ≤ b → b < n → v9 224 ((24 * a) + b).toNat = if a = b then 0 else 99)) ?_ (by omega) ⟨by omega, fun a _ => rfl, fun a b h1 h2 => by omega⟩
  intro i v9 hle ⟨i0, hf, hz⟩ hnext
  apply hX9
  refine ⟨fun hc => s1 v9 hf (fun a b h1 h2 h3 h4 => hz a b h1 (by omega) h3 h4), fun hc => ?_⟩
  intro X16 hX16
  refine up2 (X := X16) n (fun j v16 => 0 ≤ j ∧ (∀ a, a ≠ 224 → v16 a = v a) ∧ (∀ a b : Int, 0 ≤ a → 0 ≤ b → b < n → (a < i ∨ (a = i ∧ b < j)) → v16 224 ((24 * a) + b).toNat = if a = b then 0 else 99)) ?_ (by omega) ⟨by omega, hf, fun a b h1 h3 h4 h5 => hz a b h1 (by omega) h3 h4⟩
  intro j v16 hle2 ⟨j0, hf2, hz2⟩ hnext2
  apply hX16
  refine ⟨fun hc2 => ⟨by omega, hnext hc _ ⟨by omega, hf2, fun a b h1 h2 h3 h4 => hz2 a b h1 h3 h4 (by omega)⟩⟩, fun hc2 => ⟨by omega, by omega, fun hc3 => ⟨by omega, fun v42 e42 => ⟨by omega, hnext2 hc2 _ ⟨by omega, fun a ha => ?_, fun a b h1 h3 h4 h5 => ?_⟩⟩⟩, fun hc3 => ⟨by omega, fun v42 e42 => ⟨by omega, hnext2 hc2 _ ⟨by omega, fun a ha => ?_, fun a b h1 h3 h4 h5 => ?_⟩⟩⟩⟩⟩
  · rw [e42, upd2_off _ _ _ ha]; exact hf2 a ha
  · rw [e42, far_at _ _ i0 (by omega) h1 (by omega)]
    by_cases e : a = i ∧ b = j
    · rw [if_pos e, if_neg (by omega)]
    · rw [if_neg e]; exact hz2 a b h1 h3 h4 (by omega)
  · rw [e42, upd2_off _ _ _ ha]; exact hf2 a ha
  · rw [e42, far_at _ _ i0 (by omega) h1 (by omega)]
    by_cases e : a = i ∧ b = j
    · rw [if_pos e, if_pos (by omega)]
    · rw [if_neg e]; exact hz2 a b h1 h3 h4 (by omega)

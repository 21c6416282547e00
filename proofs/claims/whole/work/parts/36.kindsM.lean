/-! ===== the reference: classes by colours that spread ===== -/
def kOKm (v : VT) (L : List Ln) : Prop := v 218 18 = nr L.length (RA L) L.length ∧ (∀ i : Int, 0 ≤ i → i < L.length → v 225 i.toNat = kd L.length (RA L) i) ∧ ∀ r : Int, 0 ≤ r → r < L.length → rt L.length (RA L) r = r → v 227 (nr L.length (RA L) r).toNat = r
theorem S_laysKinds {n : Int} {L : List Ln} {v : VT} {q : VT → Prop} (w : wfL n L) (hn : 0 ≤ n ∧ n ≤ 24) (hg : mG v 222 n L) (hfr : frOK v n L)
    (hq : ∀ v' : VT, (∀ a, a ≠ 218 → a ≠ 225 → a ≠ 227 → a ≠ 229 → v' a = v a) → (∀ j, j ≠ 18 → v' 218 j = v 218 j) → kOKm v' L → q v') : P_X11_laysKinds v q := by
  obtain ⟨g0, g1, g2⟩ := id hg
  have hlen := w.2.2
  have hR := RA_ok L
  unfold P_X11_laysKinds
  rw [g1]
  generalize hm : (L.length : Int) = m at *
  intro K27 hK27 X9 hX9
  have s1 : ∀ v27 : VT, (∀ a, a ≠ 225 → v27 a = v a) → (∀ i : Int, 0 ≤ i → i < m → v27 225 i.toNat = i) → K27 v27 := by
    intro v27 hf hz
    apply hK27
    intro K107 hK107 X29 hX29
    have s2 : ∀ v107 : VT, (∀ a, a ≠ 225 → v107 a = v a) → (∀ i : Int, 0 ≤ i → i < m → v107 225 i.toNat = rt m (RA L) i) → K107 v107 := by
      intro v107 hf hz
      apply hK107
      intro v109 e109 K155 hK155 X114 hX114
      have f109 : ∀ a, a ≠ 218 → v109 a = v107 a := fun a ha => by rw [e109, upd2_off _ _ _ ha]
      have s3 : ∀ v155 : VT, (∀ a, a ≠ 218 → a ≠ 225 → a ≠ 227 → v155 a = v a) → (∀ j, j ≠ 18 → v155 218 j = v 218 j) → v155 225 = v107 225 → v155 218 18 = nr m (RA L) m → (∀ r : Int, 0 ≤ r → r < m → rt m (RA L) r = r → v155 227 (nr m (RA L) r).toNat = r) → K155 v155 := by
        intro v155 hf5 hj5 h225 hc5 hl5
        apply hK155
        intro K210 hK210 X157 hX157
        have s4 : ∀ v210 : VT, (∀ a, a ≠ 229 → v210 a = v155 a) → (∀ i : Int, 0 ≤ i → i < m → v210 229 i.toNat = kd m (RA L) i) → K210 v210 := by
          intro v210 hf6 hz6
          apply hK210
          intro X212 hX212
          refine up2 (X := X212) m (fun i v212 => 0 ≤ i ∧ (∀ a, a ≠ 225 → v212 a = v210 a) ∧ (∀ k : Int, 0 ≤ k → k < i → v212 225 k.toNat = kd m (RA L) k)) ?_ (by omega) ⟨by omega, fun a _ => rfl, fun k h1 h2 => by omega⟩
          intro i v212 hle ⟨i0, hf7, hz7⟩ hnext
          apply hX212
          refine ⟨fun hc => hq v212 (fun a h1 h2 h3 h4 => ?_) (fun j hj => ?_) ?_, fun hc => ⟨by omega, by omega, fun v228 e228 => ⟨by omega, hnext hc _ ⟨by omega, fun a ha => ?_, fun k h1 h2 => ?_⟩⟩⟩⟩
          · rw [hf7 a h2, hf6 a h4, hf5 a h1 h2 h3]
          · rw [hf7 218 (by omega), hf6 218 (by omega)]; exact hj5 j hj
          · unfold kOKm
            rw [hm, hf7 218 (by omega), hf6 218 (by omega), hf7 227 (by omega), hf6 227 (by omega)]
            exact ⟨hc5, fun k h1 h2 => hz7 k h1 (by omega), hl5⟩
          · rw [e228, upd2_off _ _ _ ha]; exact hf7 a ha
          · rw [e228, upd2_at _ _ _ i0 h1]
            by_cases e : k = i
            · rw [if_pos e, e, hf7 229 (by omega)]; exact hz6 i i0 hc
            · rw [if_neg e]; exact hz7 k h1 (by omega)
        refine up2 (X := X157) m (fun i v157 => 0 ≤ i ∧ (∀ a, a ≠ 229 → v157 a = v155 a) ∧ (∀ k : Int, 0 ≤ k → k < i → v157 229 k.toNat = kd m (RA L) k)) ?_ (by omega) ⟨by omega, fun a _ => rfl, fun k h1 h2 => by omega⟩
        intro i v157 hle ⟨i0, hf6, hz6⟩ hnext
        apply hX157
        refine ⟨fun hc => s4 v157 hf6 (fun k h1 h2 => hz6 k h1 (by omega)), fun hc => ?_⟩
        intro X165 hX165
        have hkd := kd_in hR (i := i) ⟨i0, by omega⟩
        have hrt := rt_le hR (i := i) ⟨i0, by omega⟩
        have hrr := rt_rt hR (i := i) ⟨i0, by omega⟩
        have hnm : nr m (RA L) m ≤ m := nr_le (by omega)
        refine up2 (X := X165) (nr m (RA L) m) (fun c v165 => 0 ≤ c ∧ (∀ a, a ≠ 229 → v165 a = v155 a) ∧ (∀ k : Int, 0 ≤ k → (k < i ∨ (k = i ∧ kd m (RA L) i < c)) → v165 229 k.toNat = kd m (RA L) k)) ?_ (by omega) ⟨by omega, hf6, fun k h1 h2 => hz6 k h1 (by omega)⟩
        intro c v165 hle2 ⟨c0, hf7, hz7⟩ hnext2
        apply hX165
        have e18 : v165 218 18 = nr m (RA L) m := by rw [hf7 218 (by omega)]; exact hc5
        rw [e18]
        refine ⟨fun hc2 => ⟨by omega, hnext hc _ ⟨by omega, hf7, fun k h1 h2 => hz7 k h1 (by omega)⟩⟩, fun hc2 => ⟨by omega, by omega, ?_⟩⟩
        have ek : v165 225 i.toNat = rt m (RA L) i := by rw [hf7 225 (by omega), h225]; exact hz i i0 hc
        obtain ⟨r, r1, r2, r3, r4⟩ := nr_find (m := m) (R := RA L) m.toNat c c0 (by rw [Int.toNat_of_nonneg (by omega)]; exact hc2)
        rw [Int.toNat_of_nonneg (show (0 : Int) ≤ m by omega)] at r2
        have el : v165 227 c.toNat = r := by rw [hf7 227 (by omega), ← r4]; exact hl5 r r1 r2 r3
        rw [ek, el]
        refine ⟨fun hc3 => ⟨by omega, hnext2 hc2 _ ⟨by omega, hf7, fun k h1 h2 => ?_⟩⟩, fun hc3 => ⟨by omega, fun v197 e197 => ⟨by omega, hnext2 hc2 _ ⟨by omega, fun a ha => ?_, fun k h1 h2 => ?_⟩⟩⟩⟩
        · refine hz7 k h1 ?_
          rcases h2 with h2 | ⟨h2, h3⟩
          · exact Or.inl h2
          · refine Or.inr ⟨h2, ?_⟩
            by_cases e : kd m (RA L) i = c
            · exact absurd (nr_inj hrt.1 r1 hrr r3 (by rw [r4]; exact e)) hc3
            · omega
        · rw [e197, upd2_off _ _ _ ha]; exact hf7 a ha
        · rw [e197, upd2_at _ _ _ i0 h1]
          by_cases e : k = i
          · rw [if_pos e, e]
            show c = nr m (RA L) (rt m (RA L) i)
            rw [hc3, r4]
          · rw [if_neg e]; exact hz7 k h1 (by omega)
      refine up2 (X := X114) m (fun i v114 => 0 ≤ i ∧ (∀ a, a ≠ 218 → a ≠ 227 → v114 a = v107 a) ∧ (∀ j, j ≠ 18 → v114 218 j = v 218 j) ∧ v114 218 18 = nr m (RA L) i ∧ (∀ r : Int, 0 ≤ r → r < i → rt m (RA L) r = r → v114 227 (nr m (RA L) r).toNat = r)) ?_ (by omega) ⟨by omega, fun a h1 h2 => f109 a h1, fun j hj => by rw [e109, upd2_j, if_neg hj, hf 218 (by omega)], by rw [e109, upd2_same]; rfl, fun r h1 h2 => by omega⟩
      intro i v114 hle ⟨i0, hf4, hj4, hc4, hl4⟩ hnext
      apply hX114
      refine ⟨fun hc => s3 v114 (fun a h1 h2 h3 => by rw [hf4 a h1 h3]; exact hf a h2) hj4 (hf4 225 (by omega) (by omega)) (by rw [hc4, show i = m by omega]) (fun r h1 h2 h3 => hl4 r h1 (by omega) h3), fun hc => ⟨by omega, ?_⟩⟩
      have ek : v114 225 i.toNat = rt m (RA L) i := by rw [hf4 225 (by omega) (by omega)]; exact hz i i0 hc
      rw [ek, hc4]
      have hni : nr m (RA L) i ≤ i := nr_le i0
      have hn0 : 0 ≤ nr m (RA L) i := nr_pos
      refine ⟨fun hc2 => ⟨by omega, hnext hc _ ⟨by omega, hf4, hj4, by rw [hc4, nr_out i0 hc2], fun r h1 h2 h3 => hl4 r h1 (by by_cases e : r = i; (· rw [e] at h3; exact absurd h3 hc2); omega) h3⟩⟩, fun hc2 => ⟨by omega, fun v138 e138 => ?_⟩⟩
      have e18 : v138 218 18 = nr m (RA L) i := by rw [e138, upd2_off _ _ _ (by omega)]; exact hc4
      rw [e18]
      refine ⟨by omega, fun v146 e146 => ⟨by omega, hnext hc _ ⟨by omega, fun a h1 h2 => ?_, fun j hj => ?_, ?_, fun r h1 h2 h3 => ?_⟩⟩⟩
      · rw [e146, upd2_off _ _ _ h1, e138, upd2_off _ _ _ h2]; exact hf4 a h1 h2
      · rw [e146, upd2_j, if_neg hj, e138, upd2_off _ _ _ (by omega)]; exact hj4 j hj
      · rw [e146, upd2_same, nr_in i0 hc2]
      · rw [e146, upd2_off _ _ _ (by omega), e138, upd2_at _ _ _ hn0 nr_pos]
        by_cases e : r = i
        · rw [e, if_pos rfl]
        · rw [if_neg (fun h => e (nr_inj h1 i0 h3 hc2 h))]
          exact hl4 r h1 (by omega) h3
    -- the colours spread
    have hsum : ∀ v29 : VT, (∀ i : Int, 0 ≤ i → i < m → 0 ≤ v29 225 i.toNat ∧ v29 225 i.toNat ≤ i ∧ cn (RA L) i (v29 225 i.toNat)) → 0 ≤ fb_si (fun k => v29 225 k) m.toNat := by
      intro v29 h
      have : ∀ k : Nat, (k : Int) ≤ m → 0 ≤ fb_si (fun k => v29 225 k) k := by
        intro k
        induction k with
        | zero => intro _; exact Int.le_refl 0
        | succ k ih =>
          intro hk
          have h1 := h (k : Int) (by omega) (by omega)
          have h2 := ih (by omega)
          rw [fb_si_succ]
          simp at h1
          omega
      exact this m.toNat (by omega)
    refine wh2 (X := X29) (fun fl v29 => (fl = 0 ∨ fl = 1) ∧ (∀ a, a ≠ 225 → v29 a = v a) ∧ (∀ i : Int, 0 ≤ i → i < m → 0 ≤ v29 225 i.toNat ∧ v29 225 i.toNat ≤ i ∧ cn (RA L) i (v29 225 i.toNat)) ∧ (fl = 0 → ∀ a b : Int, 0 ≤ a → a < m → 0 ≤ b → b < m → alk L a b → v29 225 a.toNat ≤ v29 225 b.toNat)) (fun fl v29 => (2 * fb_si (fun k => v29 225 k) m.toNat + fl).toNat) ?_ ⟨Or.inr rfl, hf, fun i h1 h2 => by rw [hz i h1 h2]; exact ⟨h1, Int.le_refl i, cn_refl⟩, fun h => absurd h (by decide)⟩
    intro fl v29 ⟨hfl, hf2, hb2, hx2⟩ hnext
    apply hX29
    refine ⟨fun hc => s2 v29 hf2 (fun i h1 h2 => ?_), fun hc => ?_⟩
    · have hb := hb2 i h1 h2
      have hx := hx2 hc
      have hi2 : 0 ≤ i ∧ i < m := ⟨h1, h2⟩
      have hrs := rt_spec hR hi2
      have hrl := rt_le hR hi2
      have key : v29 225 (rt m (RA L) i).toNat = v29 225 i.toNat :=
        cn_ind (R := RA L) (p := fun j => v29 225 j.toNat = v29 225 i.toNat) rfl (fun a b ha hab => by
          have h3 := hx a b hab.1 (by have := hab.2.1; omega) hab.2.2.1 (by have := hab.2.2.2.1; omega) hab.2.2.2.2
          have hba := hR.2 a b hab
          have h4 := hx b a hba.1 (by have := hba.2.1; omega) hba.2.2.1 (by have := hba.2.2.2.1; omega) hba.2.2.2.2
          have ha : v29 225 a.toNat = v29 225 i.toNat := ha
          show v29 225 b.toNat = v29 225 i.toNat
          omega) hrs.2.1
      have hb3 := hb2 (rt m (RA L) i) hrl.1 hrl.2.2
      have h5 := hrs.2.2 _ hb.2.2
      omega
    · have hfl1 : fl = 1 := by omega
      have hs29 := hsum v29 hb2
      intro X37 hX37
      refine up3m (X := X37) m (fun a fl' v37 => 0 ≤ a ∧ (∀ a, a ≠ 225 → v37 a = v a) ∧ (∀ i : Int, 0 ≤ i → i < m → 0 ≤ v37 225 i.toNat ∧ v37 225 i.toNat ≤ i ∧ cn (RA L) i (v37 225 i.toNat)) ∧ ((fl' = 0 ∧ v37 225 = v29 225 ∧ ∀ a' b' : Int, 0 ≤ a' → a' < a → 0 ≤ b' → b' < m → alk L a' b' → v37 225 a'.toNat ≤ v37 225 b'.toNat) ∨ (fl' = 1 ∧ fb_si (fun k => v37 225 k) m.toNat < fb_si (fun k => v29 225 k) m.toNat))) ?_ (by omega) ⟨by omega, hf2, hb2, Or.inl ⟨rfl, rfl, fun a' b' h1 h2 => by omega⟩⟩
      intro fl' a v37 hle ⟨a0, hf3, hb3, hx3⟩ hnext2
      apply hX37
      refine ⟨fun hc2 => ?_, fun hc2 => ?_⟩
      · rcases hx3 with ⟨h1, h2, h3⟩ | ⟨h1, h2⟩
        · refine hnext fl' v37 ⟨Or.inl h1, hf3, hb3, fun _ a' b' k1 k2 k3 k4 k5 => h3 a' b' k1 (by omega) k3 k4 k5⟩ ?_
          rw [h2, h1, hfl1]; omega
        · refine hnext fl' v37 ⟨Or.inr h1, hf3, hb3, fun h => by omega⟩ ?_
          have := hsum v37 hb3
          rw [h1, hfl1]; omega
      · intro X45 hX45
        refine up3m (X := X45) m (fun b fl' v45 => 0 ≤ b ∧ (∀ a, a ≠ 225 → v45 a = v a) ∧ (∀ i : Int, 0 ≤ i → i < m → 0 ≤ v45 225 i.toNat ∧ v45 225 i.toNat ≤ i ∧ cn (RA L) i (v45 225 i.toNat)) ∧ ((fl' = 0 ∧ v45 225 = v29 225 ∧ ∀ a' b' : Int, 0 ≤ a' → 0 ≤ b' → b' < m → (a' < a ∨ (a' = a ∧ b' < b)) → alk L a' b' → v45 225 a'.toNat ≤ v45 225 b'.toNat) ∨ (fl' = 1 ∧ fb_si (fun k => v45 225 k) m.toNat < fb_si (fun k => v29 225 k) m.toNat))) ?_ (by omega) ⟨by omega, hf3, hb3, ?_⟩
        · intro fl2 b v45 hle2 ⟨b0, hf4, hb4, hx4⟩ hnext3
          apply hX45
          refine ⟨fun hc3 => ⟨by omega, hnext2 hc2 _ _ ⟨by omega, hf4, hb4, ?_⟩⟩, fun hc3 => ⟨by omega, by omega, fun hc4 => ⟨by omega, hnext3 hc3 _ _ ⟨by omega, hf4, hb4, ?_⟩⟩, fun hc4 => ?_⟩⟩
          · rcases hx4 with ⟨h1, h2, h3⟩ | h1
            · exact Or.inl ⟨h1, h2, fun a' b' k1 k2 k3 k4 k5 => h3 a' b' k1 k3 k4 (by omega) k5⟩
            · exact Or.inr h1
          · rcases hx4 with ⟨h1, h2, h3⟩ | h1
            · refine Or.inl ⟨h1, h2, fun a' b' k1 k3 k4 k6 k5 => ?_⟩
              by_cases e : a' = a ∧ b' = b
              · rw [e.1, e.2]; exact hc4
              · exact h3 a' b' k1 k3 k4 (by omega) k5
            · exact Or.inr h1
          · refine S_areAlikeM w hn (mG_frame hg (hf4 222 (by omega))) (by unfold frOK; rw [hf4 224 (by omega)]; exact hfr) ⟨a0, by omega⟩ ⟨b0, by omega⟩ (fun hna => ?_) (fun hal => ?_)
            · refine ⟨fun _ => ⟨by omega, hnext3 hc3 _ _ ⟨by omega, hf4, hb4, ?_⟩⟩, fun h => absurd rfl h⟩
              rcases hx4 with ⟨h1, h2, h3⟩ | h1
              · refine Or.inl ⟨h1, h2, fun a' b' k1 k3 k4 k6 k5 => ?_⟩
                by_cases e : a' = a ∧ b' = b
                · rw [e.1, e.2] at k5; exact absurd k5 hna
                · exact h3 a' b' k1 k3 k4 (by omega) k5
              · exact Or.inr h1
            · refine ⟨fun h => absurd h (by decide), fun _ => ⟨by omega, by omega, fun v89 e89 => ⟨by omega, hnext3 hc3 _ _ ⟨by omega, fun c hca => ?_, fun i h1 h2 => ?_, Or.inr ⟨rfl, ?_⟩⟩⟩⟩⟩
              · rw [e89, upd2_off _ _ _ hca]; exact hf4 c hca
              · rw [e89, upd2_at _ _ _ a0 h1]
                have hba := hb4 a a0 hc2
                have hbb := hb4 b b0 hc3
                by_cases e : i = a
                · rw [if_pos e, e]
                  refine ⟨hbb.1, by omega, cn_trans (cn_one ⟨a0, by omega, b0, by omega, hal⟩) hbb.2.2⟩
                · rw [if_neg e]; exact hb4 i h1 h2
              · have hu := fb_si_upd (fun k => v45 225 k) (v45 225 b.toNat) (i := a.toNat) (n := m.toNat) (by omega)
                have he : (fun k => v89 225 k) = fun k => if k = a.toNat then v45 225 b.toNat else v45 225 k := by
                  funext k; rw [e89, upd2_j]
                rw [he, hu]
                show fb_si (fun k => v45 225 k) m.toNat - v45 225 a.toNat + v45 225 b.toNat < _
                rcases hx4 with ⟨h1, h2, h3⟩ | ⟨h1, h2⟩
                · rw [h2] at hc4 ⊢; omega
                · omega
        · rcases hx3 with ⟨h1, h2, h3⟩ | h1
          · exact Or.inl ⟨h1, h2, fun a' b' k1 k3 k4 k6 k5 => h3 a' b' k1 (by omega) k3 k4 k5⟩
          · exact Or.inr h1
  refine up2 (X := X9) m (fun i v9 => 0 ≤ i ∧ (∀ a, a ≠ 225 → v9 a = v a) ∧ (∀ k : Int, 0 ≤ k → k < i → v9 225 k.toNat = k)) ?_ (by omega) ⟨by omega, fun a _ => rfl, fun k h1 h2 => by omega⟩
  intro i v9 hle ⟨i0, hf, hz⟩ hnext
  apply hX9
  refine ⟨fun hc => s1 v9 hf (fun k h1 h2 => hz k h1 (by omega)), fun hc => ⟨by omega, fun v20 e20 => ⟨by omega, hnext hc _ ⟨by omega, fun a ha => ?_, fun k h1 h2 => ?_⟩⟩⟩⟩
  · rw [e20, upd2_off _ _ _ ha]; exact hf a ha
  · rw [e20, upd2_at _ _ _ i0 h1]
    by_cases e : k = i
    · rw [if_pos e, e]
    · rw [if_neg e]; exact hz k h1 (by omega)

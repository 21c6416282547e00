/-! ===== the reference: laysCosts ===== -/
section CostsM
variable {n t : Int} {L : List Ln} {v : VT}
theorem S_cheapens {a b p : Int} {q : Int → VT → Prop} (ha : 0 ≤ a ∧ a < 24) (hb : 0 ≤ b ∧ b < 24) (hr : 0 ≤ v 231 b.toNat ∧ v 231 b.toNat ≤ 1000000000) (hp : 1 ≤ p ∧ p ≤ 9)
    (h1 : v 231 b.toNat + p < v 231 a.toNat → ∀ v', v' = upd2 v 231 a.toNat (v 231 b.toNat + p) → q 1 v') (h0 : v 231 a.toNat ≤ v 231 b.toNat + p → q 0 v) : P_X11_cheapens a b p v q := by
  unfold P_X11_cheapens
  exact ⟨by omega, by omega, by omega, fun hl => ⟨by omega, by omega, by omega, fun v32 e32 => h1 hl v32 e32⟩, fun hg => h0 hg⟩
def cA (L : List Ln) (n t : Int) (v : VT) : Prop := v 231 t.toNat = 0 ∧ ∀ a : Int, 0 ≤ a → a < n → (v 231 a.toNat = 1000000000 ∨ ∃ k, cwk (fop 0) L t k a (v 231 a.toNat)) ∧ 0 ≤ v 231 a.toNat ∧ v 231 a.toNat ≤ 1000000000
def cS (n : Int) (v : VT) : Int := fb_si (fun k => v 231 k) n.toNat
theorem fop0 (c p : Int) : fop 0 c p = c + p := by unfold fop; rw [if_pos rfl]
theorem cA_put (w : wfL n L) (ht : 0 ≤ t ∧ t < n) {a b p : Int} {v' : VT} (h : cA L n t v) (hab : nbp L b a p) (hl : v 231 b.toNat + p < v 231 a.toNat) (e : v' = upd2 v 231 a.toNat (v 231 b.toNat + p)) : cA L n t v' ∧ cS n v' < cS n v := by
  have hin := adj_in w (nbp_adj hab)
  have hpr := nbp_r w hab
  have hb := h.2 b hin.1 hin.2.1
  have ha := h.2 a hin.2.2.1 hin.2.2.2.1
  have at' : ∀ c : Int, 0 ≤ c → v' 231 c.toNat = if c = a then v 231 b.toNat + p else v 231 c.toNat := fun c c0 => by
    rw [e, upd2_at _ _ _ hin.2.2.1 c0]
  refine ⟨⟨?_, fun c c0 c1 => ?_⟩, ?_⟩
  · rw [at' t ht.1]
    by_cases et : t = a
    · rw [← et] at hl; have := h.1; omega
    · rw [if_neg et]; exact h.1
  · rw [at' c c0]
    have hc := h.2 c c0 c1
    by_cases ec : c = a
    · rw [if_pos ec]
      rcases hb.1 with h2 | ⟨k, h2⟩
      · omega
      · exact ⟨Or.inr ⟨k + 1, by rw [ec]; exact ⟨b, _, p, hab, h2, (fop0 _ _).symm⟩⟩, by omega, by omega⟩
    · rw [if_neg ec]; exact hc
  · have h1 := fb_si_upd (fun k => v 231 k) (v 231 b.toNat + p) (i := a.toNat) (n := n.toNat) (by omega)
    have h2 : fb_si (fun k => v' 231 k) n.toNat = fb_si (fun k => if k = a.toNat then v 231 b.toNat + p else v 231 k) n.toNat := fb_si_cong (fun k _ => by rw [e, upd2_j])
    unfold cS
    rw [h2, h1]
    show fb_si (fun k => v 231 k) n.toNat - v 231 a.toNat + (v 231 b.toNat + p) < _
    omega
theorem cS_0 (h : cA L n t v) : 0 ≤ cS n v := by
  unfold cS
  have : ∀ m : Nat, m ≤ n.toNat → 0 ≤ fb_si (fun k => v 231 k) m := by
    intro m
    induction m with
    | zero => intro _; exact Int.le_refl 0
    | succ m ih =>
      intro hm
      rw [fb_si_succ]
      have h1 := ih (by omega)
      have h2 := (h.2 (m : Int) (by omega) (by omega)).2.1
      rw [Int.toNat_natCast] at h2
      show 0 ≤ fb_si (fun k => v 231 k) m + v 231 m
      omega
  exact this _ (Nat.le_refl _)
theorem S_laysCosts {q : VT → Prop} (w : wfL n L) (hn : 0 ≤ n ∧ n ≤ 24) (hg : mG v 222 n L) (ht : 0 ≤ t ∧ t < n)
    (hq : ∀ v', (∀ a, a ≠ 231 → v' a = v a) → (∀ a : Int, 0 ≤ a → a < n → 0 ≤ dd L t a → isL (fop 0) L t a (v' 231 a.toNat)) → (∀ a : Int, 0 ≤ a → a < n → 0 ≤ v' 231 a.toNat ∧ v' 231 a.toNat ≤ 1000000000) → q v') : P_X11_laysCosts t v q := by
  have hf := okf_op 0
  have hlen := w.2.2
  have gr : ∀ v' : VT, (∀ a, a ≠ 231 → v' a = v a) → mG v' 222 n L := fun v' h => mG_frame hg (h 222 (by omega))
  unfold P_X11_laysCosts
  intro K36 hK36 X2 hX2
  have s1 : ∀ v36 : VT, (∀ a, a ≠ 231 → v36 a = v a) → cA L n t v36 → K36 v36 := by
    intro v36 hfr hA
    apply hK36
    intro X38 hX38
    refine wh2 (X := X38) (fun ch v38 => (∀ a, a ≠ 231 → v38 a = v a) ∧ cA L n t v38 ∧ (ch = 0 → ∀ (k : Nat) (a c : Int), cwk (fop 0) L t k a c → v38 231 a.toNat ≤ c)) (fun ch v38 => if ch = 0 then 0 else (cS n v38).toNat + 1) ?_ ⟨hfr, hA, fun h => absurd h (by decide)⟩
    intro ch v38 ⟨hf4, hA4, hB4⟩ hnext
    apply hX38
    refine ⟨fun h0 => ?_, fun h0 => ?_⟩
    · refine hq v38 hf4 (fun a a0 a1 hd => ?_) (fun a a0 a1 => (hA4.2 a a0 a1).2)
      obtain ⟨k, c, hk⟩ := cwk_ex (f := fop 0) ⟨_, dd_wk hd⟩
      obtain ⟨k', c', g1, g2, g3⟩ := cwk_short w hf ht k hk
      have h1 := hB4 h0 k' a c' g3
      have h2 := cwk_r w hf g3
      refine ⟨?_, fun k c' h => hB4 h0 k a c' h⟩
      rcases (hA4.2 a a0 a1).1 with h3 | h3
      · omega
      · exact h3
    intro X46 hX46
    refine up3m (X := X46) (L.length : Int) (fun j ch v46 => 0 ≤ j ∧ (∀ a, a ≠ 231 → v46 a = v a) ∧ cA L n t v46 ∧ ((ch = 0 ∧ v46 = v38 ∧ ∀ l : Int, 0 ≤ l → l < j → v38 231 (lo L l).toNat ≤ v38 231 (hi L l).toNat + pr L l ∧ v38 231 (hi L l).toNat ≤ v38 231 (lo L l).toNat + pr L l) ∨ (ch = 1 ∧ cS n v46 < cS n v38))) ?_ (by omega) ⟨by omega, hf4, hA4, Or.inl ⟨rfl, rfl, fun l l0 l1 => by omega⟩⟩
    intro c6 j v46 hle ⟨j0, hf6, hA6, hch⟩ hnext2
    apply hX46
    have g6 := gr v46 hf6
    rw [g6.2.1]
    refine ⟨fun hc => hnext _ _ ⟨hf6, hA6, fun hz k a c h => ?_⟩ ?_, fun hc => ?_⟩
    · rcases hch with ⟨-, ev, hl⟩ | ⟨h1, -⟩
      · rw [ev]
        refine fix_le w hf (V := fun a => v38 231 a.toNat) (cap := 1000000000) (by show v38 231 t.toNat ≤ 0; rw [hA4.1]; omega) (fun b a p hp => ?_) (fun b a p hp hlt => ?_) h
        · have hin := adj_in w (nbp_adj hp)
          exact (hA4.2 a hin.2.2.1 hin.2.2.2.1).2.2
        · obtain ⟨l, l0, l1, l2, l3⟩ := hp
          have := hl l l0 (by omega)
          show v38 231 a.toNat ≤ fop 0 (v38 231 b.toNat) p
          rw [fop0, ← l3]
          rcases l2 with ⟨e1, e2⟩ | ⟨e1, e2⟩
          · rw [← e1, ← e2]; exact this.2
          · rw [← e1, ← e2]; exact this.1
      · omega
    · show (if c6 = 0 then 0 else (cS n v46).toNat + 1) < (if ch = 0 then 0 else (cS n v38).toNat + 1)
      rw [if_neg h0]
      have := cS_0 hA6
      rcases hch with ⟨h1, -⟩ | ⟨h1, h2⟩
      · rw [if_pos h1]; omega
      · rw [if_neg (by omega)]; omega
    · have hw := w.1 j j0 hc
      have nlo : nbp L (hi L j) (lo L j) (pr L j) := ⟨j, j0, hc, Or.inr ⟨rfl, rfl⟩, rfl⟩
      have nhi : nbp L (lo L j) (hi L j) (pr L j) := ⟨j, j0, hc, Or.inl ⟨rfl, rfl⟩, rfl⟩
      have tail : ∀ (s0 : Int) (v72 : VT), (∀ a, a ≠ 231 → v72 a = v a) → cA L n t v72 → ((s0 = 0 ∧ v72 = v38 ∧ (∀ l : Int, 0 ≤ l → l < j → v38 231 (lo L l).toNat ≤ v38 231 (hi L l).toNat + pr L l ∧ v38 231 (hi L l).toNat ≤ v38 231 (lo L l).toNat + pr L l) ∧ v38 231 (lo L j).toNat ≤ v38 231 (hi L j).toNat + pr L j) ∨ (s0 = 1 ∧ cS n v72 ≤ cS n v38 ∧ cS n v72 < cS n v38)) → P_X11_high j v72 (fun r91 => P_X11_low j v72 (fun r96 => P_X11_priceOf j v72 (fun r101 => P_X11_cheapens r91 r96 r101 v72 (fun r104 v104 => ((¬ r104 = 0) → (-2147483648 ≤ j + 1 ∧ j + 1 ≤ 2147483647) ∧ X46 1 (j + 1) v104) ∧ ((r104 = 0) → ((s0 = 0) → (-2147483648 ≤ j + 1 ∧ j + 1 ≤ 2147483647) ∧ X46 0 (j + 1) v104) ∧ ((¬ s0 = 0) → (-2147483648 ≤ j + 1 ∧ j + 1 ≤ 2147483647) ∧ X46 1 (j + 1) v104)))))) := by
        intro s0 v72 hf7 hA7 hs
        have g7 := gr v72 hf7
        refine S_high w g7 ⟨j0, hc⟩ (S_low w g7 ⟨j0, hc⟩ (S_priceOf w g7 ⟨j0, hc⟩ ?_))
        refine S_cheapens (by omega) (by omega) (hA7.2 (lo L j) (by omega) (by omega)).2 (by omega) (fun hl v' ev => ?_) (fun hno => ?_)
        · obtain ⟨p1, p2⟩ := cA_put w ht hA7 nhi hl ev
          refine ⟨fun _ => ⟨by omega, hnext2 hc _ _ ⟨by omega, fun a ha => by rw [ev, upd2_off _ _ _ ha]; exact hf7 a ha, p1, Or.inr ⟨rfl, ?_⟩⟩⟩, fun h => absurd h (by decide)⟩
          rcases hs with ⟨-, e, -⟩ | ⟨-, h, -⟩
          · rw [e] at p2; exact p2
          · omega
        · refine ⟨fun h => absurd rfl h, fun _ => ⟨fun hz => ⟨by omega, hnext2 hc _ _ ⟨by omega, hf7, hA7, Or.inl ?_⟩⟩, fun hz => ⟨by omega, hnext2 hc _ _ ⟨by omega, hf7, hA7, Or.inr ⟨rfl, ?_⟩⟩⟩⟩⟩
          · rcases hs with ⟨-, e, h1, h2⟩ | ⟨h, -⟩
            · rw [e] at hno
              refine ⟨rfl, e, fun l l0 l1 => ?_⟩
              by_cases el : l = j
              · rw [el]; exact ⟨h2, hno⟩
              · exact h1 l l0 (by omega)
            · omega
          · rcases hs with ⟨h, -⟩ | ⟨-, -, h⟩
            · exact absurd h hz
            · exact h
      refine S_low w g6 ⟨j0, hc⟩ (S_high w g6 ⟨j0, hc⟩ (S_priceOf w g6 ⟨j0, hc⟩ ?_))
      refine S_cheapens (by omega) (by omega) (hA6.2 (hi L j) (by omega) (by omega)).2 (by omega) (fun hl v' ev K87 hK87 K82 hK82 => ?_) (fun hno K87 hK87 K82 hK82 => ?_)
      · obtain ⟨p1, p2⟩ := cA_put w ht hA6 nlo hl ev
        refine ⟨fun _ => hK82 (hK87 1 (tail 1 v' (fun a ha => by rw [ev, upd2_off _ _ _ ha]; exact hf6 a ha) p1 (Or.inr ?_))), fun h => absurd h (by decide)⟩
        rcases hch with ⟨-, e, -⟩ | ⟨-, h⟩
        · rw [e] at p2; exact ⟨rfl, by omega, p2⟩
        · exact ⟨rfl, by omega, by omega⟩
      · refine ⟨fun h => absurd rfl h, fun _ => ⟨fun hz => hK87 0 (tail 0 v46 hf6 hA6 (Or.inl ?_)), fun hz => hK82 (hK87 1 (tail 1 v46 hf6 hA6 (Or.inr ?_)))⟩⟩
        · rcases hch with ⟨-, e, h1⟩ | ⟨h, -⟩
          · rw [e] at hno; exact ⟨rfl, e, h1, hno⟩
          · omega
        · rcases hch with ⟨h, -⟩ | ⟨-, h⟩
          · exact absurd h hz
          · exact ⟨rfl, by omega, h⟩
  refine up2 (X := X2) n (fun i v3 => 0 ≤ i ∧ (∀ a, a ≠ 231 → v3 a = v a) ∧ ∀ a : Int, 0 ≤ a → a < i → v3 231 a.toNat = if a = t then 0 else 1000000000) ?_ (by omega) ⟨by omega, fun a _ => rfl, fun a a0 a1 => by omega⟩
  intro i v3 hle ⟨i0, hfr, hz⟩ hnext
  apply hX2
  rw [(gr v3 hfr).1]
  have put : ∀ y : Int, y = (if i = t then 0 else 1000000000) → i < n → ∀ v30 : VT, v30 = upd2 v3 231 i.toNat y → X2 (i + 1) v30 := by
    intro y hy hc v30 e30
    refine hnext hc _ ⟨by omega, fun a ha => by rw [e30, upd2_off _ _ _ ha]; exact hfr a ha, fun a a0 a1 => ?_⟩
    rw [e30, upd2_at _ _ _ i0 a0]
    by_cases e : a = i
    · rw [if_pos e, hy, e]
    · rw [if_neg e]; exact hz a a0 (by omega)
  refine ⟨fun hc => s1 v3 hfr ⟨by rw [hz t ht.1 (by omega), if_pos rfl], fun a a0 a1 => ?_⟩, fun hc => ⟨fun hne => ⟨by omega, fun v30 e30 => ⟨by omega, put _ (by rw [if_neg hne]) hc v30 e30⟩⟩, fun he => ⟨by omega, fun v30 e30 => ⟨by omega, put _ (by rw [if_pos he]) hc v30 e30⟩⟩⟩⟩
  rw [hz a a0 (by omega)]
  by_cases e : a = t
  · rw [if_pos e]; exact ⟨Or.inr ⟨0, e, rfl⟩, by omega, by omega⟩
  · rw [if_neg e]; exact ⟨Or.inl rfl, by omega, by omega⟩
end CostsM

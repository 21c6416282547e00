/-! ===== feed ===== -/
def put4 (b : Int → Int) (m x : Int) : Int → Int := fun i => if m ≤ i ∧ i < m + 4 then i_and (i_shr x (24 - 8 * (i - m))) 255 else b i
def sel5 (a b c d e k : Int) : Int := if k < 4 then a else if k < 8 then b else if k < 12 then c else if k < 16 then d else e
def fd (b : Int → Int) (m x1 x2 x3 x4 x5 : Int) : Int → Int := fun i => if m ≤ i then i_and (i_shr (sel5 x1 x2 x3 x4 x5 (i - m)) (8 * (3 - (i - m) % 4))) 255 else b i
theorem fd_put {b : Int → Int} {m x1 x2 x3 x4 x5 i : Int} (hi : i < m + 20) : put4 (put4 (put4 (put4 (put4 b m x1) (m + 4) x2) (m + 4 + 4) x3) (m + 4 + 4 + 4) x4) (m + 4 + 4 + 4 + 4) x5 i = fd b m x1 x2 x3 x4 x5 i := by
  unfold fd
  by_cases h0 : m ≤ i
  · rw [if_pos h0]
    unfold sel5
    by_cases h4 : i - m < 16
    · have p5 : ∀ b' : Int → Int, put4 b' (m + 4 + 4 + 4 + 4) x5 i = b' i := fun b' => by unfold put4; rw [if_neg (by omega)]
      rw [p5]
      by_cases h3 : i - m < 12
      · have p4 : ∀ b' : Int → Int, put4 b' (m + 4 + 4 + 4) x4 i = b' i := fun b' => by unfold put4; rw [if_neg (by omega)]
        rw [p4]
        by_cases h2 : i - m < 8
        · have p3 : ∀ b' : Int → Int, put4 b' (m + 4 + 4) x3 i = b' i := fun b' => by unfold put4; rw [if_neg (by omega)]
          rw [p3]
          by_cases h1 : i - m < 4
          · have p2 : ∀ b' : Int → Int, put4 b' (m + 4) x2 i = b' i := fun b' => by unfold put4; rw [if_neg (by omega)]
            rw [p2, if_pos h1]
            unfold put4
            rw [if_pos (by omega), show 24 - 8 * (i - m) = 8 * (3 - (i - m) % 4) by omega]
          · rw [if_neg h1, if_pos h2]
            show (if m + 4 ≤ i ∧ i < m + 4 + 4 then _ else _) = _
            rw [if_pos (by omega), show 24 - 8 * (i - (m + 4)) = 8 * (3 - (i - m) % 4) by omega]
        · rw [if_neg (by omega), if_neg h2, if_pos h3]
          show (if m + 4 + 4 ≤ i ∧ i < m + 4 + 4 + 4 then _ else _) = _
          rw [if_pos (by omega), show 24 - 8 * (i - (m + 4 + 4)) = 8 * (3 - (i - m) % 4) by omega]
      · rw [if_neg (by omega), if_neg (by omega), if_neg h3, if_pos h4]
        show (if m + 4 + 4 + 4 ≤ i ∧ i < m + 4 + 4 + 4 + 4 then _ else _) = _
        rw [if_pos (by omega), show 24 - 8 * (i - (m + 4 + 4 + 4)) = 8 * (3 - (i - m) % 4) by omega]
    · rw [if_neg (by omega), if_neg (by omega), if_neg (by omega), if_neg h4]
      show (if m + 4 + 4 + 4 + 4 ≤ i ∧ i < m + 4 + 4 + 4 + 4 + 4 then _ else _) = _
      rw [if_pos (by omega), show 24 - 8 * (i - (m + 4 + 4 + 4 + 4)) = 8 * (3 - (i - m) % 4) by omega]
  · rw [if_neg h0]
    unfold put4
    rw [if_neg (by omega), if_neg (by omega), if_neg (by omega), if_neg (by omega), if_neg (by omega)]
theorem S_put {v : VT} {m x : Int} {b : Int → Int} {q : VT → Prop} (h : isTp v m b) (hm : m + 4 ≤ 800)
    (hq : ∀ v' : VT, (∀ a, a ≠ 1 → a ≠ 2 → v' a = v a) → isTp v' (m + 4) (put4 b m x) → q v') : P_X9_put x v q := by
  unfold P_X9_put
  intro X3 hX3
  have hm0 := h.2.1
  refine wh2 (X := X3) (fun i2 v3 => ∃ k : Int, (0 ≤ k ∧ k ≤ 4) ∧ i2 = 24 - 8 * k ∧ (∀ a, a ≠ 1 → a ≠ 2 → v3 a = v a) ∧ v3 1 1 = m + k ∧ ∀ i : Int, 0 ≤ i → i < m + k → v3 2 i.toNat = put4 b m x i) (fun i2 _ => (i2 + 8).toNat) ?_ ⟨0, by omega, by omega, fun a _ _ => rfl, by rw [h.1]; omega, fun i i0 i1 => ?_⟩
  · intro i2 v3 ⟨k, k0, k1, k2, k3, k4⟩ hnext
    apply hX3
    rw [k3]
    refine ⟨fun hc => hq v3 k2 ⟨by rw [k3]; omega, by omega, fun i i0 i1 => ⟨k4 i i0 (by omega), ?_⟩⟩, fun hc => ⟨fun g => by omega, fun _ => ⟨by omega, fun v32 e32 => ?_⟩⟩⟩
    · unfold put4
      split
      · exact and255_r _
      · exact (h.2.2 i i0 (by omega)).2
    · have n1 : v32 1 1 = m + k := by rw [e32, upd2_off _ _ _ (by omega)]; exact k3
      rw [n1]
      refine ⟨by omega, fun v40 e40 => ⟨by omega, hnext _ _ ⟨k + 1, by omega, by omega, fun a a1 a2 => ?_, ?_, fun i i0 i1 => ?_⟩ (by omega)⟩⟩
      · rw [e40, upd2_off _ _ _ a1, e32, upd2_off _ _ _ a2]; exact k2 a a1 a2
      · rw [e40, upd2_same]; omega
      · rw [e40, upd2_off _ _ _ (by omega), e32, upd2_at _ _ _ (by omega) i0]
        by_cases e : i = m + k
        · rw [if_pos e]
          unfold put4
          rw [if_pos (by omega), show 24 - 8 * (i - m) = i2 by omega]
        · rw [if_neg e]; exact k4 i i0 (by omega)
  · unfold put4
    rw [if_neg (by omega)]
    exact (h.2.2 i i0 (by omega)).1
section Feed
variable {v : VT} {t : Int}
theorem Q_feed {x1 x2 x3 x4 x5 : Int} (ht : t < 1000000) (h : Inv t v) : P_X10_feed x1 x2 x3 x4 x5 v (fun r v1 => P_X11_feed x1 x2 x3 x4 x5 v1 (fun r' v2 => r = r' ∧ Inv (t + 1) v2)) := by
  obtain ⟨A, T, F, V, S, c, P, R, H, hA, hT, hX, hM⟩ := h
  have o1 := hX.2.2.1
  have hm := o1.2.1
  unfold P_X10_feed
  rw [o1.1]
  refine ⟨by omega, fun h1 => ?_, fun h1 => ?_⟩
  · refine S_put o1 (by omega) (fun w1 f1 t1 => S_put t1 (by omega) (fun w2 f2 t2 => S_put t2 (by omega) (fun w3 f3 t3 => S_put t3 (by omega) (fun w4 f4 t4 => S_put t4 (by omega) (fun w5 f5 t5 => ?_)))))
    have f : ∀ a, a ≠ 1 → a ≠ 2 → w5 a = v a := fun a a1 a2 => by rw [f5 a a1 a2, f4 a a1 a2, f3 a a1 a2, f2 a a1 a2, f1 a a1 a2]
    have m1 : IM w5 A T F V S c P R H := IM_high hM (fun a ha => f a (by omega) (by omega))
    have hb : ∀ i : Int, 0 ≤ i → i < T.1 → 0 ≤ T.2 i ∧ T.2 i ≤ 255 := fun i i0 i1 => (o1.2.2 i i0 i1).2
    have hfd : ∀ i : Int, 0 ≤ i → i < T.1 + 20 → 0 ≤ fd T.2 T.1 x1 x2 x3 x4 x5 i ∧ fd T.2 T.1 x1 x2 x3 x4 x5 i ≤ 255 := fun i i0 i1 => by
      unfold fd
      split
      · exact and255_r _
      · exact hb i i0 (by omega)
    have t5' : isTp w5 (T.1 + 20) (fd T.2 T.1 x1 x2 x3 x4 x5) := ⟨by rw [t5.1]; omega, by omega, fun i i0 i1 => ⟨by rw [(t5.2.2 i i0 (by omega)).1]; exact fd_put i1, hfd i i0 i1⟩⟩
    have x' : IX w5 A (T.1 + 20, fd T.2 T.1 x1 x2 x3 x4 x5) F V S c P R H := IX_tp hA hX f t5'
    rw [t5'.1]
    have p1 := m1.2.2.1
    show P_X11_feed x1 x2 x3 x4 x5 w5 (fun r' v2 => T.1 + 20 = r' ∧ Inv (t + 1) v2)
    unfold P_X11_feed
    rw [p1.1]
    refine ⟨by omega, fun _ => ?_, fun g => by omega⟩
    intro X22 hX22
    refine up2 (X := X22) 20 (fun k v22 => 0 ≤ k ∧ (∀ a, a ≠ 218 → a ≠ 219 → v22 a = w5 a) ∧ (∀ j, j ≠ 1 → v22 218 j = w5 218 j) ∧ v22 218 1 = T.1 + k ∧ ∀ i : Int, 0 ≤ i → i < T.1 + k → v22 219 i.toNat = fd T.2 T.1 x1 x2 x3 x4 x5 i) ?_ (by omega) ⟨by omega, fun a _ _ => rfl, fun j _ => rfl, by rw [p1.1]; omega, fun i i0 i1 => ?_⟩
    · intro k v22 hle ⟨k0, k1, k2, k3, k4⟩ hnext
      apply hX22
      refine ⟨fun hc => ?_, fun hc => ?_⟩
      · rw [k3]
        refine ⟨by omega, A, (T.1 + 20, fd T.2 T.1 x1 x2 x3 x4 x5), F, V, S, c, P, R, H, hA, okT_up hT (by omega), IX_low hA x' (fun a ha => k1 a (by omega) (by omega)), IM_tp m1 k1 k2 ⟨by rw [k3]; show T.1 + k = T.1 + 20; omega, by show 0 ≤ T.1 + 20 ∧ T.1 + 20 ≤ 800; omega, fun i i0 i1 => ⟨k4 i i0 (by have : i < T.1 + 20 := i1; omega), hfd i i0 i1⟩⟩⟩
      · intro K75 hK75
        have er : i_rem k 4 = k % 4 := i_rem_p (by omega) (by omega)
        have go : ∀ s0 : Int, s0 = sel5 x1 x2 x3 x4 x5 k → K75 s0 := by
          intro s0 es
          apply hK75
          rw [er, k3]
          refine ⟨by omega, by omega, by omega, fun v101 e101 => ?_⟩
          have n1 : v101 218 1 = T.1 + k := by rw [e101, upd2_off _ _ _ (by omega)]; exact k3
          rw [n1]
          refine ⟨by omega, fun v109 e109 => ⟨by omega, hnext hc _ ⟨by omega, fun a a1 a2 => ?_, fun j hj => ?_, ?_, fun i i0 i1 => ?_⟩⟩⟩
          · rw [e109, upd2_off _ _ _ a1, e101, upd2_off _ _ _ a2]; exact k1 a a1 a2
          · rw [e109, upd2_j, if_neg hj, e101, upd2_off _ _ _ (by omega)]; exact k2 j hj
          · rw [e109, upd2_same]; omega
          · rw [e109, upd2_off _ _ _ (by omega), e101, upd2_at _ _ _ (by omega) i0]
            by_cases e : i = T.1 + k
            · rw [if_pos e]
              unfold fd
              rw [if_pos (by omega), show i - T.1 = k by omega, es]
            · rw [if_neg e]; exact k4 i i0 (by omega)
        unfold sel5 at go
        refine ⟨fun g1 => ⟨fun g2 => ⟨fun g3 => ⟨fun g4 => go _ ?_, fun g4 => go _ ?_⟩, fun g3 => go _ ?_⟩, fun g2 => go _ ?_⟩, fun g1 => go _ ?_⟩
        · rw [if_neg (by omega), if_neg (by omega), if_neg (by omega), if_neg (by omega)]
        · rw [if_neg (by omega), if_neg (by omega), if_neg (by omega), if_pos g4]
        · rw [if_neg (by omega), if_neg (by omega), if_pos g3]
        · rw [if_neg (by omega), if_pos g2]
        · rw [if_pos g1]
    · unfold fd
      rw [if_neg (by omega)]
      exact (p1.2.2 i i0 (by omega)).1
  · refine S_refuse (k := 0) hT ht hX (by omega) ?_
    have x1' := IX_ref (k := 0) hA hX (by omega)
    have m1 : IM (upd2 v 217 0 (v 217 0 + 1)) A T F V S c P R H := IM_high hM (fun a ha => upd2_off _ _ _ (by omega))
    show P_X11_feed x1 x2 x3 x4 x5 (upd2 v 217 0 (v 217 0 + 1)) (fun r' v2 => -1 = r' ∧ Inv (t + 1) v2)
    unfold P_X11_feed
    rw [m1.2.2.1.1]
    refine ⟨by omega, fun g => absurd g (by omega), fun _ => S_refuses (k := 0) hT ht m1 (by omega) ⟨rfl, A, T, F, V, S, c, P, rUp R 0, H, hA, okT_ref hT (by omega), IX_low hA x1' (fun a ha => upd2_off _ _ _ (by omega)), IM_ref m1 (by omega)⟩⟩
/-! ===== named ===== -/
def okW (m : Int) (b : Int → Int) : Prop := (1 ≤ m ∧ m ≤ 4) ∧ ∀ i : Int, 0 ≤ i → i < m → isLt (b i)
noncomputable def sp_named (A : Net) (T : Vt) : Int := @ite _ (okW T.1 T.2) (Classical.propDecidable _) (fN A.1 A.2.2 (wrd T.2 0 T.1.toNat)) (-1)
theorem Q_named (h : Inv t v) : P_X10_named v (fun r v1 => P_X11_named v1 (fun r' v2 => r = r' ∧ Inv (t + 1) v2)) := by
  obtain ⟨A, T, F, V, S, c, P, R, H, hA, hT, hX, hM⟩ := h
  obtain ⟨o1, o2, o3, o4, o5, o6⟩ := id hX.2.2
  have hm := o1.2.1
  have main : ∀ v17 : VT, (∀ a, a ≠ 1 → a ≠ 3 → v17 a = v a) → v17 1 1 = 0 → (∀ j, j ≠ 4 → j ≠ 5 → j ≠ 6 → j ≠ 7 → v17 3 j = v 3 j) → P_X11_named v17 (fun r' v2 => sp_named A T = r' ∧ Inv (t + 1) v2) := by
    intro v17 f17 z17 j17
    have x1 : IX v17 A (0, T.2) F V S c P R H := IX_gen hA hX (fun a ha => f17 a (by omega) (by omega)) (isTp_0 z17) (xF_fr o2 (j17 1 (by omega) (by omega) (by omega) (by omega)) (j17 2 (by omega) (by omega) (by omega) (by omega))) (xD_fr o3 (f17 0 (by omega) (by omega)) (f17 213 (by omega) (by omega)) (f17 214 (by omega) (by omega)) (f17 215 (by omega) (by omega))) (xP_fr o4 (f17 205 (by omega) (by omega)) (f17 206 (by omega) (by omega))) (xR_fr o5 (f17 217 (by omega) (by omega)))
    have m1 : IM v17 A T F V S c P R H := IM_high hM (fun a ha => f17 a (by omega) (by omega))
    have p1 := m1.2.2.1
    unfold P_X11_named
    rw [p1.1]
    intro v7 e7
    have f7 : ∀ a, a ≠ 218 → v7 a = v17 a := fun a ha => by rw [e7]; exact upd2_off _ _ _ ha
    have m7 : IM v7 A (0, T.2) F V S c P R H := IM_tp m1 (fun a a1 a2 => f7 a a1) (fun j hj => by rw [e7, upd2_j, if_neg hj]) (mT_0 (by rw [e7, upd2_same]))
    have inv : Inv (t + 1) v7 := ⟨A, (0, T.2), F, V, S, c, P, R, H, hA, okT_up hT (by omega), IX_low hA x1 (fun a ha => f7 a (by omega)), m7⟩
    have no : ¬ okW T.1 T.2 → sp_named A T = -1 := fun hn => by unfold sp_named; rw [if_neg hn]
    intro X14 hX14
    refine up2r (X := X14) T.1 (fun i s => 0 ≤ i ∧ i ≤ 4 ∧ (∀ k : Nat, (k : Int) < i → isLt (T.2 (0 + (k : Int)))) ∧ s = cm (wrd T.2 0 i.toNat)) ?_ (by omega) ⟨by omega, by omega, fun k hk => by omega, rfl⟩
    intro s i hle ⟨i0, i4, il, is⟩ hnext
    have hwo : okN (wrd T.2 0 i.toNat) := wrd_ok (by omega) (fun k hk => il k (by omega))
    have hcm := cm_tr hwo i.toNat
    rw [List.take_of_length_le (by rw [wrd_len]; exact Nat.le_refl _)] at hcm
    apply hX14
    refine ⟨fun hc => ⟨fun hne => ?_, fun he => ⟨no (fun g => by have := g.1; omega), inv⟩⟩, fun hc => ⟨fun h4 => ⟨no (fun g => by have := g.1; omega), inv⟩, fun h4 => ⟨by omega, ?_⟩⟩⟩
    · have ei : i = T.1 := by omega
      have hok : okW T.1 T.2 := ⟨by omega, fun k k0 k1 => by have := il k.toNat (by omega); rwa [Int.toNat_of_nonneg k0, Int.zero_add] at this⟩
      rw [is]
      refine S_nodeNamed (N := A.2.2) hA.1 m7.1.1.1 (fun k k0 k1 => ⟨hA.2.2 k k0 k1, m7.2.1 k k0 k1⟩) hwo ⟨?_, inv⟩
      unfold sp_named
      rw [if_pos hok, ei]
    · have hb := p1.2.2 i i0 hc
      rw [f7 219 (by omega), hb.1]
      have bad : ¬ isLt (T.2 i) → ¬ okW T.1 T.2 := fun hn g => hn (g.2 i i0 hc)
      unfold P_X11_isLetter
      refine ⟨fun g => ⟨fun g2 => absurd rfl g2, fun _ => ⟨no (bad (fun g2 => by unfold isLt at g2; omega)), inv⟩⟩, fun g => ⟨fun g1 => ⟨fun g2 => absurd rfl g2, fun _ => ⟨no (bad (fun g2 => by unfold isLt at g2; omega)), inv⟩⟩, fun g1 => ⟨fun _ => ⟨by omega, by omega, by omega, by omega, by omega, fun l2 e2 => ⟨by omega, hnext hc _ ⟨by omega, by omega, fun k hk => ?_, ?_⟩⟩⟩, fun g2 => absurd g2 (by decide)⟩⟩⟩
      · by_cases e : (k : Int) = i
        · rw [e, Int.zero_add]; exact ⟨g, g1⟩
        · exact il k (by omega)
      · rw [e2, show (i + 1).toNat = i.toNat + 1 by omega, wrd_succ, cm_snoc, ← is, Int.toNat_of_nonneg i0, Int.zero_add]
        omega
  unfold P_X10_named P_X5_readName
  intro v2 e2
  have f2 : ∀ a, a ≠ 3 → v2 a = v a := fun a ha => by rw [e2]; exact upd2_off _ _ _ ha
  refine S_readWord (p := 0) (isTp_frame o1 (f2 1 (by omega)) (f2 2 (by omega))) (by rw [e2, upd2_same]) (by omega) (fun v7 k f7 j7 h5 h6 h4 h7 hrun => ?_)
  have t7 : v7 1 1 = T.1 := by rw [f7 1 (by omega), f2 1 (by omega)]; exact o1.1
  rw [h6, t7]
  have mk : ∀ v17 : VT, v17 = upd2 v7 1 1 0 → (∀ a, a ≠ 1 → a ≠ 3 → v17 a = v a) ∧ v17 1 1 = 0 ∧ ∀ j, j ≠ 4 → j ≠ 5 → j ≠ 6 → j ≠ 7 → v17 3 j = v 3 j := by
    intro v17 e17
    refine ⟨fun a a1 a3 => ?_, by rw [e17, upd2_same], fun j j4 j5 j6 j7' => ?_⟩
    · rw [e17, upd2_off _ _ _ a1, f7 a a3, f2 a a3]
    · rw [e17, upd2_off _ _ _ (by omega), j7 j j4 j5 j6 j7', e2, upd2_j, if_neg j4]
  have no : ¬ okW T.1 T.2 → ∀ v17 : VT, v17 = upd2 v7 1 1 0 → P_X0_findName 10 0 v17 (fun r25 => P_X11_named v17 (fun r' v2 => r25 = r' ∧ Inv (t + 1) v2)) := by
    intro hno v17 e17
    obtain ⟨a1, a2, a3⟩ := mk v17 e17
    refine S_findName0 ?_
    have := main v17 a1 a2 a3
    unfold sp_named at this
    rw [if_neg hno] at this
    exact this
  have run1 : okW T.1 T.2 → (k : Int) = T.1 := fun g => by
    have h1 := hrun.1
    rcases hrun.2.2 with h | h
    · omega
    · rcases Int.lt_or_le (k : Int) T.1 with h2 | h2
      · exact absurd (by rw [Int.zero_add]; exact g.2 (k : Int) (by omega) h2) h
      · omega
  refine ⟨fun hne => no (fun g => hne (run1 g)), fun he => ⟨fun h4' => no (fun g => by have := g.1; omega), fun h4' v17 e17 => ?_⟩⟩
  by_cases hok : okW T.1 T.2
  · obtain ⟨a1, a2, a3⟩ := mk v17 e17
    have k4 : k ≤ 4 := by omega
    rw [h7, show min k 4 = k by omega]
    have hwo : okN (wrd T.2 0 k) := wrd_ok k4 hrun.2.1
    refine S_findName (n := A.1) (N := A.2.2) hA.1 (by rw [a1 10 (by omega) (by omega)]; exact hX.1.1.1) (fun i i0 i1 => ⟨hA.2.2 i i0 i1, by rw [a1 11 (by omega) (by omega)]; exact hX.2.1 i i0 i1⟩) hwo (fun g => ?_) ?_
    · have := wrd_len T.2 0 k
      rw [g] at this
      have h0 : (0 : Nat) = k := this
      have := hok.1
      omega
    · have := main v17 a1 a2 a3
      unfold sp_named at this
      rw [if_pos hok, show T.1.toNat = k by omega] at this
      exact this
  · have hk0 : k = 0 := by
      rcases Nat.eq_zero_or_pos k with g | g
      · exact g
      · exact absurd ⟨by omega, fun i i0 i1 => by have := hrun.2.1 i.toNat (by omega); rwa [Int.toNat_of_nonneg i0, Int.zero_add] at this⟩ hok
    rw [h7, hk0]
    exact no hok v17 e17
end Feed

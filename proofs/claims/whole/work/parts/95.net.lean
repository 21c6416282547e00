/-! ===== the reference reads a statement, the net ===== -/
section NetM
variable {v0 v : VT} {m p s : Int} {b : Int → Int} {A : Net}
theorem S_stmt {way : Bool} {q : VT → Prop} (ht : mTp v0 m b) (h : mSt v0 v m b p A s) (hp : 0 ≤ p ∧ p ≤ m) (hA : okNet A) (hw : way = false → A.1 = 0) (hs : 0 ≤ s ∧ s ≤ 100000) (hws : way = true ↔ s ≠ 0)
    (hq : ∀ v', mPost v0 v' m b s (rowR m b way p A) → q v') : P_X11_statementTold v q := by
  have s1 := sk_r (b := b) hp.2
  have ss := sk_sk (b := b) hp.2
  have r1 := rn_spec (b := b) s1.2
  have hm := ht.2.1
  unfold P_X11_statementTold
  refine S_look ht h hp (fun v1 h1 => S_own ht h1 (by omega) (fun v11 h11 => ?_))
  rw [ss] at h11 ⊢
  have e1 : v1 218 2 = sk m b p := h1.2.2.2.2.1
  have e14 : v11 218 14 = s := h11.2.2.2.1
  rw [e1, e14]
  intro K42 hK42 K36 hK36
  -- the last of a statement
  have endB : ∀ (e : Flt) (v' : VT), e.1 ≠ 0 → mBd v0 v' e s → rowR m b way p A = .inl e → P_X11_asksSign 59 v' (fun v75 => (-2147483648 ≤ (v75 218 14) + 1 ∧ (v75 218 14) + 1 ≤ 2147483647) ∧ ∀ v85 : VT, v85 = upd2 v75 218 14 ((v75 218 14) + 1) → q v85) := by
    intro e v' he hx er
    refine S_asksB hx he ?_
    rw [hx.2.2.2]
    refine ⟨by omega, fun v85 e85 => hq v85 ?_⟩
    rw [er]
    exact ⟨⟨mFr_up hx.1 (by omega) e85, by rw [e85, upd2_j, if_neg (by decide)]; exact hx.2.1, by rw [e85, upd2_j, if_neg (by decide)]; exact hx.2.2.1, by rw [e85, upd2_same]⟩, he⟩
  have endP : ∀ v' : VT, mPre v0 v' m b s (rowR m b way p A) → P_X11_asksSign 59 v' (fun v75 => (-2147483648 ≤ (v75 218 14) + 1 ∧ (v75 218 14) + 1 ≤ 2147483647) ∧ ∀ v85 : VT, v85 = upd2 v75 218 14 ((v75 218 14) + 1) → q v85) := by
    intro v' hpre
    rcases hpre with ⟨e, he, hx, er⟩ | ⟨p2, A2, hx, hsk, hp2, hc⟩
    · exact endB e v' he hx er
    · refine S_asks ht hx hp2 (by decide) (fun g v3 h3 => ?_) (fun g v3 h3 => ?_)
      · rw [hsk] at g h3
        rcases hc with ⟨-, er⟩ | ⟨hc, -⟩
        · rw [h3.2.2.2.1]
          refine ⟨by omega, fun v85 e85 => hq v85 ?_⟩
          rw [er]
          have j' : ∀ j, j ≠ 14 → v85 218 j = v3 218 j := fun j hj => by rw [e85, upd2_j, if_neg hj]
          refine ⟨mFr_up h3.1 (by omega) e85, by rw [j' 5 (by decide)]; exact h3.2.1, by rw [j' 6 (by decide)]; exact h3.2.2.1, by rw [e85, upd2_same], by rw [j' 2 (by decide)]; exact h3.2.2.2.2.1, ?_, ?_⟩
          · rw [e85, upd2_off _ _ _ (by omega)]; exact h3.2.2.2.2.2.1
          · unfold mEd; rw [j' 4 (by decide)]; exact h3.2.2.2.2.2.2
        · exact absurd g hc
      · rw [hsk] at g h3
        rcases hc with ⟨hc, -⟩ | ⟨-, er⟩
        · exact absurd hc g
        · rw [h3.2.2.2]
          refine ⟨by omega, fun v85 e85 => hq v85 ?_⟩
          rw [er]
          exact ⟨⟨mFr_up h3.1 (by omega) e85, by rw [e85, upd2_j, if_neg (by decide)]; exact h3.2.1, by rw [e85, upd2_j, if_neg (by decide)]; exact h3.2.2.1, by rw [e85, upd2_same]⟩, nz1⟩
  have bad : ¬ own m b (sk m b p) = (if way = true then 1 else 0) → K36 := fun hno => by
    apply hK36
    refine S_failM h11 (fun v39 h39 => hK42 _ (fun K72 hK72 => ?_))
    have hne : ¬ v39 218 5 = 0 := by rw [h39.2.1]; exact nz1
    have er : rowR m b way p A = .inl (1, sk m b p) := by unfold rowR; rw [if_neg hno]
    exact ⟨fun _ => hK72 _ (endB _ v39 nz1 h39 er), fun k => absurd k hne⟩
  have good : own m b (sk m b p) = (if way = true then 1 else 0) → K42 v11 := fun hyes => by
    have er : rowR m b way p A = rowF m b way 25 (sk m b p + (rn m b (sk m b p) : Int)) A (-1) 0 := by unfold rowR; rw [if_pos hyes]
    refine hK42 _ (fun K72 hK72 => ⟨fun k => absurd h11.2.1 k, fun _ => ?_⟩)
    unfold P_X11_takes
    refine S_own ht h11 (by omega) (fun v2 h2 => ?_)
    rw [ss] at h2 ⊢
    refine ⟨fun _ => S_long ht h2 (by omega) ?_, fun k => absurd rfl k⟩
    rw [h2.2.2.2.2.1]
    refine ⟨by have := r1.1; omega, fun v20 e20 v28 e28 => ⟨fun k => absurd k (by decide), fun _ => ?_⟩⟩
    have h20 := mSt_at h2 e20
    rw [h20.2.2.2.2.1] at e28
    have j' : ∀ j, j ≠ 4 → v28 218 j = v20 218 j := fun j hj => by rw [e28, upd2_j, if_neg hj]
    have h28 : mSt v0 v28 m b (sk m b p + (rn m b (sk m b p) : Int)) A s := by
      refine ⟨mFr_up h20.1 (by omega) e28, by rw [j' 5 (by decide)]; exact h20.2.1, by rw [j' 6 (by decide)]; exact h20.2.2.1, by rw [j' 14 (by decide)]; exact h20.2.2.2.1, by rw [j' 2 (by decide)]; exact h20.2.2.2.2.1, ?_, ?_⟩
      · rw [e28, upd2_off _ _ _ (by omega)]; exact h20.2.2.2.2.2.1
      · unfold mEd
        rw [e28, upd2_same]
        intro _ hlt
        rcases r1.2.2 with k | k
        · omega
        · exact k
    rw [hyes]
    cases way with
    | true => exact ⟨fun _ => S_wayTold ht h28 ⟨by omega, r1.1⟩ hA (fun v' hv => hK72 _ (endP v' (by rw [er]; exact hv))), fun k => absurd k (by decide)⟩
    | false => exact ⟨fun k => absurd rfl k, fun _ => S_nodesTold ht h28 ⟨by omega, r1.1⟩ hA (hw rfl) (fun v' hv => hK72 _ (endP v' (by rw [er]; exact hv)))⟩
  refine ⟨fun g => bad (fun k => by rw [g] at k; split at k <;> omega), fun g K33 hK33 => ?_⟩
  have both : ∀ s0 : Int, s0 = (if way = true then 1 else 0) → K33 s0 := fun s0 es => hK33 _ ⟨fun k => good (by rw [k, es]), fun k => bad (fun k2 => k (by rw [k2, es]))⟩
  refine ⟨fun k => both 1 (by rw [if_pos (hws.mpr k)]), fun k => both 0 (by rw [if_neg (fun k2 => hws.mp k2 k)])⟩
def mEnd (v0 v : VT) (m : Int) (b : Int → Int) : Flt ⊕ (Net × Int) → Prop
  | .inl e => e.1 ≠ 0 ∧ ∃ s, mBd v0 v e s
  | .inr (A, s) => okNet A ∧ ∃ p, mSt v0 v m b p A s
end NetM
/-! ===== net ===== -/
section NetQ
variable {v : VT} {t c : Int} {A : Net} {T : Vt} {F : Int × Int} {V : Vt} {S : Se} {P : Vt} {R : Nat → Int} {H : Hs}
theorem M_net {q : Int → VT → Prop} (hT : okT t V S c P R H) (ht : t < 1000000) (hA : okNet A) (hM : IM v A T F V S c P R H)
    (hb : ∀ e : Flt, netT T.1 T.2 = .inl e → ∀ v', IM v' A (0, T.2) e V S c P (rUp R 1) H → q (-1) v')
    (hg : ∀ A' s, netT T.1 T.2 = .inr (A', s) → okNet A' → ∀ v', IM v' A' (0, T.2) (0, -1) (0, V.2) (0, S.2) c P R (H.1, []) → q s v') : P_X11_net v q := by
  obtain ⟨o1, o2, o3, o4, o5, o6⟩ := id hM.2.2
  have hm := o1.2.1
  unfold P_X11_net
  rw [o1.1]
  intro v5 e5 v10 e10 v15 e15 v20 e20 v25 e25 v30 e30 v35 e35
  have f35 : ∀ a, a ≠ 218 → v35 a = v a := fun a ha => by rw [e35, upd2_off _ _ _ ha, e30, upd2_off _ _ _ ha, e25, upd2_off _ _ _ ha, e20, upd2_off _ _ _ ha, e15, upd2_off _ _ _ ha, e10, upd2_off _ _ _ ha, e5, upd2_off _ _ _ ha]
  have j35 : ∀ j, v35 218 j = if j = 14 then 0 else if j = 6 then -1 else if j = 5 then 0 else if j = 4 then -1 else if j = 2 then 0 else if j = 1 then 0 else if j = 3 then T.1 else v 218 j := fun j => by rw [e35, upd2_j, e30, upd2_j, e25, upd2_j, e20, upd2_j, e15, upd2_j, e10, upd2_j, e5, upd2_j]
  -- what is so from here on, against v35
  have tp : mTp v35 T.1 T.2 := ⟨by rw [j35 3]; rfl, hm, fun i i0 i1 => by rw [f35 219 (by omega)]; exact o1.2.2 i i0 i1⟩
  have back : ∀ v' : VT, mFr v35 v' → (∀ a, a ≠ 218 → a ≠ 221 → v' a = v a) ∧ v' 218 1 = 0 ∧ ∀ j, j ≠ 1 → j ≠ 2 → j ≠ 3 → j ≠ 4 → j ≠ 5 → j ≠ 6 → j ≠ 10 → j ≠ 14 → v' 218 j = v 218 j := fun v' hf => ⟨fun a a1 a2 => by rw [hf.1 a a1 a2, f35 a a1], by rw [hf.2 1 (by omega) (by omega) (by omega) (by omega) (by omega) (by omega), j35 1]; rfl, fun j j1 j2 j3 j4 j5 j6 j10 j14 => by rw [hf.2 j j2 j4 j5 j6 j10 j14, j35 j, if_neg j14, if_neg j6, if_neg j5, if_neg j4, if_neg j2, if_neg j1, if_neg j3]⟩
  intro K60 hK60 X40 hX40
  refine up2 (X := X40) 206 (fun i v40 => 0 ≤ i ∧ (∀ a, a ≠ 221 → v40 a = v35 a) ∧ ∀ k : Nat, (k : Int) < i → v40 221 k = 0) ?_ (by omega) ⟨by omega, fun a _ => rfl, fun k hk => by omega⟩
  intro i v40 hle ⟨i0, hf, hz⟩ hnext
  apply hX40
  refine ⟨fun hge => ?_, fun hlt => ⟨by omega, fun v53 e53 => ⟨by omega, hnext hlt _ ⟨by omega, fun a ha => by rw [e53, upd2_off _ _ _ ha]; exact hf a ha, fun k hk => ?_⟩⟩⟩⟩
  · have h40 : mSt v35 v40 T.1 T.2 0 nil0 0 := by
      refine ⟨⟨fun a a1 a2 => hf a a2, fun j _ _ _ _ _ _ => by rw [hf 218 (by omega)]⟩, by rw [hf 218 (by omega), j35 5]; rfl, by rw [hf 218 (by omega), j35 6]; rfl, by rw [hf 218 (by omega), j35 14]; rfl, by rw [hf 218 (by omega), j35 2]; rfl, ⟨⟨hz 0 (by omega), by rw [hz 1 (by omega)]; rfl, fun k k0 k1 => by have : k < 0 := k1; omega⟩, fun i i0 i1 => by have : i < 0 := i1; omega⟩, fun g => ?_⟩
      rw [hf 218 (by omega), j35 4] at g
      have : (0 : Int) ≤ -1 := g
      omega
    apply hK60
    -- the end, both ways
    have fin : ∀ v86 : VT, mEnd v35 v86 T.1 T.2 (netT T.1 T.2) → ∀ v91 : VT, v91 = upd2 v86 218 7 (v86 218 5) → ∀ v99 : VT, v99 = upd2 v91 218 8 (v91 218 6) → (((v99 218 5) = 0) → ∀ K142 : VT → Prop, (∀ (v142 : VT), (∀ v144 : VT, v144 = upd2 v142 218 15 0 → ∀ v149 : VT, v149 = upd2 v144 218 36 0 → ∀ v154 : VT, v154 = upd2 v149 218 30 0 → ∀ v159 : VT, v159 = upd2 v154 218 33 0 → q (v159 218 14) v159) → K142 v142) → ∀ X117 : Int → VT → Prop, (∀ (i1 : Int) (v117 : VT), (((206 ≤ i1) → K142 v117) ∧ ((i1 < 206) → (0 ≤ i1 ∧ i1 < 206) ∧ (0 ≤ i1 ∧ i1 < 206) ∧ ∀ v135 : VT, v135 = upd2 v117 222 i1.toNat (v117 221 i1.toNat) → (-2147483648 ≤ i1 + 1 ∧ i1 + 1 ≤ 2147483647) ∧ X117 (i1 + 1) v135)) → X117 i1 v117) → X117 0 v99) ∧ ((¬ (v99 218 5) = 0) → P_X11_refuses 1 v99 (fun r111 v111 => q r111 v111)) := by
      intro v86 hend v91 e91 v99 e99
      have f99 : ∀ a, a ≠ 218 → v99 a = v86 a := fun a ha => by rw [e99, upd2_off _ _ _ ha, e91, upd2_off _ _ _ ha]
      have j99 : ∀ j, j ≠ 7 → j ≠ 8 → v99 218 j = v86 218 j := fun j j7 j8 => by rw [e99, upd2_j, if_neg j8, e91, upd2_j, if_neg j7]
      have n7 : v99 218 7 = v86 218 5 := by rw [e99, upd2_j, if_neg (by decide), e91, upd2_same]
      have n8 : v99 218 8 = v86 218 6 := by rw [e99, upd2_same, e91, upd2_j, if_neg (by decide)]
      cases en : netT T.1 T.2 with
      | inl e =>
        rw [en] at hend
        obtain ⟨hne, s, hx⟩ := hend
        obtain ⟨b1, b2, b3⟩ := back v86 hx.1
        have n5 : ¬ v99 218 5 = 0 := fun k => hne (by rw [← hx.2.1, ← j99 5 (by decide) (by decide)]; exact k)
        refine ⟨fun k => absurd k n5, fun _ => ?_⟩
        have m99 : IM v99 A (0, T.2) e V S c P R H := by
          refine IM_gen hM (fun a ha => by rw [f99 a (by omega), b1 a (by omega) (by omega)]) (fun j hj => by rw [j99 j (by omega) (by omega), b3 j (by omega) (by omega) (by omega) (by omega) (by omega) (by omega) (by omega) (by omega)]) (mT_0 (by rw [j99 1 (by decide) (by decide)]; exact b2)) ⟨by rw [n7]; exact hx.2.1, by rw [n8]; exact hx.2.2.1⟩ (mD_fr o3 ?_ ?_ ?_ (by rw [f99 236 (by omega), b1 236 (by omega) (by omega)]) (by rw [f99 238 (by omega), b1 238 (by omega) (by omega)])) (mP_fr o4 ?_ (by rw [f99 243 (by omega), b1 243 (by omega) (by omega)])) (mR_fr o5 (by rw [f99 220 (by omega), b1 220 (by omega) (by omega)]))
          · rw [j99 30 (by omega) (by omega), b3 30 (by omega) (by omega) (by omega) (by omega) (by omega) (by omega) (by omega) (by omega)]
          · rw [j99 33 (by omega) (by omega), b3 33 (by omega) (by omega) (by omega) (by omega) (by omega) (by omega) (by omega) (by omega)]
          · rw [j99 41 (by omega) (by omega), b3 41 (by omega) (by omega) (by omega) (by omega) (by omega) (by omega) (by omega) (by omega)]
          · rw [j99 43 (by omega) (by omega), b3 43 (by omega) (by omega) (by omega) (by omega) (by omega) (by omega) (by omega) (by omega)]
        exact S_refuses (k := 1) hT ht m99 (by omega) (hb e en _ (IM_ref m99 (by omega)))
      | inr as =>
        obtain ⟨A', s⟩ := as
        rw [en] at hend
        obtain ⟨hA', p', hx⟩ := hend
        obtain ⟨b1, b2, b3⟩ := back v86 hx.1
        refine ⟨fun _ => ?_, fun k => absurd (by rw [j99 5 (by decide) (by decide)]; exact hx.2.1) k⟩
        intro K142 hK142 X117 hX117
        refine up2 (X := X117) 206 (fun i v117 => 0 ≤ i ∧ (∀ a, a ≠ 222 → v117 a = v99 a) ∧ ∀ k : Nat, (k : Int) < i → v117 222 k = v99 221 k) ?_ (by omega) ⟨by omega, fun a _ => rfl, fun k hk => by omega⟩
        intro i v117 hle ⟨i0, hf2, hc⟩ hnext2
        apply hX117
        refine ⟨fun hge2 => ?_, fun hlt2 => ⟨by omega, by omega, fun v135 e135 => ⟨by omega, hnext2 hlt2 _ ⟨by omega, fun a ha => by rw [e135, upd2_off _ _ _ ha]; exact hf2 a ha, fun k hk => ?_⟩⟩⟩⟩
        · apply hK142
          intro v144 e144 v149 e149 v154 e154 v159 e159
          have f159 : ∀ a, a ≠ 218 → v159 a = v117 a := fun a ha => by rw [e159, upd2_off _ _ _ ha, e154, upd2_off _ _ _ ha, e149, upd2_off _ _ _ ha, e144, upd2_off _ _ _ ha]
          have j159 : ∀ j, v159 218 j = if j = 33 then 0 else if j = 30 then 0 else if j = 36 then 0 else if j = 15 then 0 else v99 218 j := fun j => by rw [e159, upd2_j, e154, upd2_j, e149, upd2_j, e144, upd2_j, hf2 218 (by omega)]
          have ff : ∀ a, a ≠ 218 → a ≠ 221 → a ≠ 222 → v159 a = v a := fun a a1 a2 a3 => by rw [f159 a a1, hf2 a a3, f99 a a1, b1 a a1 a2]
          have jj : ∀ j, j = 37 ∨ j = 41 ∨ j = 43 → v159 218 j = v 218 j := fun j hj => by rw [j159 j, if_neg (by omega), if_neg (by omega), if_neg (by omega), if_neg (by omega), j99 j (by omega) (by omega), b3 j (by omega) (by omega) (by omega) (by omega) (by omega) (by omega) (by omega) (by omega)]
          have e14 : v159 218 14 = s := by rw [j159 14, if_neg (by omega), if_neg (by omega), if_neg (by omega), if_neg (by omega), j99 14 (by omega) (by omega)]; exact hx.2.2.2.1
          rw [e14]
          refine hg A' s en hA' v159 ?_
          have hrow : mRow (v159 222) A' := mRow_cong hA' hx.2.2.2.2.2.1 (fun k hk => by rw [f159 222 (by omega), hc k (by omega), f99 221 (by omega)])
          refine ⟨⟨hrow.1, Or.inl (by rw [j159 15]; rfl)⟩, hrow.2, mT_0 (by rw [j159 1, if_neg (by omega), if_neg (by omega), if_neg (by omega), if_neg (by omega), j99 1 (by omega) (by omega)]; exact b2), ⟨by rw [j159 7, if_neg (by omega), if_neg (by omega), if_neg (by omega), if_neg (by omega), n7]; exact hx.2.1, by rw [j159 8, if_neg (by omega), if_neg (by omega), if_neg (by omega), if_neg (by omega), n8]; exact hx.2.2.1⟩, ⟨by rw [j159 30]; rfl, by rw [j159 33]; rfl, by rw [jj 41 (by omega)]; exact o3.2.2.1, fun i i0 i1 => by have : i < 0 := i1; omega, fun i i0 i1 => by have : i < 0 := i1; omega⟩, mP_fr o4 (jj 43 (by omega)) (ff 243 (by omega) (by omega) (by omega)), mR_fr o5 (ff 220 (by omega) (by omega) (by omega)), by rw [j159 36]; rfl, by rw [jj 37 (by omega)]; exact o6.2.1, fun j hj => by have : j < 0 := hj; omega⟩
        · rw [e135, upd2_j]
          by_cases e : (k : Int) = i
          · rw [if_pos (by omega), hf2 221 (by omega), show i.toNat = k by omega]
          · rw [if_neg (by omega)]; exact hc k (by omega)
    refine S_stmt (way := false) tp h40 (by omega) okNet_nil (fun _ => rfl) (by omega) ⟨fun k => (by cases k), fun k => absurd rfl k⟩ (fun v61 h61 => ?_)
    intro K86 hK86 X64 hX64
    cases er : rowR T.1 T.2 false 0 nil0 with
    | inl e =>
      rw [er] at h61
      obtain ⟨h61, hne⟩ := h61
      have et : netT T.1 T.2 = .inl e := by unfold netT; rw [er]
      have n5 : ¬ v61 218 5 = 0 := fun k => hne (by rw [← h61.2.1]; exact k)
      apply hX64
      exact ⟨fun _ => hK86 _ (fin v61 (by rw [et]; exact ⟨hne, _, h61⟩)), fun k => absurd k n5⟩
    | inr pa =>
      obtain ⟨p1, A1⟩ := pa
      rw [er] at h61
      obtain ⟨hA1, hp1, hp1m⟩ := rowR_ok (way := false) (p := 0) (by omega) (by omega) okNet_nil (fun _ => rfl) er
      have et : netT T.1 T.2 = netR T.1 T.2 801 p1 A1 1 := by unfold netT; rw [er]
      rw [et] at fin
      have loop : ∀ (f : Nat) (p2 : Int) (A2 : Net) (s2 : Int) (v2 : VT), 801 - p2 ≤ (f : Int) → 0 ≤ p2 → p2 ≤ T.1 → okNet A2 → 1 ≤ s2 ∧ s2 ≤ p2 → mSt v35 v2 T.1 T.2 p2 A2 s2 → (∀ v', mEnd v35 v' T.1 T.2 (netR T.1 T.2 f p2 A2 s2) → K86 v') → X64 v2 := by
        intro f
        induction f with
        | zero => intro p2 A2 s2 v2 hf h0 h1; omega
        | succ f ih =>
          intro p2 A2 s2 v2 hf h0 h1 hA2 hs2 h3 hq2
          have sp := sk_r (b := T.2) h1
          have ss := sk_sk (b := T.2) h1
          apply hX64
          refine ⟨fun k => absurd h3.2.1 k, fun _ => S_look tp h3 ⟨h0, h1⟩ (fun v3 h3' => ⟨fun g => ?_, fun g => ?_⟩)⟩
          · have em : T.1 ≤ sk T.1 T.2 p2 := by
              unfold sgn at g
              by_cases hlt2 : sk T.1 T.2 p2 < T.1
              · rw [if_pos hlt2] at g
                have := (o1.2.2 (sk T.1 T.2 p2) (by omega) hlt2).2.1
                omega
              · omega
            exact hq2 v3 (by rw [netR_end em]; exact ⟨hA2, _, h3'⟩)
          · have hlt2 : sk T.1 T.2 p2 < T.1 := sgn_lt (b := T.2) g
            refine S_stmt (way := true) tp h3' (by omega) hA2 (fun k => by cases k) (by omega) ⟨fun _ => by omega, fun _ => rfl⟩ (fun v4 h4 => ?_)
            cases er2 : rowR T.1 T.2 true (sk T.1 T.2 p2) A2 with
            | inl e =>
              rw [er2] at h4
              obtain ⟨h4, hne⟩ := h4
              have n5 : ¬ v4 218 5 = 0 := fun k => hne (by rw [← h4.2.1]; exact k)
              apply hX64
              exact ⟨fun _ => hq2 v4 (by rw [netR_i (by omega) er2]; exact ⟨hne, _, h4⟩), fun k => absurd k n5⟩
            | inr pa =>
              obtain ⟨p3, A3⟩ := pa
              rw [er2] at h4
              obtain ⟨hA3, hp3, hp3m⟩ := rowR_ok (way := true) (p := sk T.1 T.2 p2) (by omega) sp.2 hA2 (fun k => by cases k) er2
              have h4' : mSt v35 v4 T.1 T.2 p3 A3 (s2 + 1) := h4
              refine ih p3 A3 (s2 + 1) v4 (by omega) (by omega) hp3m hA3 (by omega) h4' ?_
              rw [netR_c (by omega) er2] at hq2
              exact hq2
      have h61' : mSt v35 v61 T.1 T.2 p1 A1 (0 + 1) := h61
      exact loop 801 p1 A1 1 v61 (by omega) (by omega) hp1m hA1 (by omega) h61' (fun v' hv => hK86 _ (fin v' hv))
  · rw [e53, upd2_j]
    by_cases e : (k : Int) = i
    · rw [if_pos (by omega)]
    · rw [if_neg (by omega)]; exact hz k (by omega)
theorem Q_net (ht : t < 1000000) (h : Inv t v) : P_X10_net v (fun r v1 => P_X11_net v1 (fun r' v2 => r = r' ∧ Inv (t + 1) v2)) := by
  obtain ⟨A, T, F, V, S, c, P, R, H, hA, hT, hX, hM⟩ := h
  obtain ⟨o1, o2, o3, o4, o5, o6⟩ := id hX.2.2
  have hH1 := hT.2.2.2.2.2.2.1
  unfold P_X10_net
  refine S_readNet o1 (fun v8 h8 => ?_)
  intro v16 e16
  have f16 : ∀ a, a ≠ 1 → v16 a = v8 a := fun a ha => by rw [e16]; exact upd2_off _ _ _ ha
  cases en : netT T.1 T.2 with
  | inl e =>
    rw [en] at h8
    obtain ⟨h8, hne⟩ := h8
    have fx : ∀ a, a ≠ 1 → ¬ (3 ≤ a ∧ a ≤ 8) → v16 a = v a := fun a a1 a2 => by rw [f16 a a1]; exact h8.1 a a2
    have n1 : ¬ v16 3 1 = 0 := fun k => hne (by rw [← h8.2.1, ← f16 3 (by omega)]; exact k)
    refine ⟨fun k => absurd k n1, fun _ => ?_⟩
    have x16 : IX v16 A (0, T.2) e V S c P R H := IX_gen hA hX (fun a ha => fx a (by omega) (by omega)) (isTp_0 (by rw [e16, upd2_same])) ⟨by rw [f16 3 (by omega)]; exact h8.2.1, by rw [f16 3 (by omega)]; exact h8.2.2⟩ (xD_fr o3 (fx 0 (by omega) (by omega)) (fx 213 (by omega) (by omega)) (fx 214 (by omega) (by omega)) (fx 215 (by omega) (by omega))) (xP_fr o4 (fx 205 (by omega) (by omega)) (fx 206 (by omega) (by omega))) (xR_fr o5 (fx 217 (by omega) (by omega)))
    refine S_refuse (k := 1) hT ht x16 (by omega) ?_
    have x1 := IX_ref (k := 1) hA x16 (by omega)
    have m1 : IM (upd2 v16 217 1 (v16 217 1 + 1)) A T F V S c P R H := IM_high hM (fun a ha => by rw [upd2_off _ _ _ (by omega), fx a (by omega) (by omega)])
    have key : P_X11_net (upd2 v16 217 1 (v16 217 1 + 1)) (fun r v2 => r = -1 ∧ IM v2 A (0, T.2) e V S c P (rUp R 1) H) := M_net hT ht hA m1 (fun e' he' v' hv => by rw [en] at he'; cases he'; exact ⟨rfl, hv⟩) (fun A' s he' => by rw [en] at he'; cases he')
    exact N_X11_net (F_X11_net key) (fun r v2 h2 => ⟨h2.1.1.symm, inv_mk hA (okT_ref hT (by omega)) x1 (fun a ha => h2.2 a (by omega)) h2.1.2⟩)
  | inr as =>
    obtain ⟨A', s⟩ := as
    rw [en] at h8
    obtain ⟨hA', p', h8⟩ := h8
    have fx : ∀ a, a ≠ 1 → ¬ (3 ≤ a ∧ a ≤ 8) → v16 a = v a := fun a a1 a2 => by rw [f16 a a1]; exact h8.1 a a2
    refine ⟨fun _ => ?_, fun k => absurd (by rw [f16 3 (by omega)]; exact h8.2.1) k⟩
    refine S_takeFrom hA' (xNet_fr h8.2.2.2.2.2 (fun a ha => f16 a (by omega))) (by omega) (fun v46 f46 n46 => ?_)
    unfold P_X3_forget
    intro v53 e53 v58 e58 v63 e63
    have f63 : ∀ a, a ≠ 0 → a ≠ 16 → v63 a = v46 a := fun a a0 a1 => by rw [e63, upd2_off _ _ _ a0, e58, upd2_off _ _ _ a0, e53, upd2_off _ _ _ a1]
    refine S_changed (fun v1 f1 z1 z2 z3 => ?_)
    have fz : ∀ a, ¬ (a = 0 ∨ a = 1 ∨ (3 ≤ a ∧ a ≤ 8) ∨ (10 ≤ a ∧ a ≤ 14) ∨ a = 16 ∨ a = 138 ∨ a = 191 ∨ a = 197) → v1 a = v a := fun a ha => by rw [f1 a (by omega) (by omega) (by omega), f63 a (by omega) (by omega), f46 a (by omega), fx a (by omega) (by omega)]
    have c3 : ∀ j, v1 3 j = v8 3 j := fun j => by rw [f1 3 (by omega) (by omega) (by omega), f63 3 (by omega) (by omega), f46 3 (by omega), f16 3 (by omega)]
    have c0 : ∀ j, v1 0 j = if j = 16 then 0 else if j = 15 then 0 else v 0 j := fun j => by rw [f1 0 (by omega) (by omega) (by omega), e63, upd2_j, e58, upd2_j, e53, upd2_off _ _ _ (by omega), f46 0 (by omega), fx 0 (by omega) (by omega)]
    have m1 : IM v1 A T F V S c P R H := IM_high hM (fun a ha => fz a (by omega))
    have x1 : IX v1 A' (0, T.2) (0, -1) (0, V.2) (0, S.2) c P R (H.1, []) := by
      have nn : xNet v1 10 A' := xNet_fr (xNet_fr n46 (fun a ha => f63 a (by omega) (by omega))) (fun a ha => f1 a (by omega) (by omega) (by omega))
      refine ⟨XC_new nn.1 z1 z2 z3, nn.2, isTp_0 ?_, ⟨by rw [c3]; exact h8.2.1, by rw [c3]; exact h8.2.2.1⟩, ⟨by rw [c0 15]; rfl, by rw [c0 16]; rfl, by rw [c0 17, if_neg (by decide), if_neg (by decide)]; exact o3.2.2.1, fun i i0 i1 => by have : i < 0 := i1; omega, fun i i0 i1 => by have : i < 0 := i1; omega⟩, xP_fr o4 (fz 205 (by omega)) (fz 206 (by omega)), xR_fr o5 (fz 217 (by omega)), ?_, ?_, fun j hj => by have : j < 0 := hj; omega⟩
      · rw [f1 1 (by omega) (by omega) (by omega), f63 1 (by omega) (by omega), f46 1 (by omega), e16, upd2_same]
      · rw [f1 16 (by omega) (by omega) (by omega), e63, upd2_off _ _ _ (by omega), e58, upd2_off _ _ _ (by omega), e53, upd2_same]; rfl
      · rw [f1 16 (by omega) (by omega) (by omega), e63, upd2_off _ _ _ (by omega), e58, upd2_off _ _ _ (by omega), e53, upd2_j, if_neg (by decide), f46 16 (by omega), fx 16 (by omega) (by omega)]; exact o6.2.1
    have es : v1 3 3 = s := by rw [c3]; exact h8.2.2.2.1
    rw [es]
    have key : P_X11_net v1 (fun r v2 => r = s ∧ IM v2 A' (0, T.2) (0, -1) (0, V.2) (0, S.2) c P R (H.1, [])) := M_net hT ht hA m1 (fun e' he' => by rw [en] at he'; cases he') (fun A2 s2 he' _ v' hv => by rw [en] at he'; cases he'; exact ⟨rfl, hv⟩)
    refine N_X11_net (F_X11_net key) (fun r v2 h2 => ⟨h2.1.1.symm, inv_mk hA' ?_ x1 (fun a ha => h2.2 a (by omega)) h2.1.2⟩)
    have h' := okT_up hT (t' := t + 1) (by omega)
    exact ⟨by show (0 : Int) ≤ 0 ∧ (0 : Int) ≤ 15; omega, by show (0 : Int) ≤ 0 ∧ (0 : Int) ≤ 12; omega, fun i i0 i1 => by have : i < 0 := i1; omega, h'.2.2.2.1, h'.2.2.2.2.1, h'.2.2.2.2.2.1, ⟨by show 0 ≤ 20; omega, hH1.2⟩, fun D hD => by cases hD⟩
end NetQ

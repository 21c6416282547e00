/-! ===== the class reads rows, the net ===== -/
def xPost (v0 v : VT) (s : Int) : Flt ⊕ (Int × Net) → Prop
  | .inl e => xBd v0 v e ∧ e.1 ≠ 0
  | .inr (p, A) => xSt v0 v p A (s + 1)
section RowsX
variable {v0 v : VT} {m p s : Int} {b : Int → Int} {A : Net}
theorem S_readRow {way : Bool} {x2 : Int} {q : VT → Prop} (ht : isTp v0 m b) (h : xSt v0 v p A s) (hp : 0 ≤ p ∧ p ≤ m) (hA : okNet A) (hw : way = false → A.1 = 0) (hx2 : x2 = if way = true then 1 else 0) (hs : 0 ≤ s ∧ s ≤ 100000)
    (hq : ∀ v', xPost v0 v' s (rowR m b way p A) → q v') : P_X5_readRow x2 v q := by
  have s1 := sk_r (b := b) hp.2
  have r1 := rn_spec (b := b) s1.2
  have hm := ht.2.1
  have kd0 : ∀ {e : Flt} {v' : VT}, xBd v0 v' e → e.1 ≠ 0 → ¬ v' 3 1 = 0 := fun hx he g => he (by rw [← hx.2.1]; exact g)
  unfold P_X5_readRow
  refine S_skip ht h hp (fun v2 h2 => S_rw ht h2 (by omega) (fun v7 h7 e5 e6 _ => ?_))
  have t7 := xTp ht h7.1
  intro K23 hK23
  have main : ∀ k2 : Nat, k2 = (if way = true then 2 else 1) → K23 k2 := by
    intro k2 ek2
    have hk2 : k2 = 1 ∨ k2 = 2 := by rw [ek2]; split <;> omega
    have hwd : wdw k2 m b (sk m b p) ↔ own m b (sk m b p) = (if way = true then 1 else 0) := by
      rw [ek2]
      cases way with
      | false => exact own_0.symm
      | true => exact own_1.symm
    apply hK23
    refine ⟨hk2, S_isWord hk2 t7 (by omega) e5 e6 (fun hno => ?_) (fun hyes => ?_)⟩
    · intro K38 hK38
      refine ⟨fun k => absurd rfl k, fun _ => ?_⟩
      rw [e5]
      refine S_fail h7.1 (fun v3 h3 => hK38 _ ?_)
      have hne := kd0 h3 (by show (1 : Int) ≠ 0; decide)
      have er : rowR m b way p A = .inl (1, sk m b p) := by unfold rowR; rw [if_neg (fun k => hno (hwd.mpr k))]
      have fin : q v3 := hq v3 (by rw [er]; exact ⟨h3, by show (1 : Int) ≠ 0; decide⟩)
      intro K47 hK47
      have go : ∀ s01 : Int, K47 s01 := fun s01 => hK47 _ (fun K63 hK63 => ⟨fun _ => hK63 _ (fun K140 hK140 X68 hX68 => hX68 _ _ _ _ ⟨fun _ => hK140 _ _ ⟨fun _ => fin, fun k => absurd rfl k⟩, fun k => absurd rfl k⟩), fun k => absurd k hne⟩)
      exact ⟨fun _ => go _, fun _ => go _⟩
    · intro K38 hK38
      refine ⟨fun _ => hK38 _ ?_, fun k => absurd k (by decide)⟩
      have er : rowR m b way p A = rowF m b way 25 (sk m b p + (rn m b (sk m b p) : Int)) A (-1) 0 := by unfold rowR; rw [if_pos (hwd.mp hyes)]
      rw [er] at hq
      intro K47 hK47
      have go : ∀ s01 : Int, s01 = (if way = true then 2 else 1) → K47 s01 := by
        intro s01 es01
        refine hK47 _ (fun K63 hK63 => ⟨fun k => absurd h7.2.1 k, fun _ => hK63 _ (fun K140 hK140 X68 hX68 => ?_)⟩)
        have done : ∀ (v' : VT) (i4 i6 : Int), q v' → X68 i4 0 i6 v' := fun v' i4 i6 hv => hX68 _ _ _ _ ⟨fun _ => hK140 _ _ ⟨fun _ => hv, fun k => absurd rfl k⟩, fun k => absurd rfl k⟩
        have loop : ∀ (f : Nat) (p1 : Int) (A1 : Net) (last j : Int) (v1 : VT), (f : Int) = 25 - j → xSt v0 v1 p1 A1 s → 0 ≤ p1 ∧ p1 ≤ m → okJ way A1 last j → (way = true → j = 0 → last = -1) → (∀ v', xPost v0 v' s (rowF m b way f p1 A1 last j) → q v') → X68 last 1 (j + 1) v1 := by
          intro f
          induction f with
          | zero =>
            intro p1 A1 last j v1 hf _ _ hJ _ _
            have := hJ.2.1
            omega
          | succ f ih =>
            intro p1 A1 last j v1 hf h1 hp1 hJ hl0 hq1
            have sp := sk_r (b := b) hp1.2
            have rp := rn_spec (b := b) sp.2
            have hj2 := hJ.2.1
            apply hX68
            refine ⟨fun k => absurd k (by decide), fun _ => ⟨fun h24 => ?_, fun hle => ?_⟩⟩
            · have ej : j = 24 := by omega
              refine hK140 _ _ ⟨fun k => absurd k (by decide), fun _ => S_skip ht h1 hp1 (fun v3 h3 => ?_)⟩
              rw [(xTp ht h3.1).1, h3.2.2.2.2.1]
              refine ⟨fun hc => S_fail h3.1 (fun v4 h4 => hq1 v4 ?_), fun hc => S_fail h3.1 (fun v4 h4 => hq1 v4 ?_)⟩
              · rw [rowF_i (e := (1, sk m b p1)) (by unfold ndS; rw [if_pos ej, if_neg (by omega)])]
                exact ⟨h4, by show (1 : Int) ≠ 0; decide⟩
              · rw [rowF_i (e := (5, sk m b p1)) (by unfold ndS; rw [if_pos ej, if_pos hc])]
                exact ⟨h4, by show (5 : Int) ≠ 0; decide⟩
            · intro K99 hK99
              have bad : ∀ e : Flt, ndS m b way (sk m b p1) A1 last j = .inl e → ∀ v' r, xBd v0 v' e → K99 r v' := by
                intro e he v' r hx
                have hne := kd0 hx (ndS_bad he)
                apply hK99
                exact ⟨fun _ => ⟨by omega, done v' _ _ (hq1 v' (by rw [rowF_i he]; exact ⟨hx, ndS_bad he⟩))⟩, fun k => absurd k hne⟩
              have ok : ∀ A' x, ndS m b way (sk m b p1) A1 last j = .inr (A', x) → ∀ v', xSt v0 v' (sk m b p1 + (rn m b (sk m b p1) : Int)) A' s → K99 x v' := by
                intro A' x he v' hx
                obtain ⟨hJ', -, hj24⟩ := ndS_ok sp.2 hJ he
                have sp2 := sk_r (b := b) rp.1
                apply hK99
                refine ⟨fun k => absurd hx.2.1 k, fun _ => ?_⟩
                have cm : ∀ en : Int, (en = 0 ↔ j + 1 < s01) → P_X5_readComma en v' (fun r121 v121 => ((r121 = 0) → (-2147483648 ≤ j + 1 + 1 ∧ j + 1 + 1 ≤ 2147483647) ∧ X68 x 0 (j + 1 + 1) v121) ∧ ((¬ r121 = 0) → (-2147483648 ≤ j + 1 + 1 ∧ j + 1 + 1 ≤ 2147483647) ∧ X68 x 1 (j + 1 + 1) v121)) := by
                  intro en hen
                  have hway : ¬ en = 0 ↔ (way = true → 1 ≤ j) := by
                    rw [hen, es01]
                    cases way with
                    | false => exact ⟨fun _ k => (by cases k), fun _ k => (by rw [if_neg (by decide)] at k; omega)⟩
                    | true => exact ⟨fun k _ => (by rw [if_pos rfl] at k; omega), fun k k2 => (by have := k rfl; rw [if_pos rfl] at k2; omega)⟩
                  refine S_comma ht hx (by omega) hs (fun hc v3 h3 => ⟨fun k => absurd k (by decide), fun _ => ⟨by omega, ?_⟩⟩) (fun hc hen2 v3 h3 => ⟨fun _ => ⟨by omega, done v3 _ _ (hq1 v3 ?_)⟩, fun k => absurd rfl k⟩) (fun hc1 hc2 v3 h3 => ⟨fun _ => ⟨by omega, done v3 _ _ (hq1 v3 ?_)⟩, fun k => absurd rfl k⟩)
                  · have hlt := sgn_lt (m := m) (b := b) (p := sk m b (sk m b p1 + (rn m b (sk m b p1) : Int))) (by rw [hc]; decide)
                    refine ih _ A' x (j + 1) v3 (by omega) h3 (by omega) hJ' (fun _ k => by omega) ?_
                    rw [rowF_c he hc] at hq1
                    exact hq1
                  · rw [rowF_s he ⟨hc, hway.mp hen2⟩]; exact h3
                  · rw [rowF_b he hc1 (fun k => hc2 ⟨k.1, hway.mpr k.2⟩)]; exact ⟨h3, by show (1 : Int) ≠ 0; decide⟩
                exact ⟨fun k => cm 0 ⟨fun _ => k, fun _ => rfl⟩, fun k => cm 1 ⟨fun k2 => absurd k2 (by decide), fun k2 => by omega⟩⟩
              cases way with
              | false =>
                refine ⟨fun _ => S_node ht h1 hp1 hJ (by omega) bad ok, fun k => absurd hx2 (by rw [if_neg (by decide)]; exact k)⟩
              | true =>
                refine ⟨fun k => absurd hx2 (by rw [if_pos rfl, k]; decide), fun _ => S_stop ht h1 hp1 hJ (by omega) (hl0 rfl) bad ok⟩
        exact loop 25 _ A (-1) 0 v7 (by omega) h7 ⟨by omega, r1.1⟩ ⟨hA, by omega, hw, fun _ k => by omega⟩ (fun _ _ => rfl) hq
      cases way with
      | false => exact ⟨fun _ => go _ rfl, fun k => absurd hx2 (by rw [if_neg (by decide)]; exact k)⟩
      | true => exact ⟨fun k => absurd hx2 (by rw [if_pos rfl, k]; decide), fun _ => go _ rfl⟩
  cases way with
  | false => exact ⟨fun _ => main _ rfl, fun k => absurd hx2 (by rw [if_neg (by decide)]; exact k)⟩
  | true => exact ⟨fun k => absurd hx2 (by rw [if_pos rfl, k]; decide), fun _ => main _ rfl⟩
def xEnd (v0 v : VT) : Flt ⊕ (Net × Int) → Prop
  | .inl e => xBd v0 v e ∧ e.1 ≠ 0
  | .inr (A, s) => okNet A ∧ ∃ p, xSt v0 v p A s
theorem netR_end {f : Nat} {p s : Int} (h : m ≤ sk m b p) : netR m b f p A s = .inr (A, s) := by
  cases f with
  | zero => rfl
  | succ f => show (if m ≤ sk m b p then _ else _ : Flt ⊕ (Net × Int)) = _; rw [if_pos h]
theorem netR_i {f : Nat} {p s : Int} {e : Flt} (h : ¬ m ≤ sk m b p) (hr : rowR m b true (sk m b p) A = .inl e) : netR m b (f + 1) p A s = .inl e := by
  show (if m ≤ sk m b p then _ else _ : Flt ⊕ (Net × Int)) = _
  rw [if_neg h, hr]
theorem netR_c {f : Nat} {p p' s : Int} {A' : Net} (h : ¬ m ≤ sk m b p) (hr : rowR m b true (sk m b p) A = .inr (p', A')) : netR m b (f + 1) p A s = netR m b f p' A' (s + 1) := by
  show (if m ≤ sk m b p then _ else _ : Flt ⊕ (Net × Int)) = _
  rw [if_neg h, hr]
theorem okNet_nil : okNet nil0 := ⟨by show (0 : Int) ≤ 0 ∧ (0 : Int) ≤ 24; omega, ⟨fun j j0 j1 => by have : j < 0 := j1; omega, fun i j i0 i1 => by have : i < 0 := i1; omega, Nat.zero_le _⟩, fun i _ _ => okN_nil⟩
theorem S_readNet {q : VT → Prop} (ht : isTp v m b) (hq : ∀ v', xEnd v v' (netT m b) → q v') : P_X5_readNet v q := by
  have hm := ht.2.1
  unfold P_X5_readNet P_X0_wipe
  intro w2 e2 w7 e7 v9 e9 v14 e14 v19 e19 v24 e24
  have f24 : xFr v v24 := fun a ha => by rw [e24, upd2_off _ _ _ (by omega), e19, upd2_off _ _ _ (by omega), e14, upd2_off _ _ _ (by omega), e9, upd2_off _ _ _ (by omega), e7, upd2_off _ _ _ (by omega), e2, upd2_off _ _ _ (by omega)]
  have c4 : ∀ j, v24 4 j = w7 4 j := fun j => by rw [e24, upd2_off _ _ _ (by omega), e19, upd2_off _ _ _ (by omega), e14, upd2_off _ _ _ (by omega), e9, upd2_off _ _ _ (by omega)]
  have h24 : xSt v v24 0 nil0 0 := by
    refine ⟨f24, ?_, ?_, ?_, by rw [e24, upd2_same], ⟨?_, ?_, fun k k0 k1 => by have : k < 0 := k1; omega⟩, fun i i0 i1 => by have : i < 0 := i1; omega⟩
    · rw [e24, upd2_j, if_neg (by decide), e19, upd2_j, if_neg (by decide), e14, upd2_j, if_neg (by decide), e9, upd2_same]
    · rw [e24, upd2_j, if_neg (by decide), e19, upd2_j, if_neg (by decide), e14, upd2_same]
    · rw [e24, upd2_j, if_neg (by decide), e19, upd2_same]
    · rw [c4, e7, upd2_j, if_neg (by decide), e2, upd2_same]
    · rw [c4, e7, upd2_same]; rfl
  refine S_readRow (way := false) ht h24 (by omega) okNet_nil (fun _ => rfl) rfl (by omega) (fun v30 h30 => ?_)
  have skipF : ∀ (v1 : VT) (e : Flt) (q2 : VT → Prop), xBd v v1 e → (∀ v', xBd v v' e → q2 v') → P_X5_skipBlanks v1 q2 := by
    intro v1 e q2 h1 hq2
    unfold P_X5_skipBlanks
    intro X0 hX0
    refine wh1 (X := X0) (fun v' => xBd v v' e) (fun v' => (m - v' 3 4).toNat) ?_ h1
    intro v' h' hnext
    have t' := xTp ht h'.1
    apply hX0
    refine ⟨fun _ => hq2 v' h', fun hlt => ?_⟩
    rw [t'.1] at hlt
    have step : (-2147483648 ≤ v' 3 4 + 1 ∧ v' 3 4 + 1 ≤ 2147483647) → ∀ v44 : VT, v44 = upd2 v' 3 4 (v' 3 4 + 1) → X0 v44 := fun _ v44 e44 => hnext _ ⟨fun a ha => by rw [e44, upd2_off _ _ _ (by omega)]; exact h'.1 a ha, by rw [e44, upd2_j, if_neg (by decide)]; exact h'.2.1, by rw [e44, upd2_j, if_neg (by decide)]; exact h'.2.2⟩ (by rw [e44, upd2_same]; omega)
    by_cases h0 : 0 ≤ v' 3 4
    · exact S_byteAt t' ⟨h0, hlt⟩ ⟨fun _ => ⟨by omega, step (by omega)⟩, fun _ => S_byteAt t' ⟨h0, hlt⟩ ⟨fun _ => hq2 v' h', fun _ => ⟨by omega, step (by omega)⟩⟩⟩
    · exact S_byteAt0 t' (fun g => h0 g.1) ⟨fun g => absurd g (by decide), fun _ => S_byteAt0 t' (fun g => h0 g.1) ⟨fun _ => hq2 v' h', fun g => absurd g (by decide)⟩⟩
  have stopF : ∀ (v1 : VT) (e : Flt) (i2 : Int), xBd v v1 e → e.1 ≠ 0 → q v1 → ((800 ≤ i2) → q v1) ∧ ((i2 < 800) → ((¬ v1 3 1 = 0) → q v1)) := fun v1 e i2 _ _ hv => ⟨fun _ => hv, fun _ _ => hv⟩
  cases er : rowR m b false 0 nil0 with
  | inl e =>
    rw [er] at h30
    obtain ⟨h30, hne⟩ := h30
    have et : netT m b = .inl e := by unfold netT; rw [er]
    refine skipF v30 e _ h30 (fun v35 h35 => ?_)
    have hv : q v35 := hq v35 (by rw [et]; exact ⟨h35, hne⟩)
    intro X40 hX40
    apply hX40
    exact ⟨fun _ => hv, fun _ => ⟨fun _ => hv, fun k => absurd (by rw [← h35.2.1]; exact k) hne⟩⟩
  | inr pa =>
    obtain ⟨p1, A1⟩ := pa
    rw [er] at h30
    obtain ⟨hA1, hp1, hp1m⟩ := rowR_ok (way := false) (p := 0) (by omega) (by omega) okNet_nil (fun _ => rfl) er
    have et : netT m b = netR m b 801 p1 A1 1 := by unfold netT; rw [er]
    rw [et] at hq
    have h30' : xSt v v30 p1 A1 (0 + 1) := h30
    refine S_skip ht h30' (by omega) (fun v35 h35 => ?_)
    intro X40 hX40
    have loop : ∀ (f : Nat) (i2 p2 : Int) (A2 : Net) (s2 : Int) (v2 : VT), (f : Int) = 801 - i2 → 0 ≤ i2 → i2 < p2 → p2 ≤ m → okNet A2 → 0 ≤ s2 ∧ s2 ≤ i2 + 1 → xSt v v2 (sk m b p2) A2 s2 → (∀ v', xEnd v v' (netR m b f p2 A2 s2) → q v') → X40 i2 v2 := by
      intro f
      induction f with
      | zero => intro i2 p2 A2 s2 v2 hf _ h1 h2; omega
      | succ f ih =>
        intro i2 p2 A2 s2 v2 hf hi0 h1 h2 hA2 hs2 h3 hq2
        have sp := sk_r (b := b) (p := p2) h2
        apply hX40
        refine ⟨fun k => by omega, fun _ => ⟨fun k => absurd h3.2.1 k, fun _ => ?_⟩⟩
        rw [(xTp ht h3.1).1, h3.2.2.2.2.1]
        refine ⟨fun hge => hq2 v2 (by rw [netR_end hge]; exact ⟨hA2, _, h3⟩), fun hlt => ?_⟩
        refine S_readRow (way := true) ht h3 (by omega) hA2 (fun k => by cases k) rfl (by omega) (fun v4 h4 => ?_)
        cases er2 : rowR m b true (sk m b p2) A2 with
        | inl e =>
          rw [er2] at h4
          obtain ⟨h4, hne⟩ := h4
          refine skipF v4 e _ h4 (fun v5 h5 => ⟨by omega, hX40 _ _ ?_⟩)
          have hv : q v5 := hq2 v5 (by rw [netR_i (by omega) er2]; exact ⟨h5, hne⟩)
          exact ⟨fun _ => hv, fun _ => ⟨fun _ => hv, fun k => absurd (by rw [← h5.2.1]; exact k) hne⟩⟩
        | inr pa =>
          obtain ⟨p3, A3⟩ := pa
          rw [er2] at h4
          obtain ⟨hA3, hp3, hp3m⟩ := rowR_ok (way := true) (p := sk m b p2) (by omega) sp.2 hA2 (fun k => by cases k) er2
          have h4' : xSt v v4 p3 A3 (s2 + 1) := h4
          refine S_skip ht h4' (by omega) (fun v5 h5 => ⟨by omega, ih (i2 + 1) p3 A3 (s2 + 1) v5 (by omega) (by omega) (by omega) hp3m hA3 (by omega) h5 ?_⟩)
          rw [netR_c (by omega) er2] at hq2
          exact hq2
    exact loop 801 0 p1 A1 1 v35 (by omega) (by omega) hp1 hp1m hA1 (by omega) (by rw [show (1 : Int) = 0 + 1 by omega]; exact h35) hq
end RowsX

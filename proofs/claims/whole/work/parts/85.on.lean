/-! ===== on ===== -/
def imL (b : Int → Int) : Nat → List Ln
  | 0 => []
  | k + 1 => addL (imL b k) (b (2 + 2 * (k : Int))) (b (3 + 2 * (k : Int))) 1
theorem imL_len (b : Int → Int) : ∀ k : Nat, (imL b k).length = k
  | 0 => rfl
  | k + 1 => by show (addL _ _ _ _).length = _; rw [addL_len, imL_len b k]
def okP (b : Int → Int) (k : Int) : Prop := ∀ j : Int, 0 ≤ j → j < k → b (2 + 2 * j) < b (3 + 2 * j) ∧ b (3 + 2 * j) < b 0 ∧ ¬ adj (imL b j.toNat) (b (2 + 2 * j)) (b (3 + 2 * j))
def okIm (m : Int) (b : Int → Int) : Prop := 3 ≤ m ∧ (1 ≤ b 0 ∧ b 0 ≤ 24) ∧ b 1 ≤ 60 ∧ m = 3 + 2 * b 1 ∧ b (m - 1) = chk b (m - 1).toNat ∧ okP b (b 1)
def netI (b : Int → Int) : Net := (b 0, imL b (b 1).toNat, fun _ => [])
theorem imL_wf {b : Int → Int} (h0 : ∀ j : Int, 0 ≤ j → j < 60 → 0 ≤ b (2 + 2 * j)) : ∀ k : Nat, k ≤ 60 → okP b (k : Int) → wfL (b 0) (imL b k)
  | 0, _, _ => ⟨fun j j0 j1 => by have : j < 0 := j1; omega, fun i j i0 i1 => by have : i < 0 := i1; omega, Nat.zero_le _⟩
  | k + 1, hk, h => by
    have ih := imL_wf h0 k (by omega) (fun j j0 j1 => h j j0 (by omega))
    have hk2 := h (k : Int) (by omega) (by omega)
    rw [Int.toNat_natCast] at hk2
    have hb := h0 (k : Int) (by omega) (by omega)
    exact wfL_add ih (by rw [imL_len]; omega) (by omega) (by omega) (by omega) (by omega) hk2.2.2
section On
variable {v : VT} {t c : Int} {A : Net} {T : Vt} {F : Int × Int} {V : Vt} {S : Se} {P : Vt} {R : Nat → Int} {H : Hs}
theorem S_read {m : Int} {b : Int → Int} {q : Int → VT → Prop} (h : isTp v m b) (hno : ¬ okIm m b → ∀ v', (∀ a, ¬ (207 ≤ a ∧ a ≤ 211) → v' a = v a) → q 0 v') (hyes : okIm m b → ∀ v', (∀ a, ¬ (207 ≤ a ∧ a ≤ 211) → v' a = v a) → xNet v' 207 (netI b) → q 1 v') : P_X4_read v q := by
  have hm := h.2.1
  have no0 : ¬ okIm m b → q 0 v := fun g => hno g v (fun a _ => rfl)
  unfold P_X4_read
  by_cases h1 : m < 1
  · refine S_byteAt0 h (by omega) (S_byteAt0 h (by omega) ⟨fun _ => no0 (fun g => by have := g.1; omega), fun g => by omega⟩)
  refine S_byteAt h (by omega) ?_
  by_cases h2 : m < 2
  · refine S_byteAt0 h (by omega) ?_
    have no := no0 (fun g => by have := g.1; omega)
    exact ⟨fun _ => no, fun _ => ⟨fun _ => no, fun _ => ⟨fun _ => no, fun g => by omega⟩⟩⟩
  refine S_byteAt h (by omega) ?_
  rw [h.1]
  have b1 := (h.2.2 1 (by omega) (by omega)).2
  have b0 := (h.2.2 0 (by omega) (by omega)).2
  refine ⟨fun g => no0 (fun k => by have := k.2.1; omega), fun g0 => ⟨fun g => no0 (fun k => by have := k.2.1; omega), fun g1 => ⟨fun g => by omega, fun _ => ⟨fun g => no0 (fun k => by have := k.2.2.1; omega), fun g2 => ⟨by omega, by omega, fun gm => ⟨by omega, ?_⟩, fun gm => no0 (fun k => by have := k.2.2.2.1; omega)⟩⟩⟩⟩⟩
  refine S_byteAt h (by omega) ⟨by omega, S_checkOf (f := b) (by omega) (by omega) (fun i i0 i1 => h.2.2 i i0 (by omega)) ⟨fun gc => ?_, fun gc => no0 (fun k => gc k.2.2.2.2.1)⟩⟩
  unfold P_X0_wipe
  intro v2 e2 v79 e79
  have f79 : ∀ a, a ≠ 207 → v79 a = v a := fun a ha => by rw [e79, upd2_off _ _ _ ha, e2, upd2_off _ _ _ ha]
  intro K105 hK105 X85 hX85
  have s1 : ∀ v105 : VT, (∀ a, ¬ (207 ≤ a ∧ a ≤ 208) → v105 a = v a) → v105 207 0 = b 0 → v105 207 1 = 0 → (∀ i : Int, 0 ≤ i → i < b 0 → v105 208 i.toNat = 0) → K105 v105 := by
    intro v105 f105 n105 l105 z105
    apply hK105
    intro X108 hX108
    refine up2 (X := X108) (b 1) (fun i v108 => 0 ≤ i ∧ (∀ a, ¬ (207 ≤ a ∧ a ≤ 211) → v108 a = v a) ∧ v108 208 = v105 208 ∧ okP b i ∧ xG v108 207 (b 0) (imL b i.toNat)) ?_ (by omega) ⟨by omega, fun a ha => f105 a (by omega), rfl, fun j j0 j1 => by omega, ⟨n105, l105, fun j j0 j1 => by have : j < 0 := j1; omega⟩⟩
    intro i v108 hle ⟨i0, hf, h208, hok, hx⟩ hnext
    apply hX108
    have t108 : isTp v108 m b := isTp_frame h (hf 1 (by omega)) (hf 2 (by omega))
    refine ⟨fun hc => ?_, fun hc => ⟨by omega, by omega, S_byteAt t108 (by omega) ⟨by omega, by omega, S_byteAt t108 (by omega) ?_⟩⟩⟩
    · have ei : i = b 1 := by omega
      refine hyes ⟨by omega, ⟨g0, g1⟩, g2, by omega, gc, by rw [← ei]; exact hok⟩ v108 hf ⟨by rw [ei] at hx; exact hx, fun j j0 j1 => ?_⟩
      show v108 208 j.toNat = 0
      rw [h208]; exact z105 j j0 j1
    · rw [show 2 * i + 2 = 2 + 2 * i by omega, show 2 * i + 3 = 3 + 2 * i by omega]
      have hb0 : ∀ j : Int, 0 ≤ j → j < 60 → j < b 1 → 0 ≤ b (2 + 2 * j) := fun j j0 _ j1 => (h.2.2 (2 + 2 * j) (by omega) (by omega)).2.1
      have bi := (h.2.2 (2 + 2 * i) (by omega) (by omega)).2
      have bad : ¬ (b (2 + 2 * i) < b (3 + 2 * i) ∧ b (3 + 2 * i) < b 0 ∧ ¬ adj (imL b i.toNat) (b (2 + 2 * i)) (b (3 + 2 * i))) → q 0 v108 := fun hb => hno (fun k => hb (k.2.2.2.2.2 i i0 hc)) v108 hf
      have wfi : wfL (b 0) (imL b i.toNat) := by
        have key : ∀ k : Nat, (k : Int) ≤ i → wfL (b 0) (imL b k) := by
          intro k
          induction k with
          | zero => intro _; exact ⟨fun j j0 j1 => by have : j < 0 := j1; omega, fun i j i0 i1 => by have : i < 0 := i1; omega, Nat.zero_le _⟩
          | succ k ih =>
            intro hk
            have hk2 := hok (k : Int) (by omega) (by omega)
            rw [Int.toNat_natCast] at hk2
            have hb := hb0 (k : Int) (by omega) (by omega) (by omega)
            exact wfL_add (ih (by omega)) (by rw [imL_len]; omega) (by omega) (by omega) (by omega) (by omega) hk2.2.2
        exact key i.toNat (by omega)
      refine ⟨fun g => bad (fun k => by omega), fun g => ?_⟩
      refine S_canJoin wfi hx (fun hcj => ⟨fun k => absurd rfl k, fun _ => bad (fun k => hcj ⟨by omega, by omega, by omega, by rw [imL_len]; omega, k.2.2⟩)⟩) (fun hcj => ⟨fun _ => ?_, fun k => absurd k (by decide)⟩)
      refine S_addLine hx (by rw [imL_len]; omega) (fun v' f' j' g' _ => ⟨by omega, hnext hc _ ⟨by omega, fun a ha => by rw [f' a (by omega) (by omega) (by omega) (by omega)]; exact hf a ha, by rw [f' 208 (by omega) (by omega) (by omega) (by omega)]; exact h208, fun j j0 j1 => ?_, ?_⟩⟩)
      · by_cases e : j = i
        · rw [e]; exact ⟨g, hcj.2.1.2, hcj.2.2.2.2⟩
        · exact hok j j0 (by omega)
      · rw [show (i + 1).toNat = i.toNat + 1 by omega]
        show xG v' 207 (b 0) (addL (imL b i.toNat) (b (2 + 2 * ((i.toNat : Nat) : Int))) (b (3 + 2 * ((i.toNat : Nat) : Int))) 1)
        rw [Int.toNat_of_nonneg i0]; exact g'
  refine up2 (X := X85) (b 0) (fun i v85 => 0 ≤ i ∧ (∀ a, ¬ (207 ≤ a ∧ a ≤ 208) → v85 a = v a) ∧ v85 207 0 = i ∧ v85 207 1 = 0 ∧ ∀ j : Int, 0 ≤ j → j < i → v85 208 j.toNat = 0) ?_ (by omega) ⟨by omega, fun a ha => f79 a (by omega), by rw [e79, upd2_j, if_neg (by decide), e2, upd2_same], by rw [e79, upd2_same], fun j j0 j1 => by omega⟩
  intro i v85 hle ⟨i0, hf, hn, hl, hz⟩ hnext
  apply hX85
  refine ⟨fun hc => s1 v85 hf (by rw [hn]; omega) hl (fun j j0 j1 => hz j j0 (by omega)), fun hc => ?_⟩
  unfold P_X0_addNode
  rw [hn]
  refine ⟨fun g => by omega, fun _ => ⟨by omega, fun v18 e18 => ?_⟩⟩
  have n18 : v18 207 0 = i := by rw [e18, upd2_off _ _ _ (by omega)]; exact hn
  rw [n18]
  refine ⟨by omega, fun v26 e26 => ⟨by omega, hnext hc _ ⟨by omega, fun a ha => by rw [e26, upd2_off _ _ _ (by omega), e18, upd2_off _ _ _ (by omega)]; exact hf a ha, by rw [e26, upd2_same], by rw [e26, upd2_j, if_neg (by decide), e18, upd2_off _ _ _ (by omega)]; exact hl, fun j j0 j1 => ?_⟩⟩⟩
  rw [e26, upd2_off _ _ _ (by omega), e18]
  show upd2 v85 208 i.toNat 0 208 j.toNat = 0
  rw [upd2_at _ _ _ i0 j0]
  by_cases e : j = i
  · rw [if_pos e]
  · rw [if_neg e]; exact hz j j0 (by omega)
theorem S_isImage {m : Int} {b : Int → Int} {q : Int → VT → Prop} (hm : 0 ≤ m ∧ m ≤ 800) (h : ∀ i : Int, 0 ≤ i → i < m → v 219 i.toNat = b i ∧ 0 ≤ b i ∧ b i ≤ 255) (hno : ¬ okIm m b → ∀ v', (∀ a, a ≠ 223 → v' a = v a) → q 0 v') (hyes : okIm m b → ∀ v', (∀ a, a ≠ 223 → v' a = v a) → mRow (v' 223) (netI b) → q 1 v') : P_X11_isImage m v q := by
  have no0 : ¬ okIm m b → q 0 v := fun g => hno g v (fun a _ => rfl)
  unfold P_X11_isImage
  refine ⟨fun g => no0 (fun k => by have := k.1; omega), fun g3 => ?_⟩
  have e0 : v 219 0 = b 0 := (h 0 (by omega) (by omega)).1
  have e1 : v 219 1 = b 1 := (h 1 (by omega) (by omega)).1
  have b1 := (h 1 (by omega) (by omega)).2
  rw [e0, e1]
  refine S_isIn (fun g => ⟨fun _ => no0 (fun k => g k.2.1), fun k => absurd rfl k⟩) (fun g0 => ⟨fun k => absurd k (by decide), fun _ => ⟨fun g => no0 (fun k => by have := k.2.2.1; omega), fun g2 => ⟨by omega, by omega, fun gm => no0 (fun k => gm k.2.2.2.1), fun gm => ⟨by omega, by omega, by omega, ?_⟩⟩⟩⟩)
  refine S_last (f := b) (by omega) (by omega) (fun i i0 i1 => h i i0 (by omega)) ?_
  rw [(h (m - 1) (by omega) (by omega)).1]
  refine ⟨fun gc => ?_, fun gc => no0 (fun k => gc k.2.2.2.2.1)⟩
  intro K92 hK92 X72 hX72
  refine up2 (X := X72) 206 (fun i v72 => 0 ≤ i ∧ (∀ a, a ≠ 223 → v72 a = v a) ∧ ∀ k : Nat, (k : Int) < i → v72 223 k = 0) ?_ (by omega) ⟨by omega, fun a _ => rfl, fun k hk => by omega⟩
  intro i v72 hle ⟨i0, hf, hz⟩ hnext
  apply hX72
  refine ⟨fun hc => ?_, fun hc => ⟨by omega, fun v85 e85 => ⟨by omega, hnext hc _ ⟨by omega, fun a ha => by rw [e85, upd2_off _ _ _ ha]; exact hf a ha, fun k hk => ?_⟩⟩⟩⟩
  · apply hK92
    rw [hf 219 (by omega), e0]
    intro v103 e103
    have f103 : ∀ a, a ≠ 223 → v103 a = v a := fun a ha => by rw [e103, upd2_off _ _ _ ha]; exact hf a ha
    have z103 : ∀ k : Nat, k ≠ 0 → k < 206 → v103 223 k = 0 := fun k k0 k1 => by rw [e103, upd2_j, if_neg k0]; exact hz k (by omega)
    intro X106 hX106
    refine wh2 (X := X106) (fun i2 v106 => ∃ k : Int, (0 ≤ k ∧ k ≤ b 1) ∧ i2 = 2 + 2 * k ∧ (∀ a, a ≠ 223 → v106 a = v a) ∧ okP b k ∧ mG v106 223 (b 0) (imL b k.toNat) ∧ ∀ j : Nat, 2 ≤ j → j < 26 → v106 223 j = 0) (fun i2 _ => (200 - i2).toNat) ?_ ⟨0, by omega, by omega, f103, fun j j0 j1 => by omega, ⟨by rw [e103, upd2_same], by rw [z103 1 (by decide) (by omega)]; rfl, fun j j0 j1 => by have : j < 0 := j1; omega⟩, fun j j0 j1 => z103 j (by omega) (by omega)⟩
    intro i2 v106 ⟨k, hk, ek, hf2, hok, hx, hz2⟩ hnext2
    apply hX106
    subst ek
    refine ⟨by omega, fun hc2 => ?_, fun hc2 => ?_⟩
    · have e : k = b 1 := by omega
      refine hyes ⟨by omega, g0, g2, by omega, gc, by rw [← e]; exact hok⟩ v106 hf2 ⟨by rw [e] at hx; exact hx, fun j j0 j1 => ?_⟩
      have j1' : j < b 0 := j1
      show v106 223 (2 + j).toNat = 0
      exact hz2 _ (by omega) (by omega)
    · have ea := (h (2 + 2 * k) (by omega) (by omega))
      have eb := (h (3 + 2 * k) (by omega) (by omega))
      have ea' : v106 219 (2 + 2 * k).toNat = b (2 + 2 * k) := by rw [hf2 219 (by omega)]; exact ea.1
      have eb' : v106 219 (2 + 2 * k + 1).toNat = b (3 + 2 * k) := by rw [hf2 219 (by omega), show 2 + 2 * k + 1 = 3 + 2 * k by omega]; exact eb.1
      have e0' : v106 219 0 = b 0 := by rw [hf2 219 (by omega)]; exact e0
      rw [ea', eb', e0']
      have bad : ¬ (b (2 + 2 * k) < b (3 + 2 * k) ∧ b (3 + 2 * k) < b 0 ∧ ¬ adj (imL b k.toNat) (b (2 + 2 * k)) (b (3 + 2 * k))) → q 0 v106 := fun hb => hno (fun g => hb (g.2.2.2.2.2 k hk.1 (by omega))) v106 hf2
      have wfi : wfL (b 0) (imL b k.toNat) := by
        have key : ∀ j : Nat, (j : Int) ≤ k → wfL (b 0) (imL b j) := by
          intro j
          induction j with
          | zero => intro _; exact ⟨fun j j0 j1 => by have : j < 0 := j1; omega, fun i j i0 i1 => by have : i < 0 := i1; omega, Nat.zero_le _⟩
          | succ j ih =>
            intro hj
            have hk2 := hok (j : Int) (by omega) (by omega)
            rw [Int.toNat_natCast] at hk2
            have hb := (h (2 + 2 * (j : Int)) (by omega) (by omega)).2.1
            exact wfL_add (ih (by omega)) (by rw [imL_len]; omega) (by omega) (by omega) (by omega) (by omega) hk2.2.2
        exact key k.toNat (by omega)
      refine ⟨by omega, by omega, by omega, fun g => bad (fun g' => by omega), fun g => ⟨by omega, by omega, fun g' => bad (fun g'' => by omega), fun g' => ⟨by omega, by omega, by omega, ?_⟩⟩⟩
      refine S_lineOf wfi hx (fun hna => ⟨fun _ => ⟨by omega, by omega, by omega, ?_⟩, fun g'' => absurd rfl g''⟩) (fun l l0 l1 l2 => ⟨fun g'' => by omega, fun _ => bad (fun g'' => g''.2.2 ⟨l, l0, l1, l2⟩)⟩)
      refine S_adds hx (by rw [imL_len]; omega) (fun v' f' j' gg' => ⟨by omega, hnext2 _ _ ⟨k + 1, by omega, by omega, fun a ha => by rw [f' a ha]; exact hf2 a ha, fun j j0 j1 => ?_, ?_, fun j j0 j1 => ?_⟩ (by omega)⟩)
      · by_cases e : j = k
        · rw [e]; exact ⟨g, g', hna⟩
        · exact hok j j0 (by omega)
      · rw [show (k + 1).toNat = k.toNat + 1 by omega]
        show mG v' 223 (b 0) (addL (imL b k.toNat) (b (2 + 2 * ((k.toNat : Nat) : Int))) (b (3 + 2 * ((k.toNat : Nat) : Int))) 1)
        rw [Int.toNat_of_nonneg hk.1]; exact gg'
      · rw [j' j (by omega) (by omega)]; exact hz2 j j0 j1
  · rw [e85, upd2_j]
    by_cases e : (k : Int) = i
    · rw [if_pos (by omega)]
    · rw [if_neg (by omega)]; exact hz k (by omega)
theorem okNet_I {m : Int} {b : Int → Int} (h : ∀ i : Int, 0 ≤ i → i < m → 0 ≤ b i ∧ b i ≤ 255) (hok : okIm m b) : okNet (netI b) := by
  have b1 := (h 1 (by omega) (by have := hok.1; omega))
  have hm := hok.2.2.2.1
  have h60 := hok.2.2.1
  refine ⟨by show 0 ≤ b 0 ∧ b 0 ≤ 24; have := hok.2.1; omega, ?_, fun i _ _ => okN_nil⟩
  have key : ∀ j : Nat, (j : Int) ≤ b 1 → wfL (b 0) (imL b j) := by
    intro j
    induction j with
    | zero => intro _; exact ⟨fun j j0 j1 => by have : j < 0 := j1; omega, fun i j i0 i1 => by have : i < 0 := i1; omega, Nat.zero_le _⟩
    | succ j ih =>
      intro hj
      have hk2 := hok.2.2.2.2.2 (j : Int) (by omega) (by omega)
      rw [Int.toNat_natCast] at hk2
      have hb := (h (2 + 2 * (j : Int)) (by omega) (by omega)).1
      exact wfL_add (ih (by omega)) (by rw [imL_len]; omega) (by omega) (by omega) (by omega) (by omega) hk2.2.2
  exact key (b 1).toNat (by omega)
theorem Q_on (ht : t < 1000000) (h : Inv t v) : P_X10_on v (fun r v1 => P_X11_on v1 (fun r' v2 => r = r' ∧ Inv (t + 1) v2)) := by
  obtain ⟨A, T, F, V, S, c, P, R, H, hA, hT, hX, hM⟩ := h
  have o1 := hX.2.2.1
  have hH1 := hT.2.2.2.2.2.2.1
  unfold P_X10_on
  refine S_read o1 (fun hno v8 f8 => ?_) (fun hok v8 f8 n8 => ?_)
  · intro v17 e17
    refine ⟨fun g => absurd rfl g, fun _ => ?_⟩
    have f17 : ∀ a, a ≠ 1 → v17 a = v8 a := fun a ha => by rw [e17]; exact upd2_off _ _ _ ha
    obtain ⟨p1, p2, p3, p4, p5, p6⟩ := id hX.2.2
    have x17 : IX v17 A (0, T.2) F V S c P R H := IX_gen hA hX (fun a ha => by rw [f17 a (by omega), f8 a (by omega)]) (isTp_0 (by rw [e17, upd2_same])) (xF_fr p2 (by rw [f17 3 (by omega), f8 3 (by omega)]) (by rw [f17 3 (by omega), f8 3 (by omega)])) (xD_fr p3 (by rw [f17 0 (by omega), f8 0 (by omega)]) (by rw [f17 213 (by omega), f8 213 (by omega)]) (by rw [f17 214 (by omega), f8 214 (by omega)]) (by rw [f17 215 (by omega), f8 215 (by omega)])) (xP_fr p4 (by rw [f17 205 (by omega), f8 205 (by omega)]) (by rw [f17 206 (by omega), f8 206 (by omega)])) (xR_fr p5 (by rw [f17 217 (by omega), f8 217 (by omega)]))
    refine S_deny (k := 5) hT ht x17 (by omega) ?_
    have x1 := IX_ref (k := 5) hA x17 (by omega)
    have m1 : IM (upd2 v17 217 5 (v17 217 5 + 1)) A T F V S c P R H := IM_high hM (fun a ha => by rw [upd2_off _ _ _ (by omega), f17 a (by omega), f8 a (by omega)])
    show P_X11_on (upd2 v17 217 5 (v17 217 5 + 1)) (fun r' v2 => (0 : Int) = r' ∧ Inv (t + 1) v2)
    unfold P_X11_on
    rw [m1.2.2.1.1]
    intro v7 e7
    have f7 : ∀ a, a ≠ 218 → v7 a = upd2 v17 217 5 (v17 217 5 + 1) a := fun a ha => by rw [e7]; exact upd2_off _ _ _ ha
    have m7 : IM v7 A (0, T.2) F V S c P R H := IM_tp m1 (fun a a1 a2 => f7 a a1) (fun j hj => by rw [e7, upd2_j, if_neg hj]) (mT_0 (by rw [e7, upd2_same]))
    refine S_isImage (b := T.2) m1.2.2.1.2.1 (fun i i0 i1 => by rw [f7 219 (by omega)]; exact m1.2.2.1.2.2 i i0 i1) (fun _ v12 f12 => ⟨fun g => absurd rfl g, fun _ => ?_⟩) (fun g => absurd g hno)
    have m12 : IM v12 A (0, T.2) F V S c P R H := by
      refine ⟨MC_frame m7.1 (f12 222 (by omega)) (fun a ha => f12 a (by omega)) (fun j _ => by rw [f12 218 (by omega)]), ?_, OM_fr m7.2.2 (fun a ha => f12 a (by omega)) (fun j _ => by rw [f12 218 (by omega)])⟩
      rw [f12 222 (by omega)]; exact m7.2.1
    exact S_isRefused (k := 5) hT ht m12 (by omega) ⟨rfl, A, (0, T.2), F, V, S, c, P, rUp R 5, H, hA, okT_ref hT (by omega), IX_low hA x1 (fun a ha => by rw [upd2_off _ _ _ (by omega), f12 a (by omega), f7 a (by omega)]), IM_ref m12 (by omega)⟩
  · have hI : okNet (netI T.2) := okNet_I (fun i i0 i1 => (o1.2.2 i i0 i1).2) hok
    intro v17 e17
    refine ⟨fun _ => ?_, fun g => absurd g (by decide)⟩
    have f17 : ∀ a, a ≠ 1 → v17 a = v8 a := fun a ha => by rw [e17]; exact upd2_off _ _ _ ha
    refine S_takeFrom hI (xNet_fr n8 (fun a ha => f17 a (by omega))) (by omega) (fun v41 f41 n41 => ?_)
    unfold P_X3_forget
    intro v48 e48
    have f48 : ∀ a, a ≠ 16 → v48 a = v41 a := fun a ha => by rw [e48]; exact upd2_off _ _ _ ha
    refine S_changed (fun v1 f1 z1 z2 z3 => ?_)
    have fx : ∀ a, ¬ (a = 1 ∨ (10 ≤ a ∧ a ≤ 14) ∨ a = 16 ∨ a = 138 ∨ a = 191 ∨ a = 197 ∨ (207 ≤ a ∧ a ≤ 211)) → v1 a = v a := fun a ha => by rw [f1 a (by omega) (by omega) (by omega), f48 a (by omega), f41 a (by omega), f17 a (by omega), f8 a (by omega)]
    have m1 : IM v1 A T F V S c P R H := IM_high hM (fun a ha => fx a (by omega))
    obtain ⟨p1, p2, p3, p4, p5, p6⟩ := id hX.2.2
    have x1 : IX v1 (netI T.2) (0, T.2) F V S c P R (H.1, []) := by
      have nn : xNet v1 10 (netI T.2) := xNet_fr (xNet_fr n41 (fun a ha => f48 a (by omega))) (fun a ha => f1 a (by omega) (by omega) (by omega))
      refine ⟨XC_new nn.1 z1 z2 z3, nn.2, isTp_0 ?_, xF_fr p2 (by rw [fx 3 (by omega)]) (by rw [fx 3 (by omega)]), xD_fr p3 (fx 0 (by omega)) (fx 213 (by omega)) (fx 214 (by omega)) (fx 215 (by omega)), xP_fr p4 (fx 205 (by omega)) (fx 206 (by omega)), xR_fr p5 (fx 217 (by omega)), ?_, ?_, fun j hj => ?_⟩
      · rw [f1 1 (by omega) (by omega) (by omega), f48 1 (by omega), f41 1 (by omega), e17, upd2_same]
      · rw [f1 16 (by omega) (by omega) (by omega), e48, upd2_same]; rfl
      · rw [f1 16 (by omega) (by omega) (by omega), e48, upd2_j, if_neg (by decide), f41 16 (by omega), f17 16 (by omega), f8 16 (by omega)]; exact p6.2.1
      · have hj2 : j < 0 := hj
        omega
    show P_X11_on v1 (fun r' v2 => (1 : Int) = r' ∧ Inv (t + 1) v2)
    unfold P_X11_on
    rw [m1.2.2.1.1]
    intro v7 e7
    have f7 : ∀ a, a ≠ 218 → v7 a = v1 a := fun a ha => by rw [e7]; exact upd2_off _ _ _ ha
    have m7 : IM v7 A (0, T.2) F V S c P R H := IM_tp m1 (fun a a1 a2 => f7 a a1) (fun j hj => by rw [e7, upd2_j, if_neg hj]) (mT_0 (by rw [e7, upd2_same]))
    refine S_isImage (b := T.2) m1.2.2.1.2.1 (fun i i0 i1 => by rw [f7 219 (by omega)]; exact m1.2.2.1.2.2 i i0 i1) (fun g => absurd hok g) (fun _ v12 f12 r12 => ⟨fun _ => ?_, fun g => absurd g (by decide)⟩)
    refine S_isNext hI r12 (fun v25 f25 j25 z25 r25 v30 e30 => ?_)
    have f30 : ∀ a, a ≠ 218 → a ≠ 222 → a ≠ 223 → v30 a = v7 a := fun a a1 a2 a3 => by rw [e30, upd2_off _ _ _ a1, f25 a a1 a2, f12 a a3]
    have j30 : ∀ j, j ≠ 15 → j ≠ 36 → v30 218 j = v7 218 j := fun j a1 a2 => by rw [e30, upd2_j, if_neg a2, j25 j a1, f12 218 (by omega)]
    refine ⟨rfl, netI T.2, (0, T.2), F, V, S, c, P, R, (H.1, []), hI, ?_, IX_low hI x1 (fun a ha => by rw [f30 a (by omega) (by omega) (by omega), f7 a (by omega)]), IM_net m7 (fun a ha => f30 a (by omega) (by omega) (by omega)) (fun j hj => j30 j (by omega) (by omega)) (by rw [e30, upd2_off _ _ _ (by omega)]; exact r25) (by rw [e30, upd2_j, if_neg (by decide)]; exact z25) ⟨by rw [e30, upd2_same]; rfl, by rw [j30 37 (by omega) (by omega)]; exact m7.2.2.2.2.2.2.2.2.1, fun j hj => ?_⟩⟩
    · have h' := okT_up hT (t' := t + 1) (by omega)
      exact ⟨h'.1, h'.2.1, h'.2.2.1, h'.2.2.2.1, h'.2.2.2.2.1, h'.2.2.2.2.2.1, ⟨by show 0 ≤ 20; omega, hH1.2⟩, fun D hD => by cases hD⟩
    · have hj2 : j < 0 := hj
      omega
end On

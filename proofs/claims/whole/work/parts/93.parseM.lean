/-! ===== the reference reads a text ===== -/
def mFr (v0 v : VT) : Prop := (∀ a, a ≠ 218 → a ≠ 221 → v a = v0 a) ∧ ∀ j, j ≠ 2 → j ≠ 4 → j ≠ 5 → j ≠ 6 → j ≠ 10 → j ≠ 14 → v 218 j = v0 218 j
def mEd (v : VT) (m : Int) (b : Int → Int) : Prop := 0 ≤ v 218 4 → v 218 4 < m → ¬ isLt (b (v 218 4))
def mSt (v0 v : VT) (m : Int) (b : Int → Int) (p : Int) (A : Net) (s : Int) : Prop := mFr v0 v ∧ v 218 5 = 0 ∧ v 218 6 = -1 ∧ v 218 14 = s ∧ v 218 2 = p ∧ mRow (v 221) A ∧ mEd v m b
def mBd (v0 v : VT) (e : Flt) (s : Int) : Prop := mFr v0 v ∧ v 218 5 = e.1 ∧ v 218 6 = e.2 ∧ v 218 14 = s
/-- the tape, as it was told -/
def mTp (v0 : VT) (m : Int) (b : Int → Int) : Prop := v0 218 3 = m ∧ (0 ≤ m ∧ m ≤ 800) ∧ ∀ i : Int, 0 ≤ i → i < m → v0 219 i.toNat = b i ∧ 0 ≤ b i ∧ b i ≤ 255
section ParseM
variable {v0 v : VT} {m p s : Int} {b : Int → Int} {A : Net}
theorem mTp_at (ht : mTp v0 m b) (h : mFr v0 v) : v 218 3 = m ∧ ∀ i : Int, 0 ≤ i → i < m → v 219 i.toNat = b i ∧ 0 ≤ b i ∧ b i ≤ 255 := by
  refine ⟨by rw [h.2 3 (by omega) (by omega) (by omega) (by omega) (by omega) (by omega)]; exact ht.1, fun i i0 i1 => ?_⟩
  rw [h.1 219 (by omega) (by omega)]; exact ht.2.2 i i0 i1
/-- one field of the reader changes -/
theorem mFr_up {v' : VT} {j : Nat} {x : Int} (h : mFr v0 v) (hj : j = 2 ∨ j = 4 ∨ j = 5 ∨ j = 6 ∨ j = 10 ∨ j = 14) (e : v' = upd2 v 218 j x) : mFr v0 v' :=
  ⟨fun a a1 a2 => by rw [e, upd2_off _ _ _ a1]; exact h.1 a a1 a2, fun k k2 k4 k5 k6 k10 k14 => by rw [e, upd2_j, if_neg (by omega)]; exact h.2 k k2 k4 k5 k6 k10 k14⟩
theorem mSt_at {v' : VT} {p' : Int} (h : mSt v0 v m b p A s) (e : v' = upd2 v 218 2 p') : mSt v0 v' m b p' A s := by
  have j' : ∀ j, j ≠ 2 → v' 218 j = v 218 j := fun j hj => by rw [e, upd2_j, if_neg hj]
  refine ⟨mFr_up h.1 (by omega) e, by rw [j' 5 (by decide)]; exact h.2.1, by rw [j' 6 (by decide)]; exact h.2.2.1, by rw [j' 14 (by decide)]; exact h.2.2.2.1, by rw [e, upd2_same], ?_, ?_⟩
  · rw [e, upd2_off _ _ _ (by omega)]; exact h.2.2.2.2.2.1
  · unfold mEd; rw [j' 4 (by decide)]; exact h.2.2.2.2.2.2
theorem S_look {q : Int → VT → Prop} (ht : mTp v0 m b) (h : mSt v0 v m b p A s) (hp : 0 ≤ p ∧ p ≤ m) (hq : ∀ v', mSt v0 v' m b (sk m b p) A s → q (sgn m b (sk m b p)) v') : P_X11_look v q := by
  have hm := ht.2.1
  unfold P_X11_look
  intro K52 hK52 X0 hX0
  refine wh1 (X := X0) (fun v' => ∃ p' : Int, mSt v0 v' m b p' A s ∧ (p ≤ p' ∧ p' ≤ m) ∧ ∀ i : Int, p ≤ i → i < p' → b i = 32 ∨ b i = 10) (fun v' => (m - v' 218 2).toNat) ?_ ⟨p, h, by omega, fun i i0 i1 => by omega⟩
  intro v' ⟨p', h', hr, hb⟩ hnext
  obtain ⟨t3, t9⟩ := mTp_at ht h'.1
  have e2 : v' 218 2 = p' := h'.2.2.2.2.1
  apply hX0
  rw [t3, e2]
  have step : p' < m → (b p' = 32 ∨ b p' = 10) → (-2147483648 ≤ p' + 1 ∧ p' + 1 ≤ 2147483647) ∧ ∀ v44 : VT, v44 = upd2 v' 218 2 (p' + 1) → X0 v44 := fun hlt hbl => ⟨by omega, fun v44 e44 => hnext _ ⟨p' + 1, mSt_at h' e44, by omega, fun i i0 i1 => by
    by_cases e : i = p'
    · rw [e]; exact hbl
    · exact hb i i0 (by omega)⟩ (by rw [e44, upd2_same, e2]; omega)⟩
  have fin : (p' = m ∨ (b p' ≠ 32 ∧ b p' ≠ 10)) → K52 v' := fun hend => by
    have e : sk m b p = p' := sk_is ⟨⟨by omega, by omega⟩, hb, hend⟩
    have hq' := hq v' (by rw [e]; exact h')
    rw [e] at hq'
    unfold sgn at hq'
    apply hK52
    rw [t3, e2]
    refine ⟨fun hc => ?_, fun hc => ⟨by omega, ?_⟩⟩
    · rw [if_neg (by omega)] at hq'; exact hq'
    · rw [if_pos hc] at hq'; rw [(t9 p' (by omega) hc).1]; exact hq'
  refine ⟨fun hc => fin (Or.inl (by omega)), fun hc => ?_⟩
  rw [(t9 p' (by omega) hc).1]
  exact ⟨by omega, fun g => step hc (Or.inr g), fun g => ⟨by omega, fun g2 => fin (Or.inr ⟨g2, g⟩), fun g2 => step hc (Or.inl g2)⟩⟩
theorem S_failM {k w : Int} {q : VT → Prop} (h : mSt v0 v m b p A s) (hq : ∀ v', mBd v0 v' (k, w) s → q v') : P_X11_fail k w v q := by
  unfold P_X11_fail
  refine ⟨fun _ v10 e10 v15 e15 => hq v15 ⟨mFr_up (mFr_up h.1 (by omega) e10) (by omega) e15, ?_, by rw [e15, upd2_same], ?_⟩, fun g => absurd h.2.1 g⟩
  · rw [e15, upd2_j, if_neg (by decide), e10, upd2_same]
  · rw [e15, upd2_j, if_neg (by decide), e10, upd2_j, if_neg (by decide)]; exact h.2.2.2.1
theorem S_wordHere {q : Int → VT → Prop} (ht : mTp v0 m b) (h : mSt v0 v m b p A s) (hp : 0 ≤ p ∧ p ≤ m) (h0 : rn m b (sk m b p) = 0 → ∀ v', mSt v0 v' m b (sk m b p) A s → q 0 v') (h1 : 0 < rn m b (sk m b p) → ∀ v', mSt v0 v' m b (sk m b p) A s → q 1 v') : P_X11_isWordHere v q := by
  have s1 := sk_r (b := b) hp.2
  have rz := rn_zero (b := b) s1.2
  unfold P_X11_isWordHere
  refine ⟨fun g => absurd h.2.1 g, fun _ => S_look ht h hp (fun v' h' => ?_)⟩
  have e2 : v' 218 2 = sk m b p := h'.2.2.2.2.1
  unfold P_X11_isLetter
  have no : ¬ isLt (sgn m b (sk m b p)) → rn m b (sk m b p) = 0 := fun g => rz.mpr (by
    by_cases e : sk m b p = m
    · exact Or.inl e
    · right
      unfold sgn at g
      rw [if_pos (by omega)] at g
      exact g)
  refine ⟨fun g => ⟨fun _ => h0 (no (fun k => by unfold isLt at k; omega)) v' h', fun k => absurd rfl k⟩, fun g => ⟨fun g2 => ⟨fun _ => h0 (no (fun k => by unfold isLt at k; omega)) v' h', fun k => absurd rfl k⟩, fun g2 => ⟨fun k => absurd k (by decide), fun _ => ?_⟩⟩⟩
  have hlt : sk m b p < m := sgn_lt (b := b) (by omega)
  have hb : isLt (b (sk m b p)) := by
    unfold sgn at g g2
    rw [if_pos hlt] at g g2
    exact ⟨g, g2⟩
  rw [e2]
  refine ⟨fun g3 => ?_, fun _ => h1 ?_ v' h'⟩
  · have hed := h'.2.2.2.2.2.2
    unfold mEd at hed
    rw [← g3] at hed
    exact absurd hb (hed (by omega) hlt)
  · rcases Nat.eq_zero_or_pos (rn m b (sk m b p)) with e | e
    · rcases rz.mp e with k | k
      · omega
      · exact absurd hb k
    · exact e
theorem S_long {q : Int → Prop} (ht : mTp v0 m b) (h : mSt v0 v m b p A s) (hp : 0 ≤ p ∧ p ≤ m) (hq : q (rn m b p : Int)) : P_X11_longHere v q := by
  have hm := ht.2.1
  obtain ⟨t3, t9⟩ := mTp_at ht h.1
  have e2 : v 218 2 = p := h.2.2.2.2.1
  unfold P_X11_longHere
  rw [t3, e2]
  intro X2 hX2
  refine up1 (X := X2) (m - p) (fun i => 0 ≤ i ∧ ∀ k : Nat, (k : Int) < i → isLt (b (p + (k : Int)))) ?_ (by omega) ⟨by omega, fun k hk => by omega⟩
  intro i hle ⟨i0, hl⟩ hnext
  apply hX2
  have fin : (p + i = m ∨ ¬ isLt (b (p + i))) → q i := fun g => by
    have e : rn m b p = i.toNat := rn_is ⟨by omega, fun k hk => hl k (by omega), by rw [Int.toNat_of_nonneg i0]; exact g⟩
    rw [e, Int.toNat_of_nonneg i0] at hq
    exact hq
  refine ⟨by omega, fun hc => fin (Or.inl (by omega)), fun hc => ⟨by omega, by omega, ?_⟩⟩
  rw [(t9 (p + i) (by omega) hc).1]
  unfold P_X11_isLetter
  refine ⟨fun g => ⟨fun _ => fin (Or.inr (fun k => by unfold isLt at k; omega)), fun k => absurd rfl k⟩, fun g => ⟨fun g2 => ⟨fun _ => fin (Or.inr (fun k => by unfold isLt at k; omega)), fun k => absurd rfl k⟩, fun g2 => ⟨fun k => absurd k (by decide), fun _ => ⟨by omega, hnext (by omega) ⟨by omega, fun k hk => ?_⟩⟩⟩⟩⟩
  by_cases e : (k : Int) = i
  · rw [e]; exact ⟨g, g2⟩
  · exact hl k (by omega)
theorem wd1_iff : wdw 1 m b p ↔ (rn m b p : Int) = 5 ∧ b p = 110 ∧ b (p + 1) = 111 ∧ b (p + 2) = 100 ∧ b (p + 3) = 101 ∧ b (p + 4) = 115 := by
  have s5 : sLen 1 = 5 := rfl
  unfold wdw
  rw [s5]
  constructor
  · intro ⟨h1, h2⟩
    refine ⟨h1, ?_, h2 1 (by omega) (by omega), h2 2 (by omega) (by omega), h2 3 (by omega) (by omega), h2 4 (by omega) (by omega)⟩
    have := h2 0 (by omega) (by omega)
    rw [Int.add_zero] at this; exact this
  · intro ⟨h1, a0, a1, a2, a3, a4⟩
    refine ⟨h1, fun i i0 i1 => ?_⟩
    rcases (show i = 0 ∨ i = 1 ∨ i = 2 ∨ i = 3 ∨ i = 4 by omega) with e | e | e | e | e <;> rw [e]
    · rw [Int.add_zero]; exact a0
    · exact a1
    · exact a2
    · exact a3
    · exact a4
theorem wd2_iff : wdw 2 m b p ↔ (rn m b p : Int) = 3 ∧ b p = 119 ∧ b (p + 1) = 97 ∧ b (p + 2) = 121 := by
  have s3 : sLen 2 = 3 := rfl
  unfold wdw
  rw [s3]
  constructor
  · intro ⟨h1, h2⟩
    refine ⟨h1, ?_, h2 1 (by omega) (by omega), h2 2 (by omega) (by omega)⟩
    have := h2 0 (by omega) (by omega)
    rw [Int.add_zero] at this; exact this
  · intro ⟨h1, a0, a1, a2⟩
    refine ⟨h1, fun i i0 i1 => ?_⟩
    rcases (show i = 0 ∨ i = 1 ∨ i = 2 by omega) with e | e | e <;> rw [e]
    · rw [Int.add_zero]; exact a0
    · exact a1
    · exact a2
theorem S_own {q : Int → VT → Prop} (ht : mTp v0 m b) (h : mSt v0 v m b p A s) (hp : 0 ≤ p ∧ p ≤ m) (hq : ∀ v', mSt v0 v' m b (sk m b p) A s → q (own m b (sk m b p)) v') : P_X11_ownHere v q := by
  have s1 := sk_r (b := b) hp.2
  have r1 := rn_spec (b := b) s1.2
  have hm := ht.2.1
  unfold P_X11_ownHere
  refine S_wordHere ht h hp (fun hz v' h' => ⟨fun k => absurd rfl k, fun _ => ?_⟩) (fun hpos v' h' => ⟨fun _ => ?_, fun k => absurd k (by decide)⟩)
  · have hq' := hq v' h'
    have e : own m b (sk m b p) = -1 := own_n.mpr ⟨fun w => by have := (wd1_iff.mp w).1; omega, fun w => by have := (wd2_iff.mp w).1; omega⟩
    rw [e] at hq'; exact hq'
  · have hq' := hq v' h'
    obtain ⟨t3, t9⟩ := mTp_at ht h'.1
    have e2 : v' 218 2 = sk m b p := h'.2.2.2.2.1
    refine S_long ht h' ⟨by omega, s1.2⟩ ?_
    rw [e2]
    have by' : ∀ i : Int, 0 ≤ i → i < (rn m b (sk m b p) : Int) → v' 219 (sk m b p + i).toNat = b (sk m b p + i) := fun i i0 i1 => (t9 (sk m b p + i) (by omega) (by have := r1.1; omega)).1
    have by0 : v' 219 (sk m b p).toNat = b (sk m b p) := by have := by' 0 (by omega) (by omega); rw [Int.add_zero] at this; exact this
    have hle := r1.1
    intro K99 hK99
    have k99 : ¬ wdw 1 m b (sk m b p) → K99 := fun hn1 => by
      apply hK99
      have no : ¬ wdw 2 m b (sk m b p) → q (-1) v' := fun hn2 => by rw [own_n.mpr ⟨hn1, hn2⟩] at hq'; exact hq'
      refine ⟨fun g => no (fun w => g (wd2_iff.mp w).1), fun g => ?_⟩
      rw [by0, by' 1 (by omega) (by omega), by' 2 (by omega) (by omega)]
      refine ⟨by omega, fun g1 => no (fun w => g1 (wd2_iff.mp w).2.1), fun g1 => ⟨by omega, by omega, fun g2 => no (fun w => g2 (wd2_iff.mp w).2.2.1), fun g2 => ⟨by omega, by omega, fun g3 => no (fun w => g3 (wd2_iff.mp w).2.2.2), fun g3 => ?_⟩⟩⟩
      rw [own_1.mpr (wd2_iff.mpr ⟨g, g1, g2, g3⟩)] at hq'; exact hq'
    refine ⟨fun g => k99 (fun w => g (wd1_iff.mp w).1), fun g => ?_⟩
    rw [by0, by' 1 (by omega) (by omega), by' 2 (by omega) (by omega), by' 3 (by omega) (by omega), by' 4 (by omega) (by omega)]
    refine ⟨by omega, fun g1 => k99 (fun w => g1 (wd1_iff.mp w).2.1), fun g1 => ⟨by omega, by omega, fun g2 => k99 (fun w => g2 (wd1_iff.mp w).2.2.1), fun g2 => ⟨by omega, by omega, fun g3 => k99 (fun w => g3 (wd1_iff.mp w).2.2.2.1), fun g3 => ⟨by omega, by omega, fun g4 => k99 (fun w => g4 (wd1_iff.mp w).2.2.2.2.1), fun g4 => ⟨by omega, by omega, fun g5 => k99 (fun w => g5 (wd1_iff.mp w).2.2.2.2.2), fun g5 => ?_⟩⟩⟩⟩⟩
    rw [own_0.mpr (wd1_iff.mpr ⟨g, g1, g2, g3, g4, g5⟩)] at hq'; exact hq'
theorem S_sign {x : Int} {q : Int → VT → Prop} (ht : mTp v0 m b) (h : mSt v0 v m b p A s) (hp : 0 ≤ p ∧ p ≤ m) (hx : x ≠ -1) (h1 : sgn m b (sk m b p) = x → ∀ v', mSt v0 v' m b (sk m b p + 1) A s → q 1 v') (h0 : ¬ sgn m b (sk m b p) = x → ∀ v', mSt v0 v' m b (sk m b p) A s → q 0 v') : P_X11_takesSign x v q := by
  have s1 := sk_r (b := b) hp.2
  have hm := ht.2.1
  unfold P_X11_takesSign
  refine ⟨fun g => absurd h.2.1 g, fun _ => S_look ht h hp (fun v' h' => ?_)⟩
  rw [h'.2.2.2.2.1]
  exact ⟨fun g => ⟨by omega, fun v24 e24 => h1 g v24 (mSt_at h' e24)⟩, fun g => h0 g v' h'⟩
theorem S_signB {x : Int} {e : Flt} {q : Int → VT → Prop} (h : mBd v0 v e s) (he : e.1 ≠ 0) (hq : q 0 v) : P_X11_takesSign x v q := by
  have hne : ¬ v 218 5 = 0 := fun g => he (by rw [← h.2.1]; exact g)
  unfold P_X11_takesSign
  exact ⟨fun _ => hq, fun g => absurd g hne⟩
theorem S_asks {x : Int} {q : VT → Prop} (ht : mTp v0 m b) (h : mSt v0 v m b p A s) (hp : 0 ≤ p ∧ p ≤ m) (hx : x ≠ -1) (h1 : sgn m b (sk m b p) = x → ∀ v', mSt v0 v' m b (sk m b p + 1) A s → q v') (h0 : ¬ sgn m b (sk m b p) = x → ∀ v', mBd v0 v' (1, sk m b p) s → q v') : P_X11_asksSign x v q := by
  unfold P_X11_asksSign
  refine ⟨fun g => absurd h.2.1 g, fun _ => S_sign ht h hp hx (fun g v' h' => ⟨fun _ => h1 g v' h', fun k => absurd k (by decide)⟩) (fun g v' h' => ⟨fun k => absurd rfl k, fun _ => ?_⟩)⟩
  rw [h'.2.2.2.2.1]
  exact S_failM h' (h0 g)
theorem S_asksB {x : Int} {e : Flt} {q : VT → Prop} (h : mBd v0 v e s) (he : e.1 ≠ 0) (hq : q v) : P_X11_asksSign x v q := by
  have hne : ¬ v 218 5 = 0 := fun g => he (by rw [← h.2.1]; exact g)
  unfold P_X11_asksSign
  exact ⟨fun _ => hq, fun g => absurd g hne⟩
theorem S_name {q : Int → VT → Prop} (ht : mTp v0 m b) (h : mSt v0 v m b p A s) (hp : 0 ≤ p ∧ p ≤ m)
    (hb1 : (rn m b (sk m b p) = 0 ∨ own m b (sk m b p) ≠ -1) → ∀ v', mBd v0 v' (1, sk m b p) s → q 0 v')
    (hb2 : ¬ (rn m b (sk m b p) = 0 ∨ own m b (sk m b p) ≠ -1) → 4 < rn m b (sk m b p) → ∀ v', mBd v0 v' (1, sk m b p + 4) s → q 0 v')
    (hok : ¬ (rn m b (sk m b p) = 0 ∨ own m b (sk m b p) ≠ -1) → ¬ 4 < rn m b (sk m b p) → ∀ v', mSt v0 v' m b (sk m b p + (rn m b (sk m b p) : Int)) A s → v' 218 10 = sk m b p → q (cm (wrd b (sk m b p) (rn m b (sk m b p)))) v') : P_X11_name v q := by
  have s1 := sk_r (b := b) hp.2
  have ss := sk_sk (b := b) hp.2
  have r1 := rn_spec (b := b) s1.2
  have hm := ht.2.1
  unfold P_X11_name
  refine ⟨fun _ => ?_, fun g => absurd h.2.1 g⟩
  have k24 : (rn m b (sk m b p) = 0 ∨ own m b (sk m b p) ≠ -1) → ∀ v24 : VT, mSt v0 v24 m b (sk m b p) A s → P_X11_look v24 (fun r27 v27 => ((¬ r27 = (-1)) → P_X11_fail 1 (v27 218 2) v27 (fun v45 => q 0 v45)) ∧ ((r27 = (-1)) → P_X11_fail 1 (v27 218 3) v27 (fun v45_1 => q 0 v45_1))) := by
    intro hb v24 h24
    refine S_look ht h24 (by omega) (fun v27 h27 => ?_)
    rw [ss] at h27 ⊢
    refine ⟨fun _ => ?_, fun g => ?_⟩
    · rw [h27.2.2.2.2.1]; exact S_failM h27 (hb1 hb)
    · have e3 := (mTp_at ht h27.1).1
      have em : sk m b p = m := by
        unfold sgn at g
        by_cases hlt : sk m b p < m
        · rw [if_pos hlt] at g
          have := (ht.2.2 (sk m b p) (by omega) hlt).2.1
          omega
        · omega
      rw [e3]
      refine S_failM h27 (fun v' h' => hb1 hb v' ?_)
      rw [em]; exact h'
  refine S_wordHere ht h hp (fun hz v' h' => ?_) (fun hpos v' h' => ?_)
  · intro K24 hK24
    exact ⟨fun _ => hK24 _ (k24 (Or.inl hz) v' h'), fun k => absurd rfl k⟩
  · intro K24 hK24
    refine ⟨fun k => absurd k (by decide), fun _ => S_own ht h' (by omega) (fun v17 h17 => ?_)⟩
    rw [ss] at h17 ⊢
    refine ⟨fun ho v55 e55 => ?_, fun ho => hK24 _ (k24 (Or.inr ho) v17 h17)⟩
    have hno : ¬ (rn m b (sk m b p) = 0 ∨ own m b (sk m b p) ≠ -1) := fun k => by
      rcases k with k | k
      · omega
      · exact k ho
    rw [h17.2.2.2.2.1] at e55
    have h55 : mSt v0 v55 m b (sk m b p) A s := by
      have j' : ∀ j, j ≠ 10 → v55 218 j = v17 218 j := fun j hj => by rw [e55, upd2_j, if_neg hj]
      refine ⟨mFr_up h17.1 (by omega) e55, by rw [j' 5 (by decide)]; exact h17.2.1, by rw [j' 6 (by decide)]; exact h17.2.2.1, by rw [j' 14 (by decide)]; exact h17.2.2.2.1, by rw [j' 2 (by decide)]; exact h17.2.2.2.2.1, ?_, ?_⟩
      · rw [e55, upd2_off _ _ _ (by omega)]; exact h17.2.2.2.2.2.1
      · unfold mEd; rw [j' 4 (by decide)]; exact h17.2.2.2.2.2.2
    have n55 : v55 218 10 = sk m b p := by rw [e55, upd2_same]
    intro X60 hX60
    refine wh2 (X := X60) (fun i1 v60 => ∃ k : Nat, (k ≤ 4 ∧ k ≤ rn m b (sk m b p)) ∧ mSt v0 v60 m b (sk m b p + (k : Int)) A s ∧ v60 218 10 = sk m b p ∧ i1 = cm (wrd b (sk m b p) k)) (fun _ v60 => (m - v60 218 2).toNat) ?_ ⟨0, by omega, by rw [show sk m b p + ((0 : Nat) : Int) = sk m b p by omega]; exact h55, n55, rfl⟩
    intro i1 v60 ⟨k, hk, h60, n60, e1⟩ hnext
    obtain ⟨t3, t9⟩ := mTp_at ht h60.1
    have e2 : v60 218 2 = sk m b p + (k : Int) := h60.2.2.2.2.1
    apply hX60
    rw [t3, e2, n60]
    have fin : rn m b (sk m b p) = k → ∀ v148 : VT, v148 = upd2 v60 218 4 (sk m b p + (k : Int)) → q i1 v148 := by
      intro ek v148 e148
      have j' : ∀ j, j ≠ 4 → v148 218 j = v60 218 j := fun j hj => by rw [e148, upd2_j, if_neg hj]
      rw [e1]
      have := hok hno (by omega) v148
      rw [ek] at this
      refine this ⟨mFr_up h60.1 (by omega) e148, by rw [j' 5 (by decide)]; exact h60.2.1, by rw [j' 6 (by decide)]; exact h60.2.2.1, by rw [j' 14 (by decide)]; exact h60.2.2.2.1, by rw [j' 2 (by decide)]; exact e2, ?_, ?_⟩ (by rw [j' 10 (by decide)]; exact n60)
      · rw [e148, upd2_off _ _ _ (by omega)]; exact h60.2.2.2.2.2.1
      · unfold mEd
        rw [e148, upd2_same]
        intro _ hlt
        rcases r1.2.2 with k3 | k3
        · rw [ek] at k3; omega
        · rw [ek] at k3; exact k3
    refine ⟨fun hc => fin (by have := r1.1; omega), fun hc => ⟨by omega, ?_⟩⟩
    obtain ⟨eb, -, -⟩ := t9 (sk m b p + (k : Int)) (by omega) hc
    rw [eb]
    have endk : ¬ isLt (b (sk m b p + (k : Int))) → rn m b (sk m b p) = k := fun g => by
      rcases Nat.lt_or_ge k (rn m b (sk m b p)) with k3 | k3
      · exact absurd (r1.2.1 k k3) g
      · omega
    unfold P_X11_isLetter
    refine ⟨fun g => ⟨fun _ => fin (endk (fun k3 => by unfold isLt at k3; omega)), fun k3 => absurd rfl k3⟩, fun g => ⟨fun g2 => ⟨fun _ => fin (endk (fun k3 => by unfold isLt at k3; omega)), fun k3 => absurd rfl k3⟩, fun g2 => ⟨fun k3 => absurd k3 (by decide), fun _ => ⟨by omega, fun g4 => ?_, fun g4 => ?_⟩⟩⟩⟩
    · have hlt : k < rn m b (sk m b p) := by
        rcases Nat.lt_or_ge k (rn m b (sk m b p)) with k3 | k3
        · exact k3
        · have ek : rn m b (sk m b p) = k := by omega
          rcases r1.2.2 with k4 | k4
          · rw [ek] at k4; omega
          · rw [ek] at k4; exact absurd ⟨g, g2⟩ k4
      have hwo : okN (wrd b (sk m b p) k) := wrd_ok (by omega) (fun i hi' => r1.2.1 i (by omega))
      have hcm := cm_tr hwo k
      rw [List.take_of_length_le (by rw [wrd_len]; exact Nat.le_refl _)] at hcm
      refine ⟨by omega, by omega, by omega, by omega, by omega, fun l1 el1 => ⟨by omega, fun v137 e137 => hnext _ _ ⟨k + 1, by omega, ?_, by rw [e137, upd2_j, if_neg (by decide)]; exact n60, ?_⟩ (by rw [e137, upd2_same, e2]; omega)⟩⟩
      · rw [show sk m b p + ((k + 1 : Nat) : Int) = sk m b p + (k : Int) + 1 by omega]; exact mSt_at h60 e137
      · rw [el1, wrd_succ, cm_snoc, ← e1]; omega
    · have hk4 : k = 4 := by omega
      have hlt : 4 < rn m b (sk m b p) := by
        rcases Nat.lt_or_ge 4 (rn m b (sk m b p)) with k3 | k3
        · exact k3
        · have ek : rn m b (sk m b p) = k := by omega
          rcases r1.2.2 with k4 | k4
          · rw [ek] at k4; omega
          · rw [ek] at k4; exact absurd ⟨g, g2⟩ k4
      refine S_failM h60 (fun v' h' => hb2 hno hlt v' ?_)
      rw [hk4] at h'
      exact h'
end ParseM

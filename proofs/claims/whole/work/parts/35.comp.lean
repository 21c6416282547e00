/-! ===== what hangs together by a relation; the least of each part; their numbers ===== -/
def ck (R : Int → Int → Prop) : Nat → Int → Int → Prop
  | 0, i, j => i = j
  | k + 1, i, j => ∃ c, ck R k i c ∧ R c j
def cn (R : Int → Int → Prop) (i j : Int) : Prop := ∃ k, ck R k i j
/-- a relation among the numbers below m, alike both ways -/
def okR (m : Int) (R : Int → Int → Prop) : Prop := (∀ i j, R i j → 0 ≤ i ∧ i < m ∧ 0 ≤ j ∧ j < m) ∧ ∀ i j, R i j → R j i
section CC
variable {m : Int} {R : Int → Int → Prop} {i j c : Int}
theorem cn_refl : cn R i i := ⟨0, rfl⟩
theorem cn_one (h : R i j) : cn R i j := ⟨1, i, rfl, h⟩
theorem ck_add {a : Nat} (h : ck R a i j) : ∀ {b : Nat} {c : Int}, ck R b j c → ck R (a + b) i c
  | 0, c, h2 => by cases (h2 : j = c); exact h
  | b + 1, c, ⟨e, h2, h3⟩ => ⟨e, ck_add h h2, h3⟩
theorem cn_trans (h1 : cn R i j) (h2 : cn R j c) : cn R i c := by
  obtain ⟨a, h1⟩ := h1
  obtain ⟨b, h2⟩ := h2
  exact ⟨a + b, ck_add h1 h2⟩
theorem cn_symm (hR : okR m R) (h : cn R i j) : cn R j i := by
  obtain ⟨k, h⟩ := h
  have : ∀ (k : Nat) (i j : Int), ck R k i j → cn R j i := by
    intro k
    induction k with
    | zero => intro i j h; cases (h : i = j); exact cn_refl
    | succ k ih =>
      rintro i j ⟨c, h1, h2⟩
      exact cn_trans (cn_one (hR.2 _ _ h2)) (ih i c h1)
  exact this k i j h
theorem cn_in (hR : okR m R) (h : cn R i j) (hi : 0 ≤ i ∧ i < m) : 0 ≤ j ∧ j < m := by
  obtain ⟨k, h⟩ := h
  cases k with
  | zero => cases (h : i = j); exact hi
  | succ k =>
    obtain ⟨c, h1, h2⟩ := h
    have := hR.1 _ _ h2
    omega
/-- what is closed under the relation and holds i holds all that hangs together with i -/
theorem cn_ind {p : Int → Prop} (h0 : p i) (hs : ∀ a b, p a → R a b → p b) (h : cn R i j) : p j := by
  obtain ⟨k, h⟩ := h
  have : ∀ (k : Nat) (j : Int), ck R k i j → p j := by
    intro k
    induction k with
    | zero => intro j h; cases (h : i = j); exact h0
    | succ k ih =>
      rintro j ⟨c, h1, h2⟩
      exact hs c j (ih c h1) h2
  exact this k j h
theorem rt_ex (m : Int) (R : Int → Int → Prop) (i : Int) : ∃ r : Int, okR m R → 0 ≤ i → i < m → 0 ≤ r ∧ cn R i r ∧ ∀ j, cn R i j → r ≤ j := by
  by_cases hR : okR m R ∧ 0 ≤ i ∧ i < m
  · obtain ⟨hR, h0, h1⟩ := hR
    obtain ⟨k, hk, hl⟩ := ex_least (p := fun k : Nat => cn R i (k : Int)) ⟨i.toNat, by rw [Int.toNat_of_nonneg h0]; exact cn_refl⟩
    refine ⟨(k : Int), fun _ _ _ => ⟨by omega, hk, fun j hj => ?_⟩⟩
    have hin := cn_in hR hj ⟨h0, h1⟩
    by_cases hlt : j.toNat < k
    · exact absurd (by rw [Int.toNat_of_nonneg hin.1]; exact hj) (hl j.toNat hlt)
    · omega
  · exact ⟨0, fun h1 h2 h3 => absurd ⟨h1, h2, h3⟩ hR⟩
noncomputable def rt (m : Int) (R : Int → Int → Prop) (i : Int) : Int := Classical.choose (rt_ex m R i)
theorem rt_spec (hR : okR m R) (hi : 0 ≤ i ∧ i < m) : 0 ≤ rt m R i ∧ cn R i (rt m R i) ∧ ∀ j, cn R i j → rt m R i ≤ j := Classical.choose_spec (rt_ex m R i) hR hi.1 hi.2
theorem rt_le (hR : okR m R) (hi : 0 ≤ i ∧ i < m) : 0 ≤ rt m R i ∧ rt m R i ≤ i ∧ rt m R i < m := by
  have h := rt_spec hR hi
  have := h.2.2 i cn_refl
  omega
theorem rt_cn (hR : okR m R) (hi : 0 ≤ i ∧ i < m) (hj : 0 ≤ j ∧ j < m) : rt m R i = rt m R j ↔ cn R i j := by
  have h1 := rt_spec hR hi
  have h2 := rt_spec hR hj
  constructor
  · intro h
    refine cn_trans h1.2.1 ?_
    rw [h]
    exact cn_symm hR h2.2.1
  · intro h
    have h3 := h1.2.2 _ (cn_trans h h2.2.1)
    have h4 := h2.2.2 _ (cn_trans (cn_symm hR h) h1.2.1)
    omega
theorem rt_rt (hR : okR m R) (hi : 0 ≤ i ∧ i < m) : rt m R (rt m R i) = rt m R i := by
  have h := rt_le hR hi
  exact ((rt_cn hR hi ⟨h.1, h.2.2⟩).mpr (rt_spec hR hi).2.1).symm
/-- how many least ones stand below k -/
noncomputable def nr (m : Int) (R : Int → Int → Prop) (k : Int) : Int := (fb_ct (fun r => @decide (rt m R (r : Int) = (r : Int)) (Classical.propDecidable _)) k.toNat : Nat)
theorem nr_0 : nr m R 0 = 0 := rfl
theorem nr_pos {k : Int} : 0 ≤ nr m R k := by unfold nr; omega
theorem nr_le {k : Int} (hk : 0 ≤ k) : nr m R k ≤ k := by
  have := fb_ct_le (fun r => @decide (rt m R (r : Int) = (r : Int)) (Classical.propDecidable _)) k.toNat
  unfold nr; omega
theorem nr_in {k : Int} (hk : 0 ≤ k) (h : rt m R k = k) : nr m R (k + 1) = nr m R k + 1 := by
  unfold nr
  rw [show (k + 1).toNat = k.toNat + 1 by omega, fb_ct_succ, if_pos (by simp; rw [Int.max_eq_left hk]; exact h)]
  omega
theorem nr_out {k : Int} (hk : 0 ≤ k) (h : ¬ rt m R k = k) : nr m R (k + 1) = nr m R k := by
  unfold nr
  rw [show (k + 1).toNat = k.toNat + 1 by omega, fb_ct_succ, if_neg (by simp; rw [Int.max_eq_left hk]; exact h)]
  omega
theorem nr_mono {a b : Int} (h : a ≤ b) : nr m R a ≤ nr m R b := by
  have := fb_ct_mono (fun r => @decide (rt m R (r : Int) = (r : Int)) (Classical.propDecidable _)) (show a.toNat ≤ b.toNat by omega)
  unfold nr; omega
theorem nr_lt {a b : Int} (ha : 0 ≤ a) (h : a < b) (hr : rt m R a = a) : nr m R a < nr m R b := by
  have h1 := nr_in (m := m) (R := R) ha hr
  have h2 := nr_mono (m := m) (R := R) (show a + 1 ≤ b by omega)
  omega
theorem nr_inj {a b : Int} (ha : 0 ≤ a) (hb : 0 ≤ b) (h1 : rt m R a = a) (h2 : rt m R b = b) (h : nr m R a = nr m R b) : a = b := by
  by_cases hab : a < b
  · have := nr_lt (m := m) (R := R) ha hab h1; omega
  · by_cases hba : b < a
    · have := nr_lt (m := m) (R := R) hb hba h2; omega
    · omega
/-- the number of the part of i -/
noncomputable def kd (m : Int) (R : Int → Int → Prop) (i : Int) : Int := nr m R (rt m R i)
theorem kd_in (hR : okR m R) (hi : 0 ≤ i ∧ i < m) : 0 ≤ kd m R i ∧ kd m R i < nr m R m := by
  have h := rt_le hR hi
  exact ⟨nr_pos, nr_lt h.1 h.2.2 (rt_rt hR hi)⟩
theorem kd_eq (hR : okR m R) (hi : 0 ≤ i ∧ i < m) (hj : 0 ≤ j ∧ j < m) : kd m R i = kd m R j ↔ rt m R i = rt m R j := by
  constructor
  · exact fun h => nr_inj (rt_le hR hi).1 (rt_le hR hj).1 (rt_rt hR hi) (rt_rt hR hj) h
  · intro h; unfold kd; rw [h]
/-- each number has its least one -/
theorem nr_find (k : Nat) : ∀ c : Int, 0 ≤ c → c < nr m R (k : Int) → ∃ r : Int, 0 ≤ r ∧ r < (k : Int) ∧ rt m R r = r ∧ nr m R r = c := by
  induction k with
  | zero =>
    intro c h0 h1
    rw [show ((0 : Nat) : Int) = 0 from rfl, nr_0] at h1
    omega
  | succ k ih =>
    intro c h0 h1
    by_cases hr : rt m R (k : Int) = (k : Int)
    · have h2 := nr_in (m := m) (R := R) (k := (k : Int)) (by omega) hr
      rw [show ((k + 1 : Nat) : Int) = (k : Int) + 1 by omega] at h1
      by_cases hc : c = nr m R (k : Int)
      · exact ⟨(k : Int), by omega, by omega, hr, hc.symm⟩
      · obtain ⟨r, r1, r2, r3, r4⟩ := ih c h0 (by omega)
        exact ⟨r, r1, by omega, r3, r4⟩
    · have h2 := nr_out (m := m) (R := R) (k := (k : Int)) (by omega) hr
      rw [show ((k + 1 : Nat) : Int) = (k : Int) + 1 by omega] at h1
      obtain ⟨r, r1, r2, r3, r4⟩ := ih c h0 (by omega)
      exact ⟨r, r1, by omega, r3, r4⟩
end CC
/-! ===== lines that are alike ===== -/
def alk (L : List Ln) (i j : Int) : Prop := 0 ≤ dd L (lo L i) (lo L j) ∧ dd L (lo L i) (lo L j) + dd L (hi L i) (hi L j) ≠ dd L (lo L i) (hi L j) + dd L (hi L i) (lo L j)
def RA (L : List Ln) (i j : Int) : Prop := 0 ≤ i ∧ i < L.length ∧ 0 ≤ j ∧ j < L.length ∧ alk L i j
theorem RA_ok (L : List Ln) : okR L.length (RA L) := by
  refine ⟨fun i j h => ⟨h.1, h.2.1, h.2.2.1, h.2.2.2.1⟩, fun i j h => ⟨h.2.2.1, h.2.2.2.1, h.1, h.2.1, ?_⟩⟩
  have h5 := h.2.2.2.2
  unfold alk at h5 ⊢
  rw [dd_symm (a := lo L j) (b := lo L i), dd_symm (a := hi L j) (b := hi L i), dd_symm (a := lo L j) (b := hi L i), dd_symm (a := hi L j) (b := lo L i)]
  exact ⟨h5.1, by omega⟩
theorem line_adj {L : List Ln} {k : Int} (hk : 0 ≤ k ∧ k < L.length) : adj L (lo L k) (hi L k) := ⟨k, hk.1, hk.2, Or.inl ⟨rfl, rfl⟩⟩
/-- of two lines either all four ends are apart from one another, or none -/
theorem four {L : List Ln} {i j : Int} (hi' : 0 ≤ i ∧ i < L.length) (hj : 0 ≤ j ∧ j < L.length) (h : 0 ≤ dd L (lo L i) (lo L j)) : 0 ≤ dd L (hi L i) (hi L j) ∧ 0 ≤ dd L (lo L i) (hi L j) ∧ 0 ≤ dd L (hi L i) (lo L j) := by
  have a1 := dd_adj1 (line_adj hi')
  have a2 := dd_adj1 (line_adj hj)
  have a3 : 0 ≤ dd L (hi L i) (lo L i) := by rw [dd_symm]; exact a1.1
  have b1 := dd_tri h a2.1
  have b2 := dd_tri a3 h
  have b3 := dd_tri b2.1 a2.1
  exact ⟨b3.1, b1.1, b2.1⟩
theorem four' {L : List Ln} {i j : Int} (hi' : 0 ≤ i ∧ i < L.length) (hj : 0 ≤ j ∧ j < L.length) (h : 0 ≤ dd L (hi L i) (hi L j)) : 0 ≤ dd L (lo L i) (lo L j) := by
  have a1 := dd_adj1 (line_adj hi')
  have a2 := dd_adj1 (line_adj hj)
  have a3 : 0 ≤ dd L (hi L j) (lo L j) := by rw [dd_symm]; exact a2.1
  have b2 := dd_tri a1.1 h
  exact (dd_tri b2.1 a3).1
theorem alk_self {n : Int} {L : List Ln} (w : wfL n L) {i : Int} (h : 0 ≤ i ∧ i < L.length) : alk L i i := by
  have h1 := (dd_one w).mpr (line_adj h)
  have h2 : dd L (hi L i) (lo L i) = 1 := by rw [dd_symm]; exact h1
  unfold alk
  rw [dd_self, dd_self, h1, h2]
  omega
/-! ===== areAlike, in both ===== -/
theorem S_areAlike {n : Int} {L : List Ln} {i j : Int} {v : VT} {q : Int → Prop} (w : wfL n L) (hn : 0 ≤ n ∧ n ≤ 24) (hg : xG v 10 n L) (hm : mt v n L) (hi' : 0 ≤ i ∧ i < L.length) (hj : 0 ≤ j ∧ j < L.length) (h0 : ¬ alk L i j → q 0) (h1 : alk L i j → q 1) : P_X2_areAlike i j v q := by
  obtain ⟨g0, g1, g2⟩ := xG_10 hg
  have hlen := w.2.2
  have wi := w.1 i hi'.1 hi'.2
  have wj := w.1 j hj.1 hj.2
  unfold P_X2_areAlike
  rw [(g2 i hi'.1 hi'.2).1, (g2 i hi'.1 hi'.2).2.1, (g2 j hj.1 hj.2).1, (g2 j hj.1 hj.2).2.1]
  refine ⟨by omega, by omega, by omega, by omega, by omega, fun l6 e6 => ⟨by omega, fun l7 e7 => ⟨by omega, ?_⟩⟩⟩
  subst e6; subst e7
  rw [hm.2.2.1 (lo L i) (lo L j) (by omega) (by omega) (by omega) (by omega), hm.2.2.1 (hi L i) (hi L j) (by omega) (by omega) (by omega) (by omega), hm.2.2.1 (lo L i) (hi L j) (by omega) (by omega) (by omega) (by omega), hm.2.2.1 (hi L i) (lo L j) (by omega) (by omega) (by omega) (by omega)]
  have d1 := dd_lt w (a := lo L i) (b := lo L j) (by omega)
  have d2 := dd_lt w (a := hi L i) (b := hi L j) (by omega)
  have d3 := dd_lt w (a := lo L i) (b := hi L j) (by omega)
  have d4 := dd_lt w (a := hi L i) (b := lo L j) (by omega)
  have e1 := dd_ge (L := L) (a := lo L i) (b := lo L j)
  have e2 := dd_ge (L := L) (a := hi L i) (b := hi L j)
  have e3 := dd_ge (L := L) (a := lo L i) (b := hi L j)
  have e4 := dd_ge (L := L) (a := hi L i) (b := lo L j)
  refine ⟨fun hc => ⟨by omega, by omega, by omega, by omega, by omega, by omega, fun hc2 => h0 ?_, fun hc2 => h1 ?_⟩, fun hc => h0 ?_⟩
  · intro h; unfold alk at h; omega
  · unfold alk; exact ⟨by omega, hc2⟩
  · intro h; unfold alk at h; omega
/-- what the reference's row of distances says -/
def frOK (v : VT) (n : Int) (L : List Ln) : Prop := ∀ a b : Int, 0 ≤ a → a < n → 0 ≤ b → b < n → (0 ≤ dd L a b → v 224 ((24 * a) + b).toNat = dd L a b) ∧ (dd L a b = -1 → v 224 ((24 * a) + b).toNat = 99)
noncomputable def f9 (L : List Ln) (a b : Int) : Int := if dd L a b = -1 then 99 else dd L a b
theorem S_farOf {n : Int} {L : List Ln} {a b : Int} {v : VT} {q : Int → Prop} (hn : 0 ≤ n ∧ n ≤ 24) (hf : frOK v n L) (ha : 0 ≤ a ∧ a < n) (hb : 0 ≤ b ∧ b < n) (hq : q (f9 L a b)) : P_X11_farOf a b v q := by
  refine S_farOf' (by omega) (by omega) ?_
  have := hf a b ha.1 ha.2 hb.1 hb.2
  have h2 := dd_ge (L := L) (a := a) (b := b)
  unfold f9 at hq
  by_cases h : dd L a b = -1
  · rw [if_pos h] at hq; rw [this.2 h]; exact hq
  · rw [if_neg h] at hq; rw [this.1 (by omega)]; exact hq
theorem f9_r {n : Int} {L : List Ln} (w : wfL n L) (hn : 0 ≤ n ∧ n ≤ 24) {a b : Int} (ha : 0 ≤ a ∧ a < n) : 0 ≤ f9 L a b ∧ f9 L a b ≤ 99 ∧ (f9 L a b < 99 ↔ 0 ≤ dd L a b) ∧ (0 ≤ dd L a b → f9 L a b = dd L a b) := by
  have h1 := dd_ge (L := L) (a := a) (b := b)
  have h2 := dd_lt w ha (b := b)
  unfold f9
  split
  · refine ⟨by omega, by omega, by omega, by omega⟩
  · refine ⟨by omega, by omega, by omega, fun _ => rfl⟩
theorem S_areAlikeM {n : Int} {L : List Ln} {i j : Int} {v : VT} {q : Int → Prop} (w : wfL n L) (hn : 0 ≤ n ∧ n ≤ 24) (hg : mG v 222 n L) (hf : frOK v n L) (hi' : 0 ≤ i ∧ i < L.length) (hj : 0 ≤ j ∧ j < L.length) (h0 : ¬ alk L i j → q 0) (h1 : alk L i j → q 1) : P_X11_areAlike i j v q := by
  have wi := w.1 i hi'.1 hi'.2
  have wj := w.1 j hj.1 hj.2
  unfold P_X11_areAlike
  refine S_low w hg hi' (S_low w hg hj (S_farOf hn hf (by omega) (by omega) (S_high w hg hi' (S_high w hg hj (S_farOf hn hf (by omega) (by omega) ?_)))))
  have a1 := f9_r w hn (a := lo L i) (b := lo L j) (by omega)
  have a2 := f9_r w hn (a := hi L i) (b := hi L j) (by omega)
  have a3 := f9_r w hn (a := lo L i) (b := hi L j) (by omega)
  have a4 := f9_r w hn (a := hi L i) (b := lo L j) (by omega)
  refine ⟨fun hc => h0 (fun h => ?_), fun hc => ⟨fun hc2 => ⟨by omega, S_low w hg hi' (S_high w hg hj (S_farOf hn hf (by omega) (by omega) (S_high w hg hi' (S_low w hg hj (S_farOf hn hf (by omega) (by omega) ⟨by omega, ?_⟩)))))⟩, fun hc2 => h0 (fun h => ?_)⟩⟩
  · unfold alk at h; omega
  · have f := four hi' hj (a1.2.2.1.mp hc)
    rw [a1.2.2.2 (a1.2.2.1.mp hc), a2.2.2.2 f.1, a3.2.2.2 f.2.1, a4.2.2.2 f.2.2]
    refine ⟨fun h => h0 (fun h' => h'.2 h), fun h => h1 ⟨a1.2.2.1.mp hc, h⟩⟩
  · have f := four hi' hj h.1
    omega

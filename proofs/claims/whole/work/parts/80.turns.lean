/-! ===== nodes become others ===== -/
noncomputable def stp (f : Int → Int) (M : List Ln) (a b p : Int) : List Ln := @ite _ (f a ≠ -1 ∧ f b ≠ -1 ∧ f a ≠ f b ∧ ¬ adj M (f a) (f b)) (Classical.propDecidable _) (addL M (f a) (f b) p) M
noncomputable def tnk (f : Int → Int) (L : List Ln) (k : Nat) : List Ln := (L.take k).foldl (fun M l => stp f M l.1 l.2.1 l.2.2) []
noncomputable def tn (f : Int → Int) (L : List Ln) : List Ln := L.foldl (fun M l => stp f M l.1 l.2.1 l.2.2) []
def okf2 (n n' : Int) (f : Int → Int) : Prop := ∀ a : Int, 0 ≤ a → a < n → f a = -1 ∨ (0 ≤ f a ∧ f a < n')
def isLd (n n' : Int) (f s : Int → Int) : Prop := ∀ j : Int, 0 ≤ j → j < n' → (0 ≤ s j ∧ s j < n) ∧ f (s j) = j ∧ ∀ u : Int, 0 ≤ u → u < s j → f u ≠ j
section Turns
variable {n n' : Int} {L : List Ln} {f s : Int → Int} {v : VT}
theorem tnk_0 : tnk f L 0 = [] := rfl
theorem tnk_all : tnk f L L.length = tn f L := by unfold tnk tn; rw [List.take_length]
theorem tnk_s {k : Int} (k0 : 0 ≤ k) (h : k < L.length) : tnk f L (k + 1).toNat = stp f (tnk f L k.toNat) (lo L k) (hi L k) (pr L k) := by
  unfold tnk
  rw [show (k + 1).toNat = k.toNat + 1 by omega, ln_snoc (by omega), List.foldl_append]
  rfl
theorem stp_no {M : List Ln} {a b p : Int} (h : ¬ (f a ≠ -1 ∧ f b ≠ -1 ∧ f a ≠ f b ∧ ¬ adj M (f a) (f b))) : stp f M a b p = M := by unfold stp; rw [if_neg h]
theorem stp_yes {M : List Ln} {a b p : Int} (h : f a ≠ -1 ∧ f b ≠ -1 ∧ f a ≠ f b ∧ ¬ adj M (f a) (f b)) : stp f M a b p = addL M (f a) (f b) p := by unfold stp; rw [if_pos h]
theorem tnk_wf (w : wfL n L) (hf : okf2 n n' f) : ∀ k : Nat, k ≤ L.length → wfL n' (tnk f L k) ∧ (tnk f L k).length ≤ k := by
  have hlen := w.2.2
  intro k
  induction k with
  | zero =>
    intro _
    rw [tnk_0]
    refine ⟨⟨fun j j0 j1 => ?_, fun i j i0 i1 => ?_, by decide⟩, Nat.le_refl _⟩
    · have : j < 0 := j1
      omega
    · have : i < 0 := i1
      omega
  | succ k ih =>
    intro hk
    obtain ⟨h1, h2⟩ := ih (by omega)
    have hw := w.1 (k : Int) (by omega) (by omega)
    have e := tnk_s (f := f) (L := L) (k := (k : Int)) (by omega) (by omega)
    rw [show ((k : Int) + 1).toNat = k + 1 by omega, Int.toNat_natCast] at e
    rw [e]
    by_cases h : f (lo L (k : Int)) ≠ -1 ∧ f (hi L (k : Int)) ≠ -1 ∧ f (lo L (k : Int)) ≠ f (hi L (k : Int)) ∧ ¬ adj (tnk f L k) (f (lo L (k : Int))) (f (hi L (k : Int)))
    · rw [stp_yes h]
      have a1 := hf (lo L (k : Int)) (by omega) (by omega)
      have a2 := hf (hi L (k : Int)) (by omega) (by omega)
      refine ⟨wfL_add h1 (by omega) (by omega) (by omega) h.2.2.1 ⟨hw.2.2.2.1, hw.2.2.2.2⟩ h.2.2.2, by rw [addL_len]; omega⟩
    · rw [stp_no h]
      exact ⟨h1, by omega⟩
theorem tn_wf (w : wfL n L) (hf : okf2 n n' f) : wfL n' (tn f L) := by rw [← tnk_all]; exact (tnk_wf w hf L.length (Nat.le_refl _)).1
/-- what stands there stems from a line ahead -/
theorem tnk_from {x y : Int} : ∀ k : Nat, k ≤ L.length → adj (tnk f L k) x y → ∃ j : Int, 0 ≤ j ∧ j < k ∧ ((f (lo L j) = x ∧ f (hi L j) = y) ∨ (f (lo L j) = y ∧ f (hi L j) = x)) ∧ f (lo L j) ≠ -1 ∧ f (hi L j) ≠ -1 := by
  intro k
  induction k with
  | zero =>
    intro _ h
    rw [tnk_0] at h
    obtain ⟨j, j0, j1, -⟩ := h
    have : j < 0 := j1
    omega
  | succ k ih =>
    intro hk h
    have e := tnk_s (f := f) (L := L) (k := (k : Int)) (by omega) (by omega)
    rw [show ((k : Int) + 1).toNat = k + 1 by omega, Int.toNat_natCast] at e
    rw [e] at h
    have old : adj (tnk f L k) x y → ∃ j : Int, 0 ≤ j ∧ j < ((k + 1 : Nat) : Int) ∧ ((f (lo L j) = x ∧ f (hi L j) = y) ∨ (f (lo L j) = y ∧ f (hi L j) = x)) ∧ f (lo L j) ≠ -1 ∧ f (hi L j) ≠ -1 := fun g => by
      obtain ⟨j, j0, j1, j2⟩ := ih (by omega) g
      exact ⟨j, j0, by omega, j2⟩
    by_cases hc : f (lo L (k : Int)) ≠ -1 ∧ f (hi L (k : Int)) ≠ -1 ∧ f (lo L (k : Int)) ≠ f (hi L (k : Int)) ∧ ¬ adj (tnk f L k) (f (lo L (k : Int))) (f (hi L (k : Int)))
    · rw [stp_yes hc, adj_addL] at h
      rcases h with h | h
      · exact old h
      · exact ⟨(k : Int), by omega, by omega, h, hc.1, hc.2.1⟩
    · rw [stp_no hc] at h
      exact old h
/-- if no two become the same, nothing is left out but for what goes -/
theorem tnk_inj (w : wfL n L) (hinj : ∀ a b : Int, 0 ≤ a → a < n → 0 ≤ b → b < n → f a ≠ -1 → f a = f b → a = b) {k : Int} (k0 : 0 ≤ k) (k1 : k < L.length) (h1 : f (lo L k) ≠ -1) (h2 : f (hi L k) ≠ -1) : tnk f L (k + 1).toNat = addL (tnk f L k.toNat) (f (lo L k)) (f (hi L k)) (pr L k) := by
  have hw := w.1 k k0 k1
  rw [tnk_s k0 k1]
  refine stp_yes ⟨h1, h2, fun e => ?_, fun h => ?_⟩
  · have := hinj _ _ (by omega) (by omega) (by omega) (by omega) h1 e
    omega
  · obtain ⟨j, j0, j1, j2, j3, j4⟩ := tnk_from k.toNat (by omega) h
    have hwj := w.1 j j0 (by omega)
    have : lo L j = lo L k ∧ hi L j = hi L k := by
      rcases j2 with ⟨a, b⟩ | ⟨a, b⟩
      · exact ⟨hinj _ _ (by omega) (by omega) (by omega) (by omega) j3 a, hinj _ _ (by omega) (by omega) (by omega) (by omega) j4 b⟩
      · have e1 := hinj _ _ (by omega) (by omega) (by omega) (by omega) j3 a
        have e2 := hinj _ _ (by omega) (by omega) (by omega) (by omega) j4 b
        omega
    have := w.2.1 j k j0 (by omega) k0 k1 this.1 this.2
    omega
/-! ===== the reference ===== -/
theorem S_isNext {A' : Net} {q : VT → Prop} (hA' : okNet A') (hm : mRow (v 223) A') (hq : ∀ v' : VT, (∀ a, a ≠ 218 → a ≠ 222 → v' a = v a) → (∀ j, j ≠ 15 → v' 218 j = v 218 j) → v' 218 15 = 0 → mRow (v' 222) A' → q v') : P_X11_isNext v q := by
  unfold P_X11_isNext
  intro X2 hX2
  refine up2 (X := X2) 206 (fun i v2 => 0 ≤ i ∧ (∀ a, a ≠ 222 → v2 a = v a) ∧ ∀ k : Nat, (k : Int) < i → v2 222 k = v 223 k) ?_ (by omega) ⟨by omega, fun a _ => rfl, fun k hk => by omega⟩
  intro i v2 hle ⟨i0, hf, hc⟩ hnext
  apply hX2
  refine ⟨fun hge v29 e29 => hq v29 (fun a a1 a2 => by rw [e29, upd2_off _ _ _ a1]; exact hf a a2) (fun j hj => by rw [e29, upd2_j, if_neg hj, hf 218 (by omega)]) (by rw [e29, upd2_same]) (mRow_cong hA' hm (fun k hk => by rw [e29, upd2_off _ _ _ (by omega)]; exact hc k (by omega))), fun hlt => ⟨by omega, by omega, fun v20 e20 => ⟨by omega, hnext hlt _ ⟨by omega, fun a ha => by rw [e20, upd2_off _ _ _ ha]; exact hf a ha, fun k hk => ?_⟩⟩⟩⟩
  rw [e20, upd2_j]
  by_cases e : (k : Int) = i
  · rw [if_pos (by omega), hf 223 (by omega), show i.toNat = k by omega]
  · rw [if_neg (by omega)]; exact hc k (by omega)
theorem S_turns {A : Net} {q : VT → Prop} (hA : okNet A) (hm : mRow (v 222) A) (hn' : 0 ≤ n' ∧ n' ≤ 24) (h240 : ∀ a : Int, 0 ≤ a → a < A.1 → v 240 a.toNat = f a) (hf : okf2 A.1 n' f) (hs : isLd A.1 n' f s)
    (hq : ∀ v' : VT, (∀ a, a ≠ 218 → a ≠ 222 → a ≠ 223 → v' a = v a) → (∀ j, j ≠ 15 → v' 218 j = v 218 j) → v' 218 15 = 0 → mRow (v' 222) (n', tn f A.2.1, fun j => A.2.2 (s j)) → q v') : P_X11_turns n' v q := by
  have hn := hA.1
  have hlen := hA.2.1.2.2
  have hA' : okNet (n', tn f A.2.1, fun j => A.2.2 (s j)) := ⟨hn', tn_wf hA.2.1 hf, fun j j0 j1 => hA.2.2 _ (hs j j0 j1).1.1 (hs j j0 j1).1.2⟩
  unfold P_X11_turns
  intro v6 e6 v13 e13 K37 hK37 X16 hX16
  have f13 : ∀ a, a ≠ 223 → v13 a = v a := fun a ha => by rw [e13, upd2_off _ _ _ ha, e6, upd2_off _ _ _ ha]
  refine up2 (X := X16) 24 (fun i v16 => 0 ≤ i ∧ (∀ a, a ≠ 223 → v16 a = v a) ∧ v16 223 0 = n' ∧ v16 223 1 = 0) ?_ (by omega) ⟨by omega, f13, by rw [e13, upd2_j, if_neg (by decide), e6, upd2_same], by rw [e13, upd2_same]⟩
  intro i v16 hle ⟨i0, hfr, h0, h1⟩ hnext
  apply hX16
  refine ⟨fun _ => ?_, fun hlt => ⟨by omega, by omega, fun v30 e30 => ⟨by omega, hnext hlt _ ⟨by omega, fun a ha => by rw [e30, upd2_off _ _ _ ha]; exact hfr a ha, by rw [e30, upd2_j, if_neg (by omega)]; exact h0, by rw [e30, upd2_j, if_neg (by omega)]; exact h1⟩⟩⟩⟩
  apply hK37
  have e0 : v16 222 0 = A.1 := by rw [hfr 222 (by omega)]; exact hm.1.1
  rw [e0]
  refine ⟨by omega, fun l2 el2 => ?_⟩
  intro K87 hK87 X46 hX46
  refine wh2 (X := X46) (fun i v46 => (-1 ≤ i ∧ i < A.1) ∧ (∀ a, a ≠ 223 → v46 a = v a) ∧ v46 223 0 = n' ∧ v46 223 1 = 0 ∧ ∀ j : Int, 0 ≤ j → j < n' → i < s j → v46 223 (2 + j).toNat = cm (A.2.2 (s j))) (fun i _ => (i + 1).toNat) ?_ ⟨by omega, hfr, h0, h1, fun j j0 j1 j2 => by have := (hs j j0 j1).1; omega⟩
  intro i2 v46 ⟨hi2, hfr2, h02, h12, hnm⟩ hnext2
  apply hX46
  refine ⟨fun hneg => ?_, fun hpos => ?_⟩
  · apply hK87
    intro X89 hX89
    refine up2 (X := X89) (A.2.1.length : Int) (fun i v89 => 0 ≤ i ∧ (∀ a, a ≠ 223 → v89 a = v a) ∧ mG v89 223 n' (tnk f A.2.1 i.toNat) ∧ ∀ j : Int, 0 ≤ j → j < n' → v89 223 (2 + j).toNat = cm (A.2.2 (s j))) ?_ (by omega) ⟨by omega, hfr2, ⟨h02, h12, fun k k0 k1 => ?_⟩, fun j j0 j1 => hnm j j0 j1 (by have := (hs j j0 j1).1; omega)⟩
    · intro i v89 hle3 ⟨i0', hfr3, hg3, hnm3⟩ hnext3
      apply hX89
      have hm3 : mG v89 222 A.1 A.2.1 := mG_frame (mRow_mG hm) (hfr3 222 (by omega))
      rw [hm3.2.1]
      refine ⟨fun hge => ?_, fun hlt => ?_⟩
      · have er : mRow (v89 223) (n', tn f A.2.1, fun j => A.2.2 (s j)) := by
          rw [show i.toNat = A.2.1.length by omega, tnk_all] at hg3
          exact ⟨hg3, hnm3⟩
        exact S_isNext hA' er (fun v' f' j' z' r' => hq v' (fun a a1 a2 a3 => by rw [f' a a1 a2]; exact hfr3 a a3) (fun j hj => by rw [j' j hj, hfr3 218 (by omega)]) z' r')
      · have hw := hA.2.1.1 i i0' hlt
        obtain ⟨hw3, hl3⟩ := tnk_wf hA.2.1 hf i.toNat (by omega)
        refine S_low hA.2.1 hm3 ⟨i0', hlt⟩ ⟨by omega, fun l3 el3 => S_high hA.2.1 hm3 ⟨i0', hlt⟩ ⟨by omega, fun l4 el4 => ?_⟩⟩
        rw [hfr3 240 (by omega), h240 _ (by omega) (by omega)] at el3 el4
        subst el3 el4
        have no : ¬ (f (lo A.2.1 i) ≠ -1 ∧ f (hi A.2.1 i) ≠ -1 ∧ f (lo A.2.1 i) ≠ f (hi A.2.1 i) ∧ ¬ adj (tnk f A.2.1 i.toNat) (f (lo A.2.1 i)) (f (hi A.2.1 i))) → X89 (i + 1) v89 := fun hno => hnext3 hlt _ ⟨by omega, hfr3, by rw [tnk_s i0' hlt, stp_no hno]; exact hg3, hnm3⟩
        refine ⟨fun g1 => ⟨by omega, no (fun g => g.1 g1)⟩, fun g1 => ⟨fun g2 => ⟨by omega, no (fun g => g.2.1 g2)⟩, fun g2 => ⟨fun g3 => ⟨by omega, no (fun g => g.2.2.1 g3)⟩, fun g3 => ?_⟩⟩⟩
        refine S_lineOf hw3 hg3 (fun g4 => ⟨fun g => absurd rfl g, fun _ => S_priceOf hA.2.1 hm3 ⟨i0', hlt⟩ (S_adds hg3 (by omega) (fun v' f' j' g' => ⟨by omega, hnext3 hlt _ ⟨by omega, fun a ha => by rw [f' a ha]; exact hfr3 a ha, ?_, fun j j0 j1 => ?_⟩⟩))⟩) (fun k k0 k1 k2 => ⟨fun _ => ⟨by omega, no (fun g => g.2.2.2 ⟨k, k0, k1, k2⟩)⟩, fun g => by omega⟩)
        · rw [tnk_s i0' hlt, stp_yes ⟨g1, g2, g3, g4⟩]; exact g'
        · rw [j' _ (by omega) (by omega)]; exact hnm3 j j0 j1
    · have : k < 0 := k1
      omega
  · have e240 : v46 240 i2.toNat = f i2 := by rw [hfr2 240 (by omega)]; exact h240 i2 hpos hi2.2
    rw [e240]
    have hfi := hf i2 hpos hi2.2
    refine ⟨by omega, fun hm1 => ⟨by omega, hnext2 _ _ ⟨by omega, hfr2, h02, h12, fun j j0 j1 j2 => ?_⟩ (by omega)⟩, fun hm1 => ⟨by omega, by omega, by omega, by omega, by omega, fun v80 e80 => ⟨by omega, hnext2 _ _ ⟨by omega, fun a ha => by rw [e80, upd2_off _ _ _ ha]; exact hfr2 a ha, by rw [e80, upd2_j, if_neg (by omega)]; exact h02, by rw [e80, upd2_j, if_neg (by omega)]; exact h12, fun j j0 j1 j2 => ?_⟩ (by omega)⟩⟩⟩
    · refine hnm j j0 j1 ?_
      have hsj := hs j j0 j1
      by_cases e : s j = i2
      · have := hsj.2.1; rw [e] at this; omega
      · omega
    · have hsj := hs j j0 j1
      rw [e80, upd2_j]
      by_cases e : s j = i2
      · have e2 := hsj.2.1
        rw [e] at e2
        rw [if_pos (by omega), hfr2 222 (by omega), e]
        exact hm.2 i2 hpos hi2.2
      · rw [if_neg (fun g => hsj.2.2 i2 hpos (by omega) (by omega))]
        exact hnm j j0 j1 (by omega)
end Turns
/-! ===== drop ===== -/
section Drop
variable {v : VT} {t : Int} {A : Net} {T : Vt} {F : Int × Int} {V : Vt} {S : Se} {c : Int} {P : Vt} {R : Nat → Int} {H : Hs}
def fdr (x : Int) : Int → Int := fun a => if a = x then -1 else if x < a then a - 1 else a
def sdr (x : Int) : Int → Int := fun j => if j < x then j else j + 1
noncomputable def netD (A : Net) (x : Int) : Net := (A.1 - 1, tn (fdr x) A.2.1, fun j => A.2.2 (sdr x j))
theorem fdr_ok {n x : Int} (hx : 0 ≤ x ∧ x < n) : okf2 n (n - 1) (fdr x) ∧ isLd n (n - 1) (fdr x) (sdr x) := by
  refine ⟨fun a a0 a1 => ?_, fun j j0 j1 => ?_⟩
  · unfold fdr; split
    · exact Or.inl rfl
    · split <;> omega
  · unfold sdr
    refine ⟨by split <;> omega, ?_, fun u u0 u1 => ?_⟩
    · unfold fdr
      split <;> split
      · omega
      · split <;> omega
      · omega
      · split <;> omega
    · unfold fdr
      split at u1 <;> split
      · omega
      · split <;> omega
      · omega
      · split <;> omega
theorem fdr_inj {n x : Int} (hx : 0 ≤ x) : ∀ a b : Int, 0 ≤ a → a < n → 0 ≤ b → b < n → fdr x a ≠ -1 → fdr x a = fdr x b → a = b := by
  intro a b a0 _ b0 _ h e
  unfold fdr at h e
  split at h
  · exact absurd rfl h
  · split at e
    · omega
    · split at e <;> split at e
      · omega
      · split at e <;> omega
      · omega
      · split at e <;> omega
theorem okNet_D {x : Int} (hA : okNet A) (hx : 0 ≤ x ∧ x < A.1) : okNet (netD A x) := by
  have hn := hA.1
  obtain ⟨h1, h2⟩ := fdr_ok hx
  exact ⟨by show 0 ≤ A.1 - 1 ∧ A.1 - 1 ≤ 24; omega, tn_wf hA.2.1 h1, fun j j0 j1 => hA.2.2 _ (h2 j j0 j1).1.1 (h2 j j0 j1).1.2⟩
theorem X_removeNode {x : Int} {q : VT → Prop} (hA : okNet A) (hX : IX v A T F V S c P R H) (hx : 0 ≤ x ∧ x < A.1) (hq : ∀ v2, IX v2 (netD A x) T F V S c P R H → q v2) : P_X0_removeNode 10 x v (fun v1 => P_X10_changed v1 q) := by
  have hn := hA.1
  have hlen := hA.2.1.2.2
  obtain ⟨hf, hs⟩ := fdr_ok hx
  have hg := hX.1.1
  have hinj := fdr_inj (n := A.1) hx.1
  unfold P_X0_removeNode
  rw [hg.2.1]
  intro v7 e7 K91 hK91 X12 hX12
  have f7 : ∀ d, d ≠ 10 → v7 d = v d := fun d hd => by rw [e7]; exact upd2_off _ _ _ hd
  refine up2 (X := X12) (A.2.1.length : Int) (fun i v12 => 0 ≤ i ∧ (∀ d, d ≠ 10 → d ≠ 12 → d ≠ 13 → d ≠ 14 → v12 d = v d) ∧ xG v12 10 A.1 (tnk (fdr x) A.2.1 i.toNat) ∧ ∀ j : Int, i ≤ j → j < A.2.1.length → v12 12 j.toNat = lo A.2.1 j ∧ v12 13 j.toNat = hi A.2.1 j ∧ v12 14 j.toNat = pr A.2.1 j) ?_ (by omega) ⟨by omega, fun d d0 _ _ _ => f7 d d0, ⟨by rw [e7, upd2_j, if_neg (by decide)]; exact hg.1, by rw [e7, upd2_same]; rfl, fun j j0 j1 => ?_⟩, fun j j0 j1 => ?_⟩
  · intro i v12 hle ⟨i0, hfr, hx3, hr⟩ hnext
    apply hX12
    refine ⟨fun hge => ?_, fun hlt => ?_⟩
    · apply hK91
      rw [show i.toNat = A.2.1.length by omega, tnk_all] at hx3
      rw [hx3.1]
      refine ⟨by omega, fun v98 e98 => ?_⟩
      intro X103 hX103
      have f98 : ∀ d, d ≠ 10 → v98 d = v12 d := fun d hd => by rw [e98]; exact upd2_off _ _ _ hd
      have n98 : v98 10 0 = A.1 - 1 := by rw [e98, upd2_same]
      refine wh2 (X := X103) (fun i3 v103 => (x ≤ i3 ∧ i3 ≤ A.1 - 1) ∧ (∀ d, d ≠ 11 → v103 d = v98 d) ∧ (∀ j : Int, 0 ≤ j → j < i3 → v103 11 j.toNat = cx (A.2.2 (sdr x j))) ∧ ∀ j : Int, i3 ≤ j → j < A.1 → v103 11 j.toNat = cx (A.2.2 j)) (fun i3 _ => (30 - i3).toNat) ?_ ⟨by omega, fun d _ => rfl, fun j j0 j1 => ?_, fun j j0 j1 => ?_⟩
      · intro i3 v103 ⟨hi3, hfr3, ha, hb⟩ hnext3
        apply hX103
        rw [hfr3 10 (by omega), n98]
        refine ⟨fun hge3 => ?_, fun hlt3 => ⟨by omega, by omega, by omega, fun v124 e124 => ⟨by omega, hnext3 _ _ ⟨by omega, fun d hd => by rw [e124, upd2_off _ _ _ hd]; exact hfr3 d hd, fun j j0 j1 => ?_, fun j j0 j1 => ?_⟩ (by omega)⟩⟩⟩
        · refine X_new (A' := netD A x) hX (fun d hd => by rw [hfr3 d (by omega), f98 d (by omega), hfr d (by omega) (by omega) (by omega) (by omega)]) ⟨⟨?_, ?_, fun k k0 k1 => ?_⟩, fun j j0 j1 => ?_⟩ (fun v2 x2 _ => hq v2 x2)
          · rw [hfr3 10 (by omega)]; exact n98
          · rw [hfr3 10 (by omega), e98, upd2_j, if_neg (by decide)]; exact hx3.2.1
          · show v103 12 k.toNat = _ ∧ v103 13 k.toNat = _ ∧ v103 14 k.toNat = _
            rw [hfr3 12 (by omega), hfr3 13 (by omega), hfr3 14 (by omega), f98 12 (by omega), f98 13 (by omega), f98 14 (by omega)]
            exact hx3.2.2 k k0 k1
          · have j1' : j < A.1 - 1 := j1
            exact ha j j0 (by omega)
        · show v124 11 j.toNat = _
          rw [e124, upd2_at _ _ _ (by omega) j0]
          by_cases e : j = i3
          · rw [if_pos e, e]
            have : sdr x i3 = i3 + 1 := by unfold sdr; rw [if_neg (by omega)]
            rw [this]
            exact hb (i3 + 1) (by omega) (by omega)
          · rw [if_neg e]; exact ha j j0 (by omega)
        · show v124 11 j.toNat = _
          rw [e124, upd2_at _ _ _ (by omega) (by omega), if_neg (by omega)]
          exact hb j (by omega) j1
      · have : sdr x j = j := by unfold sdr; rw [if_pos j1]
        rw [this, f98 11 (by omega), hfr 11 (by omega) (by omega) (by omega) (by omega)]
        exact hX.2.1 j j0 (by omega)
      · rw [f98 11 (by omega), hfr 11 (by omega) (by omega) (by omega) (by omega)]
        exact hX.2.1 j (by omega) j1
    · have hw := hA.2.1.1 i i0 hlt
      obtain ⟨hw3, hl3⟩ := tnk_wf hA.2.1 hf i.toNat (by omega)
      obtain ⟨r1, r2, r3⟩ := hr i (Int.le_refl _) hlt
      refine ⟨by omega, fun l4 el4 => ⟨by omega, fun l5 el5 => ?_⟩⟩
      have el4' : l4 = lo A.2.1 i := by rw [el4]; exact r1
      have el5' : l5 = hi A.2.1 i := by rw [el5]; exact r2
      subst el4' el5'
      have no : (fdr x (lo A.2.1 i) = -1 ∨ fdr x (hi A.2.1 i) = -1) → X12 (i + 1) v12 := fun hno => hnext hlt _ ⟨by omega, hfr, by rw [tnk_s i0 hlt, stp_no (fun g => by rcases hno with h | h; exact g.1 h; exact g.2.1 h)]; exact hx3, fun j j0 j1 => hr j (by omega) j1⟩
      refine ⟨fun g1 => ⟨by omega, no (Or.inl (by unfold fdr; rw [if_pos g1]))⟩, fun g1 => ⟨fun g2 => ⟨by omega, no (Or.inr (by unfold fdr; rw [if_pos g2]))⟩, fun g2 => ?_⟩⟩
      have d1 : fdr x (lo A.2.1 i) ≠ -1 := by unfold fdr; rw [if_neg g1]; split <;> omega
      have d2 : fdr x (hi A.2.1 i) ≠ -1 := by unfold fdr; rw [if_neg g2]; split <;> omega
      have go : P_X0_addLine 10 (fdr x (lo A.2.1 i)) (fdr x (hi A.2.1 i)) (v12 14 i.toNat) v12 (fun v82 => (-2147483648 ≤ i + 1 ∧ i + 1 ≤ 2147483647) ∧ X12 (i + 1) v82) := by
        rw [r3]
        refine S_addLine hx3 (by omega) (fun v' f' j' g' s' => ⟨by omega, hnext hlt _ ⟨by omega, fun d d0 d2 d3 d4 => by rw [f' d d0 d2 d3 d4]; exact hfr d d0 d2 d3 d4, by rw [tnk_inj hA.2.1 hinj i0 hlt d1 d2]; exact g', fun j j0 j1 => ?_⟩⟩)
        obtain ⟨s1, s2, s3⟩ := s' j.toNat (by omega)
        rw [s1, s2, s3]
        exact hr j (by omega) j1
      intro K61 hK61
      have hi1 : ∀ s0 : Int, s0 = fdr x (lo A.2.1 i) → K61 s0 := by
        intro s0 es
        apply hK61
        rw [es]
        refine ⟨fun g3 => ⟨by omega, ?_⟩, fun g3 => ⟨by omega, by omega, ?_⟩⟩
        · have : fdr x (hi A.2.1 i) = hi A.2.1 i := by unfold fdr; rw [if_neg g2, if_neg (by omega)]
          rw [this] at go; exact go
        · have : fdr x (hi A.2.1 i) = hi A.2.1 i - 1 := by unfold fdr; rw [if_neg g2, if_pos g3]
          rw [this] at go; exact go
      exact ⟨fun g3 => hi1 _ (by unfold fdr; rw [if_neg g1, if_neg (by omega)]), fun g3 => ⟨by omega, hi1 _ (by unfold fdr; rw [if_neg g1, if_pos g3])⟩⟩
  · have : j < 0 := j1
    omega
  · rw [f7 12 (by omega), f7 13 (by omega), f7 14 (by omega)]; exact hg.2.2 j j0 j1
theorem XS_drop {x : Int} (hx : (0 ≤ x ∧ x < A.1) ∧ A.1 ≠ 1) (hA : okNet A) (hT : okT t V S c P R H) (hX : IX v A T F V S c P R H) : P_X10_drop x v (fun r v1 => r = 1 ∧ IX v1 (netD A x) T F V S c P R (push H A)) := by
  unfold P_X10_drop
  rw [hX.1.1.1]
  refine S_isNode hX.1.1 (fun g => absurd hx.1 g) (fun _ => ⟨fun g => absurd g (by decide), fun _ => ⟨fun _ => ?_, fun g => absurd g hx.2⟩⟩)
  exact X_keep hA hT hX (fun v1 x1 _ => X_removeNode hA x1 hx.1 (fun v2 x2 => ⟨rfl, x2⟩))
theorem M_turns {n' : Int} {f s : Int → Int} {q : VT → Prop} (hA : okNet A) (hM : IM v A T F V S c P R H) {v' : VT} (hf' : ∀ a, a ≠ 240 → a ≠ 241 → v' a = v a) (hn' : 0 ≤ n' ∧ n' ≤ 24) (h240 : ∀ a : Int, 0 ≤ a → a < A.1 → v' 240 a.toNat = f a) (hf : okf2 A.1 n' f) (hs : isLd A.1 n' f s)
    (hq : ∀ v2, IM v2 (n', tn f A.2.1, fun j => A.2.2 (s j)) T F V S c P R H → q v2) : P_X11_turns n' v' q := by
  refine S_turns (A := A) hA (by rw [hf' 222 (by omega) (by omega)]; exact IM_row hM) hn' h240 hf hs (fun v2 f2 j2 z2 r2 => hq v2 ?_)
  exact M_new hM (fun a ha => by rw [f2 a (by omega) (by omega) (by omega), hf' a (by omega) (by omega)]) (fun j hj => by rw [j2 j (by omega), hf' 218 (by omega) (by omega)]) r2 z2
theorem MS_drop {x : Int} (hx : (0 ≤ x ∧ x < A.1) ∧ A.1 ≠ 1) (hA : okNet A) (hT : okT t V S c P R H) (hM : IM v A T F V S c P R H) : P_X11_drop x v (fun r v1 => r = 1 ∧ IM v1 (netD A x) T F V S c P R (push H A)) := by
  have hn := hA.1
  obtain ⟨hf, hs⟩ := fdr_ok hx.1
  unfold P_X11_drop
  rw [hM.1.1.1]
  refine S_isNodeM hA.1 hM.1.1 (fun g => absurd hx.1 g) (fun _ => ⟨fun g => absurd g (by decide), fun _ => ⟨fun _ => ?_, fun g => absurd g hx.2⟩⟩)
  refine M_keep hA hT hM (fun v1 m1 _ _ => ?_)
  intro K73 hK73 X30 hX30
  have e0 : v1 222 0 = A.1 := m1.1.1.1
  refine up2 (X := X30) A.1 (fun i v30 => 0 ≤ i ∧ (∀ a, a ≠ 240 → v30 a = v1 a) ∧ ∀ j : Int, 0 ≤ j → j < i → v30 240 j.toNat = fdr x j) ?_ (by omega) ⟨by omega, fun a _ => rfl, fun j j0 j1 => by omega⟩
  intro i v30 hle ⟨i0, hfr, hz⟩ hnext
  apply hX30
  rw [hfr 222 (by omega), e0]
  have step : ∀ y : Int, y = fdr x i → i < A.1 → ∀ v66 : VT, v66 = upd2 v30 240 i.toNat y → (-2147483648 ≤ i + 1 ∧ i + 1 ≤ 2147483647) ∧ X30 (i + 1) v66 := fun y ey hlt v66 e66 => ⟨by omega, hnext hlt _ ⟨by omega, fun a ha => by rw [e66, upd2_off _ _ _ ha]; exact hfr a ha, fun j j0 j1 => by
    rw [e66, upd2_at _ _ _ i0 j0]
    by_cases e : j = i
    · rw [if_pos e, e, ey]
    · rw [if_neg e]; exact hz j j0 (by omega)⟩⟩
  refine ⟨fun hge => ?_, fun hlt => ⟨fun hne => ⟨fun hle2 => ⟨by omega, step _ (by unfold fdr; rw [if_neg hne, if_neg (by omega)]) hlt⟩, fun hgt => ⟨by omega, by omega, step _ (by unfold fdr; rw [if_neg hne, if_pos hgt]) hlt⟩⟩, fun he => ⟨by omega, step _ (by unfold fdr; rw [if_pos he]) hlt⟩⟩⟩
  apply hK73
  rw [hfr 222 (by omega), e0]
  exact ⟨by omega, M_turns hA m1 (fun a a1 a2 => hfr a a1) (by omega) (fun a a0 a1 => hz a a0 (by omega)) hf hs (fun v2 m2 => ⟨rfl, m2⟩)⟩
theorem Q_drop {x : Int} (ht : t < 1000000) (h : Inv t v) : P_X10_drop x v (fun r v1 => P_X11_drop x v1 (fun r' v2 => r = r' ∧ Inv (t + 1) v2)) := by
  obtain ⟨A, T, F, V, S, c, P, R, H, hA, hT, hX, hM⟩ := h
  by_cases hx : (0 ≤ x ∧ x < A.1) ∧ A.1 ≠ 1
  · exact N_X10_drop (F_X10_drop (XS_drop hx hA hT hX)) (fun r1 v1 h1 => N_X11_drop (F_X11_drop (MS_drop hx hA hT (IM_high hM (fun a ha => h1.2 a (by omega))))) (fun r2 v2 h2 => ⟨by rw [h1.1.1, h2.1.1], inv_mk (okNet_D hA hx.1) (okT_push hA hT) h1.1.2 (fun a ha => h2.2 a (by omega)) h2.1.2⟩))
  · have no : P_X10_deny 2 v (fun r v1 => (r = 0 ∨ r = 1) ∧ P_X11_drop x v1 (fun r' v2 => r = r' ∧ Inv (t + 1) v2)) := by
      refine den_two (k := 2) (fM := fun v q => P_X11_drop x v q) hA hT ht hX hM (by omega) (fun v1 q m1 hr => ?_)
      unfold P_X11_drop
      rw [m1.1.1.1]
      exact S_isNodeM hA.1 m1.1.1 (fun _ => ⟨fun _ => hr, fun g => absurd rfl g⟩) (fun g1 => ⟨fun g => absurd g (by decide), fun _ => ⟨fun g2 => absurd ⟨g1, g2⟩ hx, fun _ => hr⟩⟩)
    unfold P_X10_drop
    rw [hX.1.1.1]
    exact S_isNode hX.1.1 (fun _ => ⟨fun _ => no, fun g => absurd rfl g⟩) (fun g1 => ⟨fun g => absurd g (by decide), fun _ => ⟨fun g2 => absurd ⟨g1, g2⟩ hx, fun _ => no⟩⟩)
end Drop

/-! ===== walks and what they cost ===== -/
def nbp (L : List Ln) (b a p : Int) : Prop := ∃ k : Int, 0 ≤ k ∧ k < L.length ∧ ((lo L k = b ∧ hi L k = a) ∨ (lo L k = a ∧ hi L k = b)) ∧ pr L k = p
def cwk (f : Int → Int → Int) (L : List Ln) (t : Int) : Nat → Int → Int → Prop
  | 0, a, c => a = t ∧ c = 0
  | k + 1, a, c => ∃ b c' p, nbp L b a p ∧ cwk f L t k b c' ∧ c = f c' p
def okf (f : Int → Int → Int) : Prop := (∀ c c' p, c ≤ c' → f c p ≤ f c' p) ∧ (∀ c p, 0 ≤ c → 1 ≤ p → c ≤ f c p) ∧ ∀ c p, 0 ≤ c → 1 ≤ p → f c p ≤ c + p
theorem okf_add : okf (fun c p => c + p) := ⟨fun c c' p h => by show c + p ≤ c' + p; omega, fun c p h h2 => by show c ≤ c + p; omega, fun c p h h2 => Int.le_refl _⟩
theorem okf_max : okf (fun c p => max c p) := ⟨fun c c' p h => by show max c p ≤ max c' p; omega, fun c p h h2 => by show c ≤ max c p; omega, fun c p h h2 => by show max c p ≤ c + p; omega⟩
section Cost
variable {n t : Int} {L : List Ln} {f : Int → Int → Int}
theorem nbp_adj {b a p : Int} (h : nbp L b a p) : adj L b a := by
  obtain ⟨k, k0, k1, k2, -⟩ := h
  exact ⟨k, k0, k1, k2⟩
theorem nbp_r (w : wfL n L) {b a p : Int} (h : nbp L b a p) : 1 ≤ p ∧ p ≤ 9 := by
  obtain ⟨k, k0, k1, -, k3⟩ := h
  have := w.1 k k0 k1
  omega
theorem nbp_symm {b a p : Int} (h : nbp L b a p) : nbp L a b p := by
  obtain ⟨k, k0, k1, k2, k3⟩ := h
  exact ⟨k, k0, k1, k2.symm, k3⟩
theorem adj_nbp {b a : Int} (h : adj L b a) : ∃ p, nbp L b a p := by
  obtain ⟨k, k0, k1, k2⟩ := h
  exact ⟨_, k, k0, k1, k2, rfl⟩
theorem cwk_in (w : wfL n L) (ht : 0 ≤ t ∧ t < n) : ∀ {k : Nat} {a c : Int}, cwk f L t k a c → 0 ≤ a ∧ a < n
  | 0, a, c, h => by rw [h.1]; exact ht
  | k + 1, a, c, ⟨b, c', p, h1, _, _⟩ => by have := adj_in w (nbp_adj h1); omega
theorem cwk_r (w : wfL n L) (hf : okf f) : ∀ {k : Nat} {a c : Int}, cwk f L t k a c → 0 ≤ c ∧ c ≤ 9 * (k : Int)
  | 0, a, c, h => by rw [h.2]; omega
  | k + 1, a, c, ⟨b, c', p, h1, h2, h3⟩ => by
    have i1 := cwk_r w hf h2
    have p1 := nbp_r w h1
    have m1 := hf.2.1 c' p i1.1 p1.1
    have m2 := hf.2.2 c' p i1.1 p1.1
    rw [h3]; omega
theorem cwk_ex {a : Int} (h : ∃ k, wk L k t a) : ∃ k c, cwk f L t k a c := by
  obtain ⟨k, h⟩ := h
  refine ⟨k, ?_⟩
  induction k generalizing a with
  | zero => exact ⟨0, h.symm, rfl⟩
  | succ k ih =>
    obtain ⟨b, h1, h2⟩ := h
    obtain ⟨c', h3⟩ := ih h1
    obtain ⟨p, h4⟩ := adj_nbp h2
    exact ⟨_, b, c', p, h4, h3, rfl⟩
theorem cwk_seq : ∀ {k : Nat} {a c : Int}, cwk f L t k a c → ∃ (p cs : Nat → Int), p k = a ∧ cs k = c ∧ (∀ i, i ≤ k → cwk f L t i (p i) (cs i)) ∧ ∀ i, i < k → ∃ e, nbp L (p i) (p (i + 1)) e ∧ cs (i + 1) = f (cs i) e
  | 0, a, c, h => ⟨fun _ => a, fun _ => c, rfl, rfl, fun i hi' => by rw [show i = 0 by omega]; exact h, fun i hi' => by omega⟩
  | k + 1, a, c, ⟨b, c', e, h1, h2, h3⟩ => by
    obtain ⟨p, cs, q1, q2, q3, q4⟩ := cwk_seq h2
    refine ⟨fun i => if i = k + 1 then a else p i, fun i => if i = k + 1 then c else cs i, if_pos rfl, if_pos rfl, fun i hi' => ?_, fun i hi' => ?_⟩
    · by_cases e1 : i = k + 1
      · show cwk f L t i (if i = k + 1 then a else p i) (if i = k + 1 then c else cs i)
        rw [if_pos e1, if_pos e1, e1]; exact ⟨b, c', e, h1, h2, h3⟩
      · show cwk f L t i (if i = k + 1 then a else p i) (if i = k + 1 then c else cs i)
        rw [if_neg e1, if_neg e1]; exact q3 i (by omega)
    · show ∃ e, nbp L (if i = k + 1 then a else p i) (if i + 1 = k + 1 then a else p (i + 1)) e ∧ (if i + 1 = k + 1 then c else cs (i + 1)) = f (if i = k + 1 then c else cs i) e
      rw [if_neg (show ¬ i = k + 1 by omega), if_neg (show ¬ i = k + 1 by omega)]
      by_cases e2 : i + 1 = k + 1
      · rw [if_pos e2, if_pos e2, show i = k by omega, q1, q2]
        exact ⟨e, h1, h3⟩
      · rw [if_neg e2, if_neg e2]; exact q4 i (by omega)
theorem cwk_short (w : wfL n L) (hf : okf f) (ht : 0 ≤ t ∧ t < n) : ∀ (k : Nat) {a c : Int}, cwk f L t k a c → ∃ (k' : Nat) (c' : Int), (k' : Int) < n ∧ c' ≤ c ∧ cwk f L t k' a c' := by
  intro k
  induction k using Nat.strongRecOn with
  | _ k ih =>
    intro a c h
    by_cases hk : (k : Int) < n
    · exact ⟨k, c, hk, Int.le_refl c, h⟩
    · obtain ⟨p, cs, q1, q2, q3, q4⟩ := cwk_seq h
      obtain ⟨i, j, hij, hj, e⟩ := fb_twice (m := n.toNat) (n := k + 1) (f := fun i => (p i).toNat) (fun i hi' => by have := cwk_in w ht (q3 i (by omega)); show (p i).toNat < n.toNat; omega) (by omega)
      have e : (p i).toNat = (p j).toNat := e
      have pij : p i = p j := by
        have h1 := cwk_in w ht (q3 i (by omega))
        have h2 := cwk_in w ht (q3 j (by omega))
        omega
      have mono : ∀ r, i + r ≤ k → cs i ≤ cs (i + r) := by
        intro r
        induction r with
        | zero => intro _; exact Int.le_refl _
        | succ r ih2 =>
          intro hr
          have h1 := ih2 (by omega)
          obtain ⟨e, h2, h3⟩ := q4 (i + r) (by omega)
          have h4 := hf.2.1 (cs (i + r)) e (cwk_r w hf (q3 (i + r) (by omega))).1 (nbp_r w h2).1
          rw [← h3] at h4
          show cs i ≤ cs (i + r + 1)
          omega
      have spl : ∀ r, j + r ≤ k → ∃ c', c' ≤ cs (j + r) ∧ cwk f L t (i + r) (p (j + r)) c' := by
        intro r
        induction r with
        | zero => intro _; exact ⟨cs i, by have := mono (j - i) (by omega); rwa [show i + (j - i) = j by omega] at this, by rw [show p (j + 0) = p i from pij.symm]; exact q3 i (by omega)⟩
        | succ r ih2 =>
          intro hr
          obtain ⟨c', h1, h2⟩ := ih2 (by omega)
          obtain ⟨e, h3, h4⟩ := q4 (j + r) (by omega)
          refine ⟨f c' e, ?_, p (j + r), c', e, h3, h2, rfl⟩
          have := hf.1 c' (cs (j + r)) e h1
          rw [← h4] at this
          exact this
      obtain ⟨c', h1, h2⟩ := spl (k - j) (by omega)
      rw [show j + (k - j) = k by omega, q1] at h2
      rw [show j + (k - j) = k by omega, q2] at h1
      obtain ⟨k'', c'', g1, g2, g3⟩ := ih (i + (k - j)) (by omega) h2
      exact ⟨k'', c'', g1, by omega, g3⟩
/-- the least cost -/
def isL (f : Int → Int → Int) (L : List Ln) (t a c : Int) : Prop := (∃ k, cwk f L t k a c) ∧ ∀ k c', cwk f L t k a c' → c ≤ c'
theorem isL_one {a c c' : Int} (h : isL f L t a c) (h' : isL f L t a c') : c = c' := by
  obtain ⟨⟨k, h1⟩, h2⟩ := h
  obtain ⟨⟨k', h1'⟩, h2'⟩ := h'
  have a1 := h2 k' c' h1'
  have a2 := h2' k c h1
  omega
theorem isL_n (w : wfL n L) (hf : okf f) (ht : 0 ≤ t ∧ t < n) {a c : Int} (h1 : ∃ k, cwk f L t k a c) (h2 : ∀ (k : Nat) (c' : Int), (k : Int) < n → cwk f L t k a c' → c ≤ c') : isL f L t a c := by
  refine ⟨h1, fun k c' h => ?_⟩
  obtain ⟨k', c'', g1, g2, g3⟩ := cwk_short w hf ht k h
  have := h2 k' c'' g1 g3
  omega
theorem fix_le (w : wfL n L) (hf : okf f) {V : Int → Int} {cap : Int} (h0 : V t ≤ 0) (hc : ∀ b a p, nbp L b a p → V a ≤ cap) (hs : ∀ b a p, nbp L b a p → V b < cap → V a ≤ f (V b) p) : ∀ {k : Nat} {a c : Int}, cwk f L t k a c → V a ≤ c
  | 0, a, c, h => by rw [h.1, h.2]; exact h0
  | k + 1, a, c, ⟨b, c', p, h1, h2, h3⟩ => by
    have i1 := fix_le w hf h0 hc hs h2
    have r1 := cwk_r w hf h2
    have p1 := nbp_r w h1
    have m1 := hf.1 (V b) c' p i1
    have m2 := hf.2.1 c' p r1.1 p1.1
    have m3 := hc b a p h1
    by_cases e : V b < cap
    · have := hs b a p h1 e
      rw [h3]; omega
    · rw [h3]; omega
end Cost

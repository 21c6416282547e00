/-! ===== lines of a network; walks; how far nodes are from one another ===== -/
abbrev Ln : Type := Int × Int × Int
def lo (L : List Ln) (k : Int) : Int := (L.getD k.toNat (0, 0, 0)).1
def hi (L : List Ln) (k : Int) : Int := (L.getD k.toNat (0, 0, 0)).2.1
def pr (L : List Ln) (k : Int) : Int := (L.getD k.toNat (0, 0, 0)).2.2
def wfL (n : Int) (L : List Ln) : Prop :=
  (∀ k : Int, 0 ≤ k → k < L.length → 0 ≤ lo L k ∧ lo L k < hi L k ∧ hi L k < n ∧ 1 ≤ pr L k ∧ pr L k ≤ 9) ∧
  (∀ i j : Int, 0 ≤ i → i < L.length → 0 ≤ j → j < L.length → lo L i = lo L j → hi L i = hi L j → i = j) ∧ L.length ≤ 60
def adj (L : List Ln) (a b : Int) : Prop := ∃ k : Int, 0 ≤ k ∧ k < L.length ∧ ((lo L k = a ∧ hi L k = b) ∨ (lo L k = b ∧ hi L k = a))
theorem adj_symm {L : List Ln} {a b : Int} (h : adj L a b) : adj L b a := by
  obtain ⟨k, h1, h2, h3⟩ := h
  exact ⟨k, h1, h2, h3.symm⟩
theorem adj_in {n : Int} {L : List Ln} (w : wfL n L) {a b : Int} (h : adj L a b) : 0 ≤ a ∧ a < n ∧ 0 ≤ b ∧ b < n ∧ a ≠ b := by
  obtain ⟨k, h1, h2, h3⟩ := h
  have := w.1 k h1 h2
  omega
def wk (L : List Ln) : Nat → Int → Int → Prop
  | 0, a, b => a = b
  | k + 1, a, b => ∃ c, wk L k a c ∧ adj L c b
theorem wk_add {L : List Ln} {j : Nat} {a b : Int} (h : wk L j a b) : ∀ {k : Nat} {c : Int}, wk L k b c → wk L (j + k) a c
  | 0, c, h2 => by cases (h2 : b = c); exact h
  | k + 1, c, ⟨e, h2, h3⟩ => ⟨e, wk_add h h2, h3⟩
theorem wk_one {L : List Ln} {a b : Int} (h : adj L a b) : wk L 1 a b := ⟨a, rfl, h⟩
theorem wk_symm {L : List Ln} : ∀ {k : Nat} {a b : Int}, wk L k a b → wk L k b a
  | 0, a, b, h => by cases (h : a = b); rfl
  | k + 1, a, b, ⟨c, h1, h2⟩ => by
    have := wk_add (wk_one (adj_symm h2)) (wk_symm h1)
    rwa [Nat.add_comm] at this
theorem ex_least {p : Nat → Prop} (h : ∃ k, p k) : ∃ k, p k ∧ ∀ j, j < k → ¬ p j := by
  obtain ⟨k, hk⟩ := h
  have : ∀ n, ∀ k, k ≤ n → p k → ∃ k, p k ∧ ∀ j, j < k → ¬ p j := by
    intro n
    induction n with
    | zero =>
      intro k hk hp
      exact ⟨k, hp, fun j hj => absurd hj (by omega)⟩
    | succ n ih =>
      intro k hk hp
      by_cases hq : ∃ j, j < k ∧ p j
      · obtain ⟨j, hj, hpj⟩ := hq
        exact ih j (by omega) hpj
      · exact ⟨k, hp, fun j hj hpj => hq ⟨j, hj, hpj⟩⟩
  exact this k k (Nat.le_refl k) hk
theorem dd_ex (L : List Ln) (a b : Int) : ∃ x : Int, (x = -1 ∧ ∀ k, ¬ wk L k a b) ∨ ∃ k : Nat, x = (k : Int) ∧ wk L k a b ∧ ∀ j, j < k → ¬ wk L j a b := by
  by_cases h : ∃ k, wk L k a b
  · obtain ⟨k, h1, h2⟩ := ex_least h
    exact ⟨(k : Int), Or.inr ⟨k, rfl, h1, h2⟩⟩
  · exact ⟨-1, Or.inl ⟨rfl, fun k hk => h ⟨k, hk⟩⟩⟩
noncomputable def dd (L : List Ln) (a b : Int) : Int := Classical.choose (dd_ex L a b)
theorem dd_spec (L : List Ln) (a b : Int) : (dd L a b = -1 ∧ ∀ k, ¬ wk L k a b) ∨ ∃ k : Nat, dd L a b = (k : Int) ∧ wk L k a b ∧ ∀ j, j < k → ¬ wk L j a b := Classical.choose_spec (dd_ex L a b)
section DD
variable {L : List Ln} {a b c : Int}
theorem dd_ge : -1 ≤ dd L a b := by rcases dd_spec L a b with h | ⟨k, h, -⟩ <;> omega
theorem dd_le {k : Nat} (h : wk L k a b) : 0 ≤ dd L a b ∧ dd L a b ≤ k := by
  rcases dd_spec L a b with h1 | ⟨j, h1, h2, h3⟩
  · exact absurd h (h1.2 k)
  · refine ⟨by omega, ?_⟩
    by_cases hlt : k < j
    · exact absurd h (h3 k hlt)
    · omega
theorem dd_wk (h : 0 ≤ dd L a b) : wk L (dd L a b).toNat a b := by
  rcases dd_spec L a b with h1 | ⟨j, h1, h2, h3⟩
  · omega
  · rw [h1]; exact h2
theorem dd_eq {k : Nat} (h : wk L k a b) (h2 : ∀ j, j < k → ¬ wk L j a b) : dd L a b = k := by
  have h1 := dd_le h
  have h3 := dd_wk h1.1
  by_cases hlt : (dd L a b).toNat < k
  · exact absurd h3 (h2 _ hlt)
  · omega
theorem dd_self : dd L a a = 0 := dd_eq (k := 0) rfl (fun j hj => absurd hj (by omega))
theorem dd_zero (h : dd L a b = 0) : a = b := by
  have := dd_wk (L := L) (a := a) (b := b) (by omega)
  rw [h] at this
  exact this
theorem dd_symm : dd L a b = dd L b a := by
  rcases dd_spec L b a with h1 | ⟨j, h1, h2, h3⟩
  · rcases dd_spec L a b with g1 | ⟨i, g1, g2, g3⟩
    · rw [h1.1, g1.1]
    · exact absurd (wk_symm g2) (h1.2 _)
  · rw [h1]
    exact dd_eq (wk_symm h2) (fun i hi hw => h3 i hi (wk_symm hw))
theorem dd_tri (h1 : 0 ≤ dd L a b) (h2 : 0 ≤ dd L b c) : 0 ≤ dd L a c ∧ dd L a c ≤ dd L a b + dd L b c := by
  have := dd_le (wk_add (dd_wk h1) (dd_wk h2))
  omega
theorem dd_adj1 (h : adj L a b) : 0 ≤ dd L a b ∧ dd L a b ≤ 1 := dd_le (wk_one h)
theorem dd_one {n : Int} (w : wfL n L) : dd L a b = 1 ↔ adj L a b := by
  constructor
  · intro h
    have h1 := dd_wk (L := L) (a := a) (b := b) (by omega)
    rw [h] at h1
    obtain ⟨c, h2, h3⟩ := h1
    cases (h2 : a = c)
    exact h3
  · intro h
    have h1 := dd_adj1 h
    have h2 : dd L a b ≠ 0 := fun e => (adj_in w h).2.2.2.2 (dd_zero e)
    omega
theorem dd_prev {k : Int} (hk : 0 ≤ k) (h : dd L a b = k + 1) : ∃ c, dd L a c = k ∧ adj L c b := by
  have h1 := dd_wk (L := L) (a := a) (b := b) (by omega)
  rw [h, show (k + 1).toNat = k.toNat + 1 by omega] at h1
  obtain ⟨c, h2, h3⟩ := h1
  refine ⟨c, ?_, h3⟩
  have h4 := dd_le h2
  have h5 := dd_adj1 h3
  have h6 := dd_tri h4.1 h5.1
  omega
theorem dd_next (h : adj L b c) (h1 : 0 ≤ dd L a b) : 0 ≤ dd L a c ∧ dd L a c ≤ dd L a b + 1 := by
  have h2 := dd_adj1 h
  have := dd_tri h1 h2.1
  omega
theorem dd_in {n : Int} (w : wfL n L) (ha : 0 ≤ a ∧ a < n) (h : 0 ≤ dd L a b) : 0 ≤ b ∧ b < n := by
  by_cases h0 : dd L a b = 0
  · rw [← dd_zero h0]; exact ha
  · obtain ⟨c, -, h2⟩ := dd_prev (L := L) (a := a) (b := b) (k := dd L a b - 1) (by omega) (by omega)
    have := adj_in w h2
    omega
theorem dd_lev (k : Nat) : ∀ (b : Int), dd L a b = (k : Int) → ∀ i : Nat, i ≤ k → ∃ c, dd L a c = (i : Int) := by
  induction k with
  | zero => intro b h i hi; exact ⟨b, by rw [h]; omega⟩
  | succ k ih =>
    intro b h i hi
    by_cases e : i = k + 1
    · exact ⟨b, by rw [h, e]⟩
    · obtain ⟨c, h1, -⟩ := dd_prev (L := L) (a := a) (b := b) (k := (k : Int)) (by omega) (by rw [h]; omega)
      exact ih c h1 i (by omega)
theorem dd_lt {n : Int} (w : wfL n L) (ha : 0 ≤ a ∧ a < n) : dd L a b < n := by
  by_cases h0 : 0 ≤ dd L a b
  · obtain ⟨k, hk⟩ : ∃ k : Nat, dd L a b = (k : Int) := ⟨(dd L a b).toNat, by omega⟩
    have hl := dd_lev k b hk
    have hf : ∃ f : Nat → Nat, ∀ i, i ≤ k → dd L a (f i : Int) = (i : Int) ∧ f i < n.toNat := by
      have : ∀ i : Nat, ∃ m : Nat, i ≤ k → dd L a (m : Int) = (i : Int) ∧ m < n.toNat := by
        intro i
        by_cases hi : i ≤ k
        · obtain ⟨c, hc⟩ := hl i hi
          have hin := dd_in (L := L) w ha (b := c) (by omega)
          exact ⟨c.toNat, fun _ => ⟨by rw [Int.toNat_of_nonneg hin.1]; exact hc, by omega⟩⟩
        · exact ⟨0, fun h => absurd h hi⟩
      exact Classical.axiomOfChoice this
    obtain ⟨f, hf⟩ := hf
    have := fb_holes n.toNat (k + 1) f (fun i hi => (hf i (by omega)).2) (fun i j hij hj e => by
      have h1 := (hf i (by omega)).1
      have h2 := (hf j (by omega)).1
      rw [e] at h1
      omega)
    omega
  · omega
end DD

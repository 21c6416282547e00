/-! ===== a net's text: what it tells ===== -/
def isSk (m : Int) (b : Int → Int) (p p' : Int) : Prop := (p ≤ p' ∧ p' ≤ m) ∧ (∀ i : Int, p ≤ i → i < p' → b i = 32 ∨ b i = 10) ∧ (p' = m ∨ (b p' ≠ 32 ∧ b p' ≠ 10))
noncomputable def sk (m : Int) (b : Int → Int) (p : Int) : Int := Classical.epsilon (isSk m b p)
noncomputable def rn (m : Int) (b : Int → Int) (p : Int) : Nat := Classical.epsilon (isRun m b p)
section Parse
variable {m p : Int} {b : Int → Int}
theorem isSk_one {p' p'' : Int} (h : isSk m b p p') (h' : isSk m b p p'') : p' = p'' := by
  have key : ∀ {x y : Int}, isSk m b p x → isSk m b p y → ¬ x < y := by
    intro x y hx hy hlt
    rcases hx.2.2 with e | ⟨e1, e2⟩
    · have := hy.1.2; omega
    · rcases hy.2.1 x hx.1.1 hlt with g | g
      · exact e1 g
      · exact e2 g
  have := key h h'
  have := key h' h
  omega
theorem sk_is {p' : Int} (h : isSk m b p p') : sk m b p = p' := isSk_one (Classical.epsilon_spec (p := isSk m b p) ⟨p', h⟩) h
theorem isSk_ex (h : p ≤ m) : ∃ p', isSk m b p p' := by
  obtain ⟨k, k1, k2⟩ := ex_least (p := fun k : Nat => p + (k : Int) = m ∨ (b (p + (k : Int)) ≠ 32 ∧ b (p + (k : Int)) ≠ 10)) ⟨(m - p).toNat, Or.inl (by omega)⟩
  have hle : ∀ j : Nat, j ≤ k → p + (j : Int) ≤ m := by
    intro j
    induction j with
    | zero => intro _; omega
    | succ j ih =>
      intro hj
      have h1 := ih (by omega)
      have h2 : p + (j : Int) ≠ m := fun e => k2 j (by omega) (Or.inl e)
      omega
  refine ⟨p + (k : Int), ⟨by omega, hle k (Nat.le_refl _)⟩, fun i i0 i1 => ?_, k1⟩
  have := k2 (i - p).toNat (by omega)
  rw [show p + ((i - p).toNat : Int) = i by omega] at this
  by_cases e1 : b i = 32
  · exact Or.inl e1
  · by_cases e2 : b i = 10
    · exact Or.inr e2
    · exact absurd (Or.inr ⟨e1, e2⟩) this
theorem sk_spec (h : p ≤ m) : isSk m b p (sk m b p) := Classical.epsilon_spec (p := isSk m b p) (isSk_ex h)
theorem sk_r (h : p ≤ m) : p ≤ sk m b p ∧ sk m b p ≤ m := (sk_spec h).1
theorem sk_sk (h : p ≤ m) : sk m b (sk m b p) = sk m b p := by
  have s := sk_spec (b := b) h
  exact sk_is ⟨⟨Int.le_refl _, s.1.2⟩, fun i i0 i1 => by omega, s.2.2⟩
theorem rn_is {k : Nat} (h : isRun m b p k) : rn m b p = k := isRun_one (Classical.epsilon_spec (p := isRun m b p) ⟨k, h⟩) h
theorem rn_spec (h : p ≤ m) : isRun m b p (rn m b p) := Classical.epsilon_spec (p := isRun m b p) (isRun_ex b h)
theorem rn_zero (h : p ≤ m) : rn m b p = 0 ↔ (p = m ∨ ¬ isLt (b p)) := by
  have s := rn_spec (b := b) h
  constructor
  · intro e
    rw [e] at s
    have := s.2.2
    rw [show p + ((0 : Nat) : Int) = p by omega] at this
    exact this
  · intro e
    exact rn_is ⟨by omega, fun i hi' => by omega, by rw [show p + ((0 : Nat) : Int) = p by omega]; exact e⟩
/-- one of the two words of the text itself -/
def wdw (k : Nat) (m : Int) (b : Int → Int) (p : Int) : Prop := (rn m b p : Int) = sLen k ∧ ∀ i : Int, 0 ≤ i → i < sLen k → b (p + i) = sAt k i.toNat
noncomputable def own (m : Int) (b : Int → Int) (p : Int) : Int := @ite _ (wdw 1 m b p) (Classical.propDecidable _) 0 (@ite _ (wdw 2 m b p) (Classical.propDecidable _) 1 (-1))
theorem wd_not : ¬ (wdw 1 m b p ∧ wdw 2 m b p) := fun ⟨h1, h2⟩ => by
  have e1 := h1.1
  have e2 := h2.1
  have s1 : sLen 1 = 5 := rfl
  have s2 : sLen 2 = 3 := rfl
  omega
theorem own_0 : own m b p = 0 ↔ wdw 1 m b p := by
  unfold own
  by_cases h : wdw 1 m b p
  · rw [if_pos h]; exact ⟨fun _ => h, fun _ => rfl⟩
  · rw [if_neg h]
    by_cases h2 : wdw 2 m b p
    · rw [if_pos h2]; exact ⟨fun g => absurd g (by decide), fun g => absurd g h⟩
    · rw [if_neg h2]; exact ⟨fun g => absurd g (by decide), fun g => absurd g h⟩
theorem own_1 : own m b p = 1 ↔ wdw 2 m b p := by
  unfold own
  by_cases h : wdw 1 m b p
  · rw [if_pos h]; exact ⟨fun g => absurd g (by decide), fun g => absurd ⟨h, g⟩ wd_not⟩
  · rw [if_neg h]
    by_cases h2 : wdw 2 m b p
    · rw [if_pos h2]; exact ⟨fun _ => h2, fun _ => rfl⟩
    · rw [if_neg h2]; exact ⟨fun g => absurd g (by decide), fun g => absurd g h2⟩
theorem own_n : own m b p = -1 ↔ ¬ wdw 1 m b p ∧ ¬ wdw 2 m b p := by
  unfold own
  by_cases h : wdw 1 m b p
  · rw [if_pos h]; exact ⟨fun g => absurd g (by decide), fun g => absurd h g.1⟩
  · rw [if_neg h]
    by_cases h2 : wdw 2 m b p
    · rw [if_pos h2]; exact ⟨fun g => absurd g (by decide), fun g => absurd h2 g.2⟩
    · rw [if_neg h2]; exact ⟨fun _ => ⟨h, h2⟩, fun _ => rfl⟩
def sgn (m : Int) (b : Int → Int) (p : Int) : Int := if p < m then b p else -1
def addN (A : Net) (w : List Int) : Net := (A.1 + 1, A.2.1, fun i => if i = A.1 then w else A.2.2 i)
abbrev Flt : Type := Int × Int
/-- what a name told at p0 does -/
noncomputable def ndS (m : Int) (b : Int → Int) (way : Bool) (p0 : Int) (A : Net) (last j : Int) : Flt ⊕ (Net × Int) :=
  if j = 24 then .inl (if p0 < m then 5 else 1, p0)
  else if rn m b p0 = 0 ∨ own m b p0 ≠ -1 then .inl (1, p0)
  else if 4 < rn m b p0 then .inl (1, p0 + 4)
  else if way = false then (if fN A.1 A.2.2 (wrd b p0 (rn m b p0)) ≠ -1 then .inl (3, p0) else .inr (addN A (wrd b p0 (rn m b p0)), -1))
  else if fN A.1 A.2.2 (wrd b p0 (rn m b p0)) = -1 then .inl (3, p0)
  else @ite _ (0 < j ∧ (fN A.1 A.2.2 (wrd b p0 (rn m b p0)) = last ∨ adj A.2.1 last (fN A.1 A.2.2 (wrd b p0 (rn m b p0))))) (Classical.propDecidable _) (.inl (4, p0))
    (if 0 < j ∧ A.2.1.length = 60 then .inl (5, p0) else .inr (if 0 < j then netJ A last (fN A.1 A.2.2 (wrd b p0 (rn m b p0))) else A, fN A.1 A.2.2 (wrd b p0 (rn m b p0))))
noncomputable def rowF (m : Int) (b : Int → Int) (way : Bool) : Nat → Int → Net → Int → Int → Flt ⊕ (Int × Net)
  | 0, _, _, _, _ => .inl (1, 0)
  | f + 1, p, A, last, j => match ndS m b way (sk m b p) A last j with
    | .inl e => .inl e
    | .inr (A', x) =>
      if sgn m b (sk m b (sk m b p + (rn m b (sk m b p) : Int))) = 44 then rowF m b way f (sk m b (sk m b p + (rn m b (sk m b p) : Int)) + 1) A' x (j + 1)
      else if sgn m b (sk m b (sk m b p + (rn m b (sk m b p) : Int))) = 59 ∧ (way = true → 1 ≤ j) then .inr (sk m b (sk m b p + (rn m b (sk m b p) : Int)) + 1, A')
      else .inl (1, sk m b (sk m b p + (rn m b (sk m b p) : Int)))
noncomputable def rowR (m : Int) (b : Int → Int) (way : Bool) (p : Int) (A : Net) : Flt ⊕ (Int × Net) :=
  if own m b (sk m b p) = (if way = true then 1 else 0) then rowF m b way 25 (sk m b p + (rn m b (sk m b p) : Int)) A (-1) 0 else .inl (1, sk m b p)
noncomputable def netR (m : Int) (b : Int → Int) : Nat → Int → Net → Int → Flt ⊕ (Net × Int)
  | 0, _, A, s => .inr (A, s)
  | f + 1, p, A, s => if m ≤ sk m b p then .inr (A, s) else match rowR m b true (sk m b p) A with
    | .inl e => .inl e
    | .inr (p', A') => netR m b f p' A' (s + 1)
noncomputable def netT (m : Int) (b : Int → Int) : Flt ⊕ (Net × Int) := match rowR m b false 0 nil0 with
  | .inl e => .inl e
  | .inr (p, A) => netR m b 801 p A 1
/-! ===== what is so all along ===== -/
/-- a network as it grows in a row: nodes are as many as names were told, or the ahead one is a node -/
def okJ (way : Bool) (A : Net) (last j : Int) : Prop := okNet A ∧ (0 ≤ j ∧ j ≤ 24) ∧ (way = false → A.1 = j) ∧ (way = true → 0 < j → 0 ≤ last ∧ last < A.1)
theorem okNet_N {A : Net} {w : List Int} (hA : okNet A) (h : A.1 < 24) (hw : okN w) : okNet (addN A w) := by
  have := hA.1
  refine ⟨by show 0 ≤ A.1 + 1 ∧ A.1 + 1 ≤ 24; omega, wfL_up hA.2.1 (by show A.1 ≤ A.1 + 1; omega), fun i i0 i1 => ?_⟩
  have i1' : i < A.1 + 1 := i1
  show okN (if i = A.1 then w else A.2.2 i)
  split
  · exact hw
  · exact hA.2.2 i i0 (by omega)
theorem ndS_ok {way : Bool} {p0 : Int} {A A' : Net} {last j x : Int} (hp : p0 ≤ m) (h : okJ way A last j) (e : ndS m b way p0 A last j = .inr (A', x)) : okJ way A' x (j + 1) ∧ 0 < rn m b p0 ∧ j < 24 := by
  obtain ⟨hA, hj, h1, h2⟩ := h
  have hr := rn_spec (b := b) hp
  unfold ndS at e
  by_cases c1 : j = 24
  · rw [if_pos c1] at e; cases e
  rw [if_neg c1] at e
  by_cases c2 : rn m b p0 = 0 ∨ own m b p0 ≠ -1
  · rw [if_pos c2] at e; cases e
  rw [if_neg c2] at e
  by_cases c3 : 4 < rn m b p0
  · rw [if_pos c3] at e; cases e
  rw [if_neg c3] at e
  have hpos : 0 < rn m b p0 := by
    rcases Nat.eq_zero_or_pos (rn m b p0) with g | g
    · exact absurd (Or.inl g) c2
    · exact g
  have hw : okN (wrd b p0 (rn m b p0)) := wrd_ok (by omega) hr.2.1
  refine ⟨?_, hpos, by omega⟩
  cases way with
  | false =>
    rw [if_pos rfl] at e
    by_cases c4 : fN A.1 A.2.2 (wrd b p0 (rn m b p0)) ≠ -1
    · rw [if_pos c4] at e; cases e
    · rw [if_neg c4] at e
      cases e
      have := h1 rfl
      exact ⟨okNet_N hA (by omega) hw, by omega, fun _ => by show A.1 + 1 = j + 1; omega, fun g => by cases g⟩
  | true =>
    rw [if_neg (by decide)] at e
    have hfn := fN_r A.1 A.2.2 (wrd b p0 (rn m b p0))
    by_cases c4 : fN A.1 A.2.2 (wrd b p0 (rn m b p0)) = -1
    · rw [if_pos c4] at e; cases e
    rw [if_neg c4] at e
    have hx : 0 ≤ fN A.1 A.2.2 (wrd b p0 (rn m b p0)) ∧ fN A.1 A.2.2 (wrd b p0 (rn m b p0)) < A.1 := by
      rcases hfn with g | g
      · exact absurd g.1 c4
      · exact g.1
    by_cases c5 : 0 < j ∧ (fN A.1 A.2.2 (wrd b p0 (rn m b p0)) = last ∨ adj A.2.1 last (fN A.1 A.2.2 (wrd b p0 (rn m b p0))))
    · rw [if_pos c5] at e; cases e
    rw [if_neg c5] at e
    by_cases c6 : 0 < j ∧ A.2.1.length = 60
    · rw [if_pos c6] at e; cases e
    rw [if_neg c6] at e
    cases e
    have hlen := hA.2.1.2.2
    by_cases c7 : 0 < j
    · rw [if_pos c7]
      have hl := h2 rfl c7
      refine ⟨okNet_J hA ⟨hl, hx, fun g => c5 ⟨c7, Or.inl g.symm⟩, ?_, fun g => c5 ⟨c7, Or.inr g⟩⟩, by omega, fun g => (by cases g), fun _ _ => hx⟩
      have : A.2.1.length ≠ 60 := fun g => c6 ⟨c7, g⟩
      omega
    · rw [if_neg c7]
      exact ⟨hA, by omega, fun g => (by cases g), fun _ _ => hx⟩
theorem ndS_bad {way : Bool} {p0 : Int} {A : Net} {last j : Int} {e : Flt} (h : ndS m b way p0 A last j = .inl e) : e.1 ≠ 0 := by
  unfold ndS at h
  split at h
  · cases h; show (if p0 < m then (5 : Int) else 1) ≠ 0; split <;> decide
  split at h
  · cases h; exact (by decide : (1 : Int) ≠ 0)
  split at h
  · cases h; exact (by decide : (1 : Int) ≠ 0)
  split at h
  · split at h
    · cases h; exact (by decide : (3 : Int) ≠ 0)
    · cases h
  split at h
  · cases h; exact (by decide : (3 : Int) ≠ 0)
  split at h
  · cases h; exact (by decide : (4 : Int) ≠ 0)
  split at h
  · cases h; exact (by decide : (5 : Int) ≠ 0)
  · cases h
theorem sgn_lt {p : Int} (h : sgn m b p ≠ -1) : p < m := by
  unfold sgn at h
  split at h
  · assumption
  · exact absurd rfl h
theorem rowF_ok {way : Bool} : ∀ (f : Nat) {p p' : Int} {A A' : Net} {last j : Int}, 0 ≤ p → p ≤ m → okJ way A last j → rowF m b way f p A last j = .inr (p', A') → okNet A' ∧ p < p' ∧ p' ≤ m
  | 0, _, _, _, _, _, _, _, _, _, e => by cases e
  | f + 1, p, p', A, A', last, j, h0, hp, h, e => by
    have e' : (match ndS m b way (sk m b p) A last j with
      | .inl e => .inl e
      | .inr (A', x) =>
        if sgn m b (sk m b (sk m b p + (rn m b (sk m b p) : Int))) = 44 then rowF m b way f (sk m b (sk m b p + (rn m b (sk m b p) : Int)) + 1) A' x (j + 1)
        else if sgn m b (sk m b (sk m b p + (rn m b (sk m b p) : Int))) = 59 ∧ (way = true → 1 ≤ j) then .inr (sk m b (sk m b p + (rn m b (sk m b p) : Int)) + 1, A')
        else .inl (1, sk m b (sk m b p + (rn m b (sk m b p) : Int))) : Flt ⊕ (Int × Net)) = .inr (p', A') := e
    have s1 := sk_r (b := b) hp
    have r1 := rn_spec (b := b) s1.2
    have s2 := sk_r (b := b) r1.1
    cases en : ndS m b way (sk m b p) A last j with
    | inl er => rw [en] at e'; cases e'
    | inr ax =>
      obtain ⟨A2, x⟩ := ax
      rw [en] at e'
      have hn := ndS_ok s1.2 h en
      dsimp only at e'
      by_cases c1 : sgn m b (sk m b (sk m b p + (rn m b (sk m b p) : Int))) = 44
      · rw [if_pos c1] at e'
        have hlt := sgn_lt (m := m) (b := b) (p := sk m b (sk m b p + (rn m b (sk m b p) : Int))) (by rw [c1]; decide)
        have := rowF_ok f (by omega) (by omega) hn.1 e'
        exact ⟨this.1, by omega, this.2.2⟩
      · rw [if_neg c1] at e'
        by_cases c2 : sgn m b (sk m b (sk m b p + (rn m b (sk m b p) : Int))) = 59 ∧ (way = true → 1 ≤ j)
        · rw [if_pos c2] at e'
          have hlt := sgn_lt (m := m) (b := b) (p := sk m b (sk m b p + (rn m b (sk m b p) : Int))) (by rw [c2.1]; decide)
          cases e'
          exact ⟨hn.1.1, by omega, by omega⟩
        · rw [if_neg c2] at e'; cases e'
theorem rowR_ok {way : Bool} {p p' : Int} {A A' : Net} (h0 : 0 ≤ p) (hp : p ≤ m) (hA : okNet A) (hw : way = false → A.1 = 0) (e : rowR m b way p A = .inr (p', A')) : okNet A' ∧ p < p' ∧ p' ≤ m := by
  unfold rowR at e
  have s1 := sk_r (b := b) hp
  have r1 := rn_spec (b := b) s1.2
  by_cases c1 : own m b (sk m b p) = (if way = true then 1 else 0)
  · rw [if_pos c1] at e
    have := rowF_ok 25 (by omega) r1.1 ⟨hA, by omega, hw, fun _ g => by omega⟩ e
    exact ⟨this.1, by omega, this.2.2⟩
  · rw [if_neg c1] at e
    cases e
end Parse

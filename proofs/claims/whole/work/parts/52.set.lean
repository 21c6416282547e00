/-! ===== lists of lines by their members ===== -/
theorem lo_at {L : List Ln} {k : Nat} (h : k < L.length) : lo L (k : Int) = (L[k]).1 ∧ hi L (k : Int) = (L[k]).2.1 ∧ pr L (k : Int) = (L[k]).2.2 := by
  unfold lo hi pr
  rw [Int.toNat_natCast, List.getD_eq_getElem?_getD, List.getElem?_eq_getElem h]
  exact ⟨rfl, rfl, rfl⟩
theorem wfL_iff {n : Int} {L : List Ln} : wfL n L ↔ (∀ l ∈ L, 0 ≤ l.1 ∧ l.1 < l.2.1 ∧ l.2.1 < n ∧ 1 ≤ l.2.2 ∧ l.2.2 ≤ 9) ∧ L.Pairwise (fun l l' => ¬ (l.1 = l'.1 ∧ l.2.1 = l'.2.1)) ∧ L.length ≤ 60 := by
  constructor
  · rintro ⟨h1, h2, h3⟩
    refine ⟨fun l hl => ?_, ?_, h3⟩
    · obtain ⟨k, hk, e⟩ := List.getElem_of_mem hl
      have := h1 (k : Int) (by omega) (by omega)
      obtain ⟨a, b, c⟩ := lo_at hk
      rw [a, b, c, e] at this
      exact this
    · rw [List.pairwise_iff_getElem]
      intro i j hi' hj hij he
      have := h2 (i : Int) (j : Int) (by omega) (by omega) (by omega) (by omega)
      obtain ⟨a, b, c⟩ := lo_at hi'
      obtain ⟨a', b', c'⟩ := lo_at hj
      rw [a, b, a', b'] at this
      have := this he.1 he.2
      omega
  · rintro ⟨h1, h2, h3⟩
    rw [List.pairwise_iff_getElem] at h2
    have main : ∀ i j : Nat, ∀ hi' : i < L.length, ∀ hj : j < L.length, lo L (i : Int) = lo L (j : Int) → hi L (i : Int) = hi L (j : Int) → ¬ i < j := by
      intro i j hi' hj e1 e2 hlt
      obtain ⟨a, b, c⟩ := lo_at hi'
      obtain ⟨a', b', c'⟩ := lo_at hj
      rw [a, a'] at e1
      rw [b, b'] at e2
      exact h2 i j hi' hj hlt ⟨e1, e2⟩
    refine ⟨fun k k0 k1 => ?_, fun i j i0 i1 j0 j1 e1 e2 => ?_, h3⟩
    · have hk : k.toNat < L.length := by omega
      obtain ⟨a, b, c⟩ := lo_at hk
      rw [Int.toNat_of_nonneg k0] at a b c
      rw [a, b, c]
      exact h1 _ (List.getElem_mem hk)
    · have m1 := main i.toNat j.toNat (by omega) (by omega) (by rw [Int.toNat_of_nonneg i0, Int.toNat_of_nonneg j0]; exact e1) (by rw [Int.toNat_of_nonneg i0, Int.toNat_of_nonneg j0]; exact e2)
      have m2 := main j.toNat i.toNat (by omega) (by omega) (by rw [Int.toNat_of_nonneg i0, Int.toNat_of_nonneg j0]; exact e1.symm) (by rw [Int.toNat_of_nonneg i0, Int.toNat_of_nonneg j0]; exact e2.symm)
      omega
theorem wfL_filter {n : Int} {L : List Ln} (w : wfL n L) (p : Ln → Bool) : wfL n (L.filter p) := by
  rw [wfL_iff] at w ⊢
  refine ⟨fun l hl => w.1 l (List.mem_filter.mp hl).1, w.2.1.filter p, ?_⟩
  have := List.length_filter_le p L
  omega
theorem adj_mem {L : List Ln} {a b : Int} : adj L a b ↔ ∃ l ∈ L, (l.1 = a ∧ l.2.1 = b) ∨ (l.1 = b ∧ l.2.1 = a) := by
  constructor
  · rintro ⟨k, k0, k1, h⟩
    have hk : k.toNat < L.length := by omega
    obtain ⟨e1, e2, -⟩ := lo_at hk
    rw [Int.toNat_of_nonneg k0] at e1 e2
    rw [e1, e2] at h
    exact ⟨_, List.getElem_mem hk, h⟩
  · rintro ⟨l, hl, h⟩
    obtain ⟨k, hk, e⟩ := List.getElem_of_mem hl
    obtain ⟨e1, e2, -⟩ := lo_at hk
    refine ⟨(k : Int), by omega, by omega, ?_⟩
    rw [e1, e2, e]
    exact h
/-! ===== a set that keeps its distances ===== -/
def ind (L : List Ln) (x : Int) : List Ln := L.filter (fun l => tb x l.1.toNat && tb x l.2.1.toNat)
theorem ind_adj {L : List Ln} {x a b : Int} : adj (ind L x) a b ↔ adj L a b ∧ tb x a.toNat = true ∧ tb x b.toNat = true := by
  rw [adj_mem, adj_mem]
  unfold ind
  constructor
  · rintro ⟨l, hl, h⟩
    obtain ⟨h1, h2⟩ := List.mem_filter.mp hl
    rw [Bool.and_eq_true] at h2
    refine ⟨⟨l, h1, h⟩, ?_⟩
    rcases h with ⟨e1, e2⟩ | ⟨e1, e2⟩
    · rw [← e1, ← e2]; exact h2
    · rw [← e1, ← e2]; exact ⟨h2.2, h2.1⟩
  · rintro ⟨⟨l, hl, h⟩, h1, h2⟩
    refine ⟨l, List.mem_filter.mpr ⟨hl, ?_⟩, h⟩
    rw [Bool.and_eq_true]
    rcases h with ⟨e1, e2⟩ | ⟨e1, e2⟩
    · rw [e1, e2]; exact ⟨h1, h2⟩
    · rw [e1, e2]; exact ⟨h2, h1⟩
def isT (n : Int) (L : List Ln) (x : Int) : Prop := ∀ a b : Int, 0 ≤ a → a < n → 0 ≤ b → b < n → tb x a.toNat = true → tb x b.toNat = true → dd (ind L x) a b = dd L a b
section Q9
variable {n : Int} {L : List Ln} {v : VT} {q : Int → VT → Prop}
theorem wi (w : wfL n L) (x : Int) : wfL n (ind L x) := wfL_filter w _
theorem ind_reach {x a b : Int} (ha : tb x a.toNat = true) (h : 0 ≤ dd (ind L x) a b) : tb x b.toNat = true := by
  by_cases h0 : dd (ind L x) a b = 0
  · rw [← dd_zero h0]; exact ha
  · obtain ⟨c, -, h2⟩ := dd_prev (L := ind L x) (a := a) (b := b) (k := dd (ind L x) a b - 1) (by omega) (by omega)
    exact (ind_adj.mp h2).2.2
/-- from one node -/
theorem S_isTrueFrom {x s : Int} {q : Int → Prop} (w : wfL n L) (hn : 0 ≤ n ∧ n ≤ 24) (hc : conn n L) (hx : okS n x) (hm : mt v n L) (hs' : 0 ≤ s ∧ s < n) (hsx : tb x s.toNat = true)
    (h0 : (∃ b : Int, 0 ≤ b ∧ b < n ∧ tb x b.toNat = true ∧ dd (ind L x) s b ≠ dd L s b) → q 0) (h1 : (∀ b : Int, 0 ≤ b → b < n → tb x b.toNat = true → dd (ind L x) s b = dd L s b) → q 1) : P_X2_isTrueFrom x s v q := by
  have w' := wi w x
  unfold P_X2_isTrueFrom
  rw [hm.1]
  intro X10 hX10
  have key : ∀ i : Int, 0 ≤ i → i ≤ n → ∀ r f : Int, r32 r → r32 f → (∀ k : Nat, tb r k = true ↔ 0 ≤ dd (ind L x) s (k : Int) ∧ dd (ind L x) s (k : Int) ≤ i) → (∀ k : Nat, tb f k = true ↔ dd (ind L x) s (k : Int) = i) → (∀ b : Int, 0 ≤ dd (ind L x) s b → dd (ind L x) s b < i → dd L s b = dd (ind L x) s b) → X10 r f i := by
    intro i
    refine fun i0 hle r f hr hf ht hft hd => wh1 (A := Int × Int × Int) (X := fun t => X10 t.1 t.2.1 t.2.2) (fun t => 0 ≤ t.2.2 ∧ t.2.2 ≤ n ∧ r32 t.1 ∧ r32 t.2.1 ∧ (∀ k : Nat, tb t.1 k = true ↔ 0 ≤ dd (ind L x) s (k : Int) ∧ dd (ind L x) s (k : Int) ≤ t.2.2) ∧ (∀ k : Nat, tb t.2.1 k = true ↔ dd (ind L x) s (k : Int) = t.2.2) ∧ (∀ b : Int, 0 ≤ dd (ind L x) s b → dd (ind L x) s b < t.2.2 → dd L s b = dd (ind L x) s b)) (fun t => (n - t.2.2).toNat) ?_ (a := (r, f, i)) ⟨i0, hle, hr, hf, ht, hft, hd⟩
    rintro ⟨r, f, i⟩ ⟨i0, hle, hr, hf, ht, hft, hd⟩ hnext
    have i0 : 0 ≤ i := i0
    have hle : i ≤ n := hle
    have hr : r32 r := hr
    have hf : r32 f := hf
    have ht : ∀ k : Nat, tb r k = true ↔ 0 ≤ dd (ind L x) s (k : Int) ∧ dd (ind L x) s (k : Int) ≤ i := ht
    have hft : ∀ k : Nat, tb f k = true ↔ dd (ind L x) s (k : Int) = i := hft
    have hd : ∀ b : Int, 0 ≤ dd (ind L x) s b → dd (ind L x) s b < i → dd L s b = dd (ind L x) s b := hd
    show X10 r f i
    -- at the end: what is reached is all
    have fin : (∀ b : Int, dd (ind L x) s b < i) → ((¬ r = x) → q 0) ∧ ((r = x) → q 1) := by
      intro hlt
      refine ⟨fun hne => h0 ?_, fun he => h1 (fun b b0 b1 b2 => ?_)⟩
      · refine Classical.byContradiction fun hno => hne (tb_ext hr hx.1 (fun k hk => ?_))
        cases hb : tb x k
        · cases hc2 : tb r k
          · rfl
          · have := ind_reach (L := L) (x := x) hsx ((ht k).mp hc2).1
            rw [Int.toNat_natCast, hb] at this
            exact absurd this (by decide)
        · have hkn := hx.2 k hb
          have : dd (ind L x) s (k : Int) = dd L s (k : Int) := Classical.byContradiction fun hne2 => hno ⟨(k : Int), by omega, hkn, by rw [Int.toNat_natCast]; exact hb, hne2⟩
          have h2 := hc s (k : Int) hs'.1 hs'.2 (by omega) hkn
          exact (ht k).mpr ⟨by omega, by have := hlt (k : Int); omega⟩
      · rw [he] at ht
        have := (ht b.toNat).mp b2
        rw [Int.toNat_of_nonneg b0] at this
        exact (hd b this.1 (hlt b)).symm
    apply hX10
    refine ⟨fun hc2 => fin (fun b => by have := dd_lt w' hs' (b := b); omega), fun hc2 => ⟨fun hz => fin (fun b => ?_), fun hz => ?_⟩⟩
    · refine Classical.byContradiction fun hge => ?_
      obtain ⟨c, hc3⟩ := dd_lev (L := ind L x) (a := s) (dd (ind L x) s b).toNat b (by omega) i.toNat (by omega)
      have hcn := dd_in w' hs' (b := c) (by omega)
      have := (hft c.toNat).mpr (by rw [Int.toNat_of_nonneg hcn.1]; omega)
      rw [hz, tb_0] at this
      exact absurd this (by decide)
    intro K83 hK83 X30 hX30
    refine up2r (X := X30) n (fun j acc => 0 ≤ j ∧ r32 acc ∧ (∀ k : Nat, tb acc k = true ↔ ∃ c : Int, 0 ≤ c ∧ c < j ∧ dd (ind L x) s c = i ∧ adj L c (k : Int)) ∧ (∀ c : Int, 0 ≤ c → c < j → dd (ind L x) s c = i → dd L s c = i)) ?_ (by omega) ⟨by omega, by unfold r32; decide, fun k => by rw [tb_0]; exact ⟨fun h => absurd h (by decide), fun ⟨c, c0, c1, _⟩ => by omega⟩, fun c c0 c1 => by omega⟩
    intro acc j hle2 ⟨j0, hra, hta, hda⟩ hnext2
    apply hX30
    refine ⟨fun hc3 => ?_, fun hc3 => ?_⟩
    · apply hK83
      intro l4 e4
      have e : j = n := by omega
      rw [e] at hta hda
      have t4 : ∀ k : Nat, k < 32 → (tb l4 k = true ↔ dd (ind L x) s (k : Int) = i + 1) := by
        intro k hk
        rw [e4, tb_and, tb_and, tb_not _ hk, Bool.and_eq_true, Bool.and_eq_true, Bool.not_eq_true', hta k]
        constructor
        · rintro ⟨⟨⟨c, c0, c1, c2, c3⟩, hxk⟩, hrk⟩
          have hcx := ind_reach (L := L) (x := x) (a := s) (b := c) hsx (by omega)
          have ha2 : adj (ind L x) c (k : Int) := ind_adj.mpr ⟨c3, hcx, by rw [Int.toNat_natCast]; exact hxk⟩
          have := dd_next ha2 (a := s) (by omega)
          have hnr : ¬ (0 ≤ dd (ind L x) s (k : Int) ∧ dd (ind L x) s (k : Int) ≤ i) := fun h => by rw [(ht k).mpr h] at hrk; exact absurd hrk (by decide)
          omega
        · intro hk1
          obtain ⟨c, c1, c2⟩ := dd_prev (L := ind L x) (a := s) (b := (k : Int)) i0 hk1
          have hcn := dd_in w' hs' (b := c) (by omega)
          obtain ⟨a1, a2, a3⟩ := ind_adj.mp c2
          rw [Int.toNat_natCast] at a3
          refine ⟨⟨⟨c, hcn.1, hcn.2, c1, a1⟩, a3⟩, ?_⟩
          cases hb : tb r k
          · rfl
          · have := (ht k).mp hb; omega
      have t4' : ∀ k : Nat, tb l4 k = true ↔ dd (ind L x) s (k : Int) = i + 1 := by
        intro k
        by_cases hk : k < 32
        · exact t4 k hk
        · rw [tb_big (by omega)]
          refine ⟨fun h => absurd h (by decide), fun h => ?_⟩
          have := dd_in w' hs' (b := (k : Int)) (by omega)
          omega
      refine ⟨by omega, hnext (i_or r l4, l4, i + 1) ⟨by show 0 ≤ i + 1; omega, by show i + 1 ≤ n; omega, r32_or _ _, by rw [e4]; exact r32_and _ _, fun k => ?_, t4', fun b b0 b1 => ?_⟩ (by show (n - (i + 1)).toNat < (n - i).toNat; omega)⟩
      · show tb (i_or r l4) k = true ↔ 0 ≤ dd (ind L x) s (k : Int) ∧ dd (ind L x) s (k : Int) ≤ i + 1
        rw [tb_or, Bool.or_eq_true, ht k, t4' k]
        omega
      · have b1 : dd (ind L x) s b < i + 1 := b1
        by_cases e5 : dd (ind L x) s b = i
        · have hbn := dd_in w' hs' (b := b) b0
          rw [e5]; exact hda b hbn.1 hbn.2 e5
        · exact hd b b0 (by omega)
    · have hfj := hft j.toNat
      rw [Int.toNat_of_nonneg j0] at hfj
      refine S_hasBit ⟨j0, by omega⟩ (fun hfb => ⟨fun _ => ⟨by omega, hnext2 hc3 _ ⟨by omega, hra, fun k => ?_, fun c c0 c1 c2 => ?_⟩⟩, fun h => absurd rfl h⟩) (fun htb => ⟨fun h => absurd h (by decide), fun _ => ?_⟩)
      · rw [hta k]
        constructor
        · rintro ⟨c, c0, c1, c2⟩; exact ⟨c, c0, by omega, c2⟩
        · rintro ⟨c, c0, c1, c2, c3⟩
          by_cases e : c = j
          · rw [e] at c2; rw [hfj.mpr c2] at hfb; exact absurd hfb (by decide)
          · exact ⟨c, c0, by omega, c2, c3⟩
      · by_cases e : c = j
        · rw [e] at c2; rw [hfj.mpr c2] at hfb; exact absurd hfb (by decide)
        · exact hda c c0 (by omega) c2
      · have hji := hfj.mp htb
        rw [hm.2.2.1 s j hs'.1 hs'.2 j0 hc3]
        refine ⟨by omega, by omega, fun he => ⟨by omega, fun l6 e6 => ⟨by omega, hnext2 hc3 _ ⟨by omega, by rw [e6]; exact r32_or _ _, fun k => ?_, fun c c0 c1 c2 => ?_⟩⟩⟩, fun hne => h0 ⟨j, j0, hc3, ind_reach (L := L) hsx (by omega), by omega⟩⟩
        · rw [e6, tb_or, Bool.or_eq_true, hta k, (hm.2.1 j j0 hc3).2 k]
          constructor
          · rintro (⟨c, c0, c1, c2⟩ | h)
            · exact ⟨c, c0, by omega, c2⟩
            · exact ⟨j, j0, by omega, hji, h⟩
          · rintro ⟨c, c0, c1, c2, c3⟩
            by_cases e : c = j
            · rw [e] at c3; exact Or.inr c3
            · exact Or.inl ⟨c, c0, by omega, c2, c3⟩
        · by_cases e : c = j
          · rw [e]; exact he
          · exact hda c c0 (by omega) c2
  have ts := tb_shl1' (m := s) ⟨hs'.1, by omega⟩
  refine key 0 (by omega) (by omega) _ _ (r32_shl _ _) (r32_shl _ _) (fun k => ?_) (fun k => ?_) (fun b b0 b1 => by omega)
  · rw [ts k, decide_eq_true_eq]
    constructor
    · intro e; rw [show (k : Int) = s by omega, dd_self]; omega
    · intro h
      have := dd_zero (L := ind L x) (a := s) (b := (k : Int)) (by omega)
      omega
  · rw [ts k, decide_eq_true_eq]
    constructor
    · intro e; rw [show (k : Int) = s by omega, dd_self]
    · intro h
      have := dd_zero h
      omega
theorem S_isTrue {x : Int} {q : Int → Prop} (w : wfL n L) (hn : 0 ≤ n ∧ n ≤ 24) (hc : conn n L) (hx : okS n x) (hm : mt v n L) (h0 : ¬ isT n L x → q 0) (h1 : isT n L x → q 1) : P_X2_isTrue x v q := by
  unfold P_X2_isTrue
  rw [hm.1]
  intro X2 hX2
  refine up1 (X := X2) n (fun i => 0 ≤ i ∧ ∀ a b : Int, 0 ≤ a → a < i → 0 ≤ b → b < n → tb x a.toNat = true → tb x b.toNat = true → dd (ind L x) a b = dd L a b) ?_ (by omega) ⟨by omega, fun a b a0 a1 => by omega⟩
  intro i hle ⟨i0, hd⟩ hnext
  apply hX2
  refine ⟨fun hc2 => h1 (fun a b a0 a1 b0 b1 => hd a b a0 (by omega) b0 b1), fun hc2 => S_hasBit ⟨i0, by omega⟩ (fun hf => ⟨fun _ => ⟨by omega, hnext hc2 ⟨by omega, fun a b a0 a1 b0 b1 b2 b3 => ?_⟩⟩, fun h => absurd rfl h⟩) (fun ht => ⟨fun h => absurd h (by decide), fun _ => ?_⟩)⟩
  · by_cases e : a = i
    · rw [e, hf] at b2; exact absurd b2 (by decide)
    · exact hd a b a0 (by omega) b0 b1 b2 b3
  · refine S_isTrueFrom w hn hc hx hm ⟨i0, hc2⟩ ht (fun hne => ⟨fun h => absurd rfl h, fun _ => h0 (fun g => ?_)⟩) (fun hall => ⟨fun _ => ⟨by omega, hnext hc2 ⟨by omega, fun a b a0 a1 b0 b1 b2 b3 => ?_⟩⟩, fun h => absurd h (by decide)⟩)
    · obtain ⟨b, b0, b1, b2, b3⟩ := hne
      exact b3 (g i b i0 hc2 b0 b1 ht b2)
    · by_cases e : a = i
      · rw [e]; exact hall b b0 b1 b3
      · exact hd a b a0 (by omega) b0 b1 b2 b3
end Q9

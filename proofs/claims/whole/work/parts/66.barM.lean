/-! ===== the reference: barOf ===== -/
theorem pc_lt {n x y : Int} (hn : n ≤ 24) (hx : okS n x) (hy : okS n y) (hsub : ∀ k : Nat, tb x k = true → tb y k = true) (hne : y ≠ x) : pc x < pc y := by
  have hex : ∃ k : Nat, k < 24 ∧ tb x k = false ∧ tb y k = true := by
    refine Classical.byContradiction fun hno => hne ?_
    refine tb_ext hy.1 hx.1 (fun k hk => ?_)
    cases hb : tb x k
    · cases hc : tb y k
      · rfl
      · exact absurd ⟨k, by have := hy.2 k hc; omega, hb, hc⟩ hno
    · exact hsub k hb
  obtain ⟨k, k1, k2, k3⟩ := hex
  have h1 := fb_ct_upd (fun j => tb x j) true (i := k) (n := 24) k1
  have h2 := fb_ct_sub (p := fun j => if j = k then true else tb x j) (q := fun j => tb y j) (n := 24) (fun j _ hj => by
    by_cases e : j = k
    · rw [e]; exact k3
    · have hj : (if j = k then true else tb x j) = true := hj
      rw [if_neg e] at hj; exact hsub j hj)
  have e3 : (if (fun j => tb x j) k then 1 else 0) = 0 := by show (if tb x k = true then 1 else 0) = 0; rw [k2]; rfl
  rw [e3] at h1
  have e4 : (if true = true then 1 else 0) = 1 := rfl
  rw [e4] at h1
  unfold pc
  show ((fb_ct (fun j => tb x j) 24 : Nat) : Int) < ((fb_ct (fun j => tb y j) 24 : Nat) : Int)
  omega
theorem wf_lv {n : Int} {L : List Ln} (w : wfL n L) (c : Int) : wfL n (lv L c) := wfL_filter w _
theorem S_barOf {n s e : Int} {L : List Ln} {v : VT} {q : Int → Prop} (w : wfL n L) (hn : 0 ≤ n ∧ n ≤ 24) (hg : mG v 222 n L) (hs' : 0 ≤ s ∧ s < n) (he : 0 ≤ e ∧ e < n) (hj : 0 ≤ dd L s e) (hq : ∀ c, isL (fop 1) L s e c → q c) : P_X11_barOf s e v q := by
  have hlen := w.2.2
  unfold P_X11_barOf
  rw [hg.2.1]
  intro X7 hX7
  have top : ∀ b : Int, 0 ≤ dd L s b → 0 ≤ dd (lv L 9) s b := by
    intro b hb
    have : ∀ k b, wk L k s b → wk (lv L 9) k s b := by
      intro k
      induction k with
      | zero => intro b h; exact h
      | succ k ih =>
        rintro b ⟨d, h1, h2⟩
        obtain ⟨p, hp⟩ := adj_nbp h2
        exact ⟨d, ih d h1, lv_adj.mpr ⟨p, (nbp_r w hp).2, hp⟩⟩
    exact (dd_le (this _ b (dd_wk hb))).1
  refine wh2 (X := X7) (fun c S => 0 ≤ c ∧ r32 S ∧ (∀ k : Nat, tb S k = true ↔ 0 ≤ dd (lv L c) s (k : Int)) ∧ ∀ c', 0 ≤ c' → c' < c → dd (lv L c') s e = -1) (fun c S => (10 - c).toNat) ?_ ⟨by omega, r32_shl _ _, fun k => ?_, fun c' h1 h2 => by omega⟩
  · intro c S ⟨c0, hS, ht, hb⟩ hnext
    apply hX7
    have hte := ht e.toNat
    rw [Int.toNat_of_nonneg he.1] at hte
    refine S_isOf ⟨he.1, by omega⟩ (fun hf => ⟨fun g => absurd rfl g, fun _ => ?_⟩) (fun htt => ⟨fun _ => hq c (bar_is w c0 (hte.mp htt) hb), fun g => absurd g (by decide)⟩)
    have hge := dd_ge (L := lv L c) (a := s) (b := e)
    have hno : dd (lv L c) s e = -1 := by
      by_cases h : 0 ≤ dd (lv L c) s e
      · rw [hte.mpr h] at hf; exact absurd hf (by decide)
      · omega
    have hc9 : c < 9 := by
      refine Classical.byContradiction fun h => ?_
      have := dd_le (wk_mono (show (9 : Int) ≤ c by omega) (dd_wk (top e hj)))
      omega
    have w' := wf_lv w (c + 1)
    refine ⟨by omega, ?_⟩
    intro X22 hX22
    refine wh2 (X := X22) (fun S P => okS n S ∧ tb S s.toNat = true ∧ (∀ k : Nat, tb S k = true → 0 ≤ dd (lv L (c + 1)) s (k : Int)) ∧ (P = S → ∀ a b : Int, adj (lv L (c + 1)) a b → tb S a.toNat = true → tb S b.toNat = true)) (fun S P => if P = S then 0 else (25 - pc S).toNat) ?_ ⟨⟨hS, fun k hk => ?_⟩, ?_, fun k hk => ?_, fun h0 => ?_⟩
    · intro S P ⟨hok, hsb, hsub, hcl⟩ hnext2
      apply hX22
      refine ⟨fun hP => hnext _ _ ⟨by omega, hok.1, fun k => ⟨hsub k, fun hd => ?_⟩, fun c' h1 h2 => ?_⟩ (by omega), fun hP => ?_⟩
      · have hall : ∀ m : Nat, ∀ b : Int, wk (lv L (c + 1)) m s b → tb S b.toNat = true := by
          intro m
          induction m with
          | zero => intro b h; rw [← (show s = b from h)]; exact hsb
          | succ m ih => rintro b ⟨d, h1, h2⟩; exact hcl hP d b h2 (ih d h1)
        have := hall _ _ (dd_wk hd)
        rwa [Int.toNat_natCast] at this
      · by_cases e1 : c' = c
        · rw [e1]; exact hno
        · exact hb c' h1 (by omega)
      intro X36 hX36
      refine up2r (X := X36) (L.length : Int) (fun j S' => 0 ≤ j ∧ okS n S' ∧ (∀ k : Nat, tb S k = true → tb S' k = true) ∧ (∀ k : Nat, tb S' k = true → 0 ≤ dd (lv L (c + 1)) s (k : Int)) ∧ ∀ l : Int, 0 ≤ l → l < j → pr L l ≤ c + 1 → (tb S (lo L l).toNat = true ∨ tb S (hi L l).toNat = true) → tb S' (lo L l).toNat = true ∧ tb S' (hi L l).toNat = true) ?_ (by omega) ⟨by omega, hok, fun k h => h, hsub, fun l l0 l1 => by omega⟩
      intro S' j hle ⟨j0, hok', hsup, hsub', hcl'⟩ hnext3
      apply hX36
      refine ⟨fun hc => hnext2 _ _ ⟨hok', hsup _ hsb, hsub', fun heq a b hab ha => ?_⟩ ?_, fun hc => S_priceOf w hg ⟨j0, hc⟩ ?_⟩
      · rw [← heq] at ha
        obtain ⟨p, p1, l, l0, l1, l2, l3⟩ := lv_adj.mp hab
        have := hcl' l l0 (by omega) (by omega) (by rcases l2 with ⟨e1, e2⟩ | ⟨e1, e2⟩ <;> rw [e1, e2]; exact Or.inl ha; exact Or.inr ha)
        rcases l2 with ⟨e1, e2⟩ | ⟨e1, e2⟩
        · rw [← e2]; exact this.2
        · rw [← e1]; exact this.1
      · show (if S = S' then 0 else (25 - pc S').toNat) < (if P = S then 0 else (25 - pc S).toNat)
        rw [if_neg hP]
        have h1 := pc_r S
        have h2 := pc_r S'
        by_cases e1 : S = S'
        · rw [if_pos e1]; omega
        · rw [if_neg e1]
          have := pc_lt hn.2 hok hok' hsup (fun h => e1 h.symm)
          omega
      · have hw := w.1 j j0 hc
        have keep : (pr L j ≤ c + 1 → ¬ (tb S (lo L j).toNat = true ∨ tb S (hi L j).toNat = true)) → X36 S' (j + 1) := fun hne => hnext3 hc _ ⟨by omega, hok', hsup, hsub', fun l l0 l1 l2 l3 => by
          by_cases el : l = j
          · rw [el] at l2 l3; exact absurd l3 (hne l2)
          · exact hcl' l l0 (by omega) l2 l3⟩
        refine ⟨fun h => ⟨by omega, keep (fun h2 => by omega)⟩, fun hp => S_low w hg ⟨j0, hc⟩ ?_⟩
        have nb : nbp L (lo L j) (hi L j) (pr L j) := ⟨j, j0, hc, Or.inl ⟨rfl, rfl⟩, rfl⟩
        have ad : adj (lv L (c + 1)) (lo L j) (hi L j) := lv_adj.mpr ⟨_, hp, nb⟩
        have add : (tb S' (lo L j).toNat = true ∨ tb S' (hi L j).toNat = true) → P_X11_low j v (fun r91 => P_X11_high j v (fun r99 => ∀ l4 : Int, l4 = (i_or S' (i_or (i_shl 1 r91) (i_shl 1 r99))) → (-2147483648 ≤ j + 1 ∧ j + 1 ≤ 2147483647) ∧ X36 l4 (j + 1))) := by
          intro hin
          refine S_low w hg ⟨j0, hc⟩ (S_high w hg ⟨j0, hc⟩ (fun l4 e4 => ⟨by omega, hnext3 hc _ ?_⟩))
          have t4 : ∀ k : Nat, tb l4 k = true ↔ tb S' k = true ∨ (k : Int) = lo L j ∨ (k : Int) = hi L j := fun k => by
            rw [e4, tb_or, tb_or, tb_shl1' ⟨by omega, by omega⟩, tb_shl1' ⟨by omega, by omega⟩, Bool.or_eq_true, Bool.or_eq_true, decide_eq_true_eq, decide_eq_true_eq]
            constructor
            · rintro (h | h | h)
              · exact Or.inl h
              · exact Or.inr (Or.inl (by omega))
              · exact Or.inr (Or.inr (by omega))
            · rintro (h | h | h)
              · exact Or.inl h
              · exact Or.inr (Or.inl (by omega))
              · exact Or.inr (Or.inr (by omega))
          have rl : 0 ≤ dd (lv L (c + 1)) s (lo L j) ∧ 0 ≤ dd (lv L (c + 1)) s (hi L j) := by
            rcases hin with h | h
            · have := hsub' _ h
              rw [Int.toNat_of_nonneg (by omega)] at this
              exact ⟨this, (dd_next ad this).1⟩
            · have := hsub' _ h
              rw [Int.toNat_of_nonneg (by omega)] at this
              exact ⟨(dd_next (adj_symm ad) this).1, this⟩
          refine ⟨by omega, ⟨by rw [e4]; exact r32_or _ _, fun k hk => ?_⟩, fun k hk => (t4 k).mpr (Or.inl (hsup k hk)), fun k hk => ?_, fun l l0 l1 l2 l3 => ?_⟩
          · rcases (t4 k).mp hk with h | h | h
            · exact hok'.2 k h
            · omega
            · omega
          · rcases (t4 k).mp hk with h | h | h
            · exact hsub' k h
            · rw [h]; exact rl.1
            · rw [h]; exact rl.2
          · by_cases el : l = j
            · rw [el]; exact ⟨(t4 _).mpr (Or.inr (Or.inl (Int.toNat_of_nonneg (by omega)))), (t4 _).mpr (Or.inr (Or.inr (Int.toNat_of_nonneg (by omega))))⟩
            · have := hcl' l l0 (by omega) l2 l3
              exact ⟨(t4 _).mpr (Or.inl this.1), (t4 _).mpr (Or.inl this.2)⟩
        refine S_isOf ⟨by omega, by omega⟩ (fun hlf K85 hK85 => ⟨fun g => absurd rfl g, fun _ => S_high w hg ⟨j0, hc⟩ (S_isOf ⟨by omega, by omega⟩ (fun hhf => ⟨fun _ => ⟨by omega, keep (fun _ g => ?_)⟩, fun g => absurd rfl g⟩) (fun hht => ⟨fun g => absurd g (by decide), fun _ => hK85 (add (Or.inr hht))⟩))⟩) (fun hlt K85 hK85 => ⟨fun _ => hK85 (add (Or.inl hlt)), fun g => absurd g (by decide)⟩)
        rcases g with g | g
        · have := hsup _ g; rw [hlf] at this; exact absurd this (by decide)
        · have := hsup _ g; rw [hhf] at this; exact absurd this (by decide)
    · have := dd_in (wf_lv w c) hs' ((ht k).mp hk)
      exact this.2
    · have := (ht s.toNat).mpr (by rw [Int.toNat_of_nonneg hs'.1, dd_self]; omega)
      exact this
    · exact (dd_le (wk_mono (by omega) (dd_wk ((ht k).mp hk)))).1
    · have := (ht s.toNat).mpr (by rw [Int.toNat_of_nonneg hs'.1, dd_self]; omega)
      rw [← h0, tb_0] at this; exact absurd this (by decide)
  · rw [tb_shl1' ⟨hs'.1, by omega⟩, decide_eq_true_eq]
    constructor
    · intro h; rw [show (k : Int) = s by omega, dd_self]; omega
    · intro h
      by_cases h0 : dd (lv L 0) s (k : Int) = 0
      · have := dd_zero h0; omega
      · obtain ⟨d, -, h2⟩ := dd_prev (L := lv L 0) (a := s) (b := (k : Int)) (k := dd (lv L 0) s (k : Int) - 1) (by omega) (by omega)
        obtain ⟨p, p1, p2⟩ := lv_adj.mp h2
        have := nbp_r w p2
        omega

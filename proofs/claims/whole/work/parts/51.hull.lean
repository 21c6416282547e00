/-! ===== widen, hull ===== -/
def wdp (n : Int) (L : List Ln) (x i j : Int) (k : Nat) : Prop := tb x k = true ∨ ∃ a b : Int, 0 ≤ a ∧ a < b ∧ b < n ∧ (a < i ∨ (a = i ∧ b < j)) ∧ tb x a.toNat = true ∧ tb x b.toNat = true ∧ tb (am n L a b) k = true
noncomputable def wd (n : Int) (L : List Ln) (x : Int) : Int := bs 32 (fun k => wdp n L x n 0 k.toNat)
section Q8
variable {n : Int} {L : List Ln} {v : VT} {q : Int → VT → Prop}
theorem wd_is {x y : Int} (hy : r32 y) (h : ∀ k : Nat, tb y k = true ↔ wdp n L x n 0 k) : y = wd n L x := by
  refine bs_eq (by omega) hy (fun k hk => ?_)
  rw [h k]
  show wdp n L x n 0 k ↔ _ ∧ wdp n L x n 0 ((k : Int)).toNat
  rw [Int.toNat_natCast]
  exact ⟨fun g => ⟨by omega, g⟩, fun g => g.2⟩
theorem wd_tb (x : Int) (hx : n ≤ 24) (k : Nat) : tb (wd n L x) k = true ↔ wdp n L x n 0 k := by
  unfold wd
  rw [bs_tb (by omega), Int.toNat_natCast]
  refine ⟨fun g => g.2, fun g => ⟨?_, g⟩⟩
  rcases g with g | ⟨a, b, _, _, _, _, _, _, g⟩
  · by_cases h : k < 32
    · omega
    · rw [tb_big (by omega)] at g; exact absurd g (by decide)
  · by_cases h : k < 32
    · omega
    · rw [tb_big (by omega)] at g; exact absurd g (by decide)
theorem wdp_start {x : Int} (k : Nat) : wdp n L x 0 0 k ↔ tb x k = true :=
  ⟨fun h => h.elim id (fun ⟨a, b, h1, h2, h3, h4, _⟩ => by omega), fun h => Or.inl h⟩
theorem wdp_row {x i j : Int} (h : n ≤ j ∨ tb x i.toNat = false) (k : Nat) : wdp n L x i j k ↔ wdp n L x (i + 1) 0 k := by
  constructor
  · rintro (h1 | ⟨a, b, h1, h2, h3, h4, h5, h6, h7⟩)
    · exact Or.inl h1
    · exact Or.inr ⟨a, b, h1, h2, h3, by omega, h5, h6, h7⟩
  · rintro (h1 | ⟨a, b, h1, h2, h3, h4, h5, h6, h7⟩)
    · exact Or.inl h1
    · refine Or.inr ⟨a, b, h1, h2, h3, ?_, h5, h6, h7⟩
      rcases h with h | h
      · omega
      · by_cases e : a = i
        · rw [e, h] at h5; exact absurd h5 (by decide)
        · omega
theorem wdp_in {x i : Int} (k : Nat) : wdp n L x i 0 k ↔ wdp n L x i (i + 1) k := by
  constructor
  · rintro (h1 | ⟨a, b, h1, h2, h3, h4, h5, h6, h7⟩)
    · exact Or.inl h1
    · exact Or.inr ⟨a, b, h1, h2, h3, by omega, h5, h6, h7⟩
  · rintro (h1 | ⟨a, b, h1, h2, h3, h4, h5, h6, h7⟩)
    · exact Or.inl h1
    · exact Or.inr ⟨a, b, h1, h2, h3, by omega, h5, h6, h7⟩
theorem wdp_no {x i j : Int} (h : tb x j.toNat = false) (k : Nat) : wdp n L x i j k ↔ wdp n L x i (j + 1) k := by
  constructor
  · rintro (h1 | ⟨a, b, h1, h2, h3, h4, h5, h6, h7⟩)
    · exact Or.inl h1
    · exact Or.inr ⟨a, b, h1, h2, h3, by omega, h5, h6, h7⟩
  · rintro (h1 | ⟨a, b, h1, h2, h3, h4, h5, h6, h7⟩)
    · exact Or.inl h1
    · refine Or.inr ⟨a, b, h1, h2, h3, ?_, h5, h6, h7⟩
      by_cases e : b = j
      · rw [e, h] at h6; exact absurd h6 (by decide)
      · omega
theorem wdp_yes {x i j : Int} (hi' : 0 ≤ i ∧ i < j ∧ j < n) (h : tb x i.toNat = true) (h2 : tb x j.toNat = true) (k : Nat) : (wdp n L x i j k ∨ tb (am n L i j) k = true) ↔ wdp n L x i (j + 1) k := by
  constructor
  · rintro ((h1 | ⟨a, b, h1, h2, h3, h4, h5, h6, h7⟩) | hh)
    · exact Or.inl h1
    · exact Or.inr ⟨a, b, h1, h2, h3, by omega, h5, h6, h7⟩
    · exact Or.inr ⟨i, j, hi'.1, hi'.2.1, hi'.2.2, by omega, h, h2, hh⟩
  · rintro (h1 | ⟨a, b, h1, h2, h3, h4, h5, h6, h7⟩)
    · exact Or.inl (Or.inl h1)
    · by_cases e : a = i ∧ b = j
      · rw [e.1, e.2] at h7; exact Or.inr h7
      · exact Or.inl (Or.inr ⟨a, b, h1, h2, h3, by omega, h5, h6, h7⟩)
theorem S_widen {v0 : VT} {x : Int} {q : Int → VT → Prop} (w : wfL n L) (hn : 0 ≤ n ∧ n ≤ 24) (hx : r32 x) (h : mB v0 v n L) (hq : ∀ v', mB v0 v' n L → q (wd n L x) v') : P_X2_widen x v q := by
  unfold P_X2_widen
  intro X4 hX4
  refine up3m (X := X4) n (fun i acc v4 => 0 ≤ i ∧ mB v0 v4 n L ∧ r32 acc ∧ ∀ k : Nat, tb acc k = true ↔ wdp n L x i 0 k) ?_ (by omega) ⟨by omega, h, hx, fun k => (wdp_start k).symm⟩
  intro acc i v4 hle ⟨i0, hb, hr, ht⟩ hnext
  apply hX4
  rw [hb.2.2.2.1.1]
  refine ⟨fun hc => ?_, fun hc => ⟨by omega, ?_⟩⟩
  · rw [wd_is hr (fun k => by rw [ht k, show i = n by omega])]
    exact hq v4 hb
  intro X17 hX17
  refine up3m (X := X17) n (fun j acc v17 => i + 1 ≤ j ∧ mB v0 v17 n L ∧ r32 acc ∧ ∀ k : Nat, tb acc k = true ↔ wdp n L x i j k) ?_ (by omega) ⟨by omega, hb, hr, fun k => by rw [ht k, wdp_in]⟩
  intro acc' j v17 hle2 ⟨j0, hb', hr', ht'⟩ hnext2
  apply hX17
  rw [hb'.2.2.2.1.1]
  refine S_hasBit ⟨i0, by omega⟩ (fun hf => ⟨fun _ => ⟨by omega, hnext hc _ _ ⟨by omega, hb', hr', fun k => by rw [ht' k, wdp_row (Or.inr hf)]⟩⟩, fun h => absurd rfl h⟩) (fun hit => ⟨fun h => absurd h (by decide), fun _ => ⟨fun hc2 => ⟨by omega, hnext hc _ _ ⟨by omega, hb', hr', fun k => by rw [ht' k, wdp_row (Or.inl hc2)]⟩⟩, fun hc2 => ?_⟩⟩)
  refine S_hasBit ⟨by omega, by omega⟩ (fun hf => ⟨fun _ => ⟨by omega, hnext2 hc2 _ _ ⟨by omega, hb', hr', fun k => by rw [ht' k, wdp_no hf]⟩⟩, fun h => absurd rfl h⟩) (fun hjt => ⟨fun h => absurd h (by decide), fun _ => ?_⟩)
  refine S_amB w hn hb' ⟨i0, hc⟩ ⟨by omega, hc2⟩ (fun v48 b48 l2 e2 => ⟨by omega, hnext2 hc2 _ _ ⟨by omega, b48, by rw [e2]; exact r32_or _ _, fun k => ?_⟩⟩)
  rw [e2, tb_or, Bool.or_eq_true, ht' k, wdp_yes ⟨i0, by omega, hc2⟩ hit hjt]
theorem S_spread_ {x : Int} {q : Int → Prop} (w : wfL n L) (hn : 0 ≤ n ∧ n ≤ 24) (hx : r32 x) (hg : mG v 222 n L) (hf : frOK v n L) (hq : q (wd n L x)) : P_X11_spread_ x v q := by
  unfold P_X11_spread_
  rw [hg.1]
  intro X4 hX4
  refine up2r (X := X4) n (fun i acc => 0 ≤ i ∧ r32 acc ∧ ∀ k : Nat, tb acc k = true ↔ wdp n L x i 0 k) ?_ (by omega) ⟨by omega, hx, fun k => (wdp_start k).symm⟩
  intro acc i hle ⟨i0, hr, ht⟩ hnext
  apply hX4
  refine ⟨fun hc => ?_, fun hc => ⟨by omega, ?_⟩⟩
  · rw [wd_is hr (fun k => by rw [ht k, show i = n by omega])]
    exact hq
  intro X19 hX19
  refine up2r (X := X19) n (fun j acc => i + 1 ≤ j ∧ r32 acc ∧ ∀ k : Nat, tb acc k = true ↔ wdp n L x i j k) ?_ (by omega) ⟨by omega, hr, fun k => by rw [ht k, wdp_in]⟩
  intro acc' j hle2 ⟨j0, hr', ht'⟩ hnext2
  apply hX19
  refine ⟨fun hc2 => ⟨by omega, hnext hc _ ⟨by omega, hr', fun k => by rw [ht' k, wdp_row (Or.inl hc2)]⟩⟩, fun hc2 => ?_⟩
  refine S_isOf ⟨i0, by omega⟩ (fun hf => ⟨fun _ => ⟨by omega, hnext2 hc2 _ ⟨by omega, hr', fun k => by rw [ht' k, wdp_row (Or.inr hf), ← wdp_row (j := j + 1) (Or.inr hf)]⟩⟩, fun h => absurd rfl h⟩) (fun hit => ⟨fun h => absurd h (by decide), fun _ => ?_⟩)
  refine S_isOf ⟨by omega, by omega⟩ (fun hf => ⟨fun _ => ⟨by omega, hnext2 hc2 _ ⟨by omega, hr', fun k => by rw [ht' k, wdp_no hf]⟩⟩, fun h => absurd rfl h⟩) (fun hjt => ⟨fun h => absurd h (by decide), fun _ => ?_⟩)
  refine S_betweenOf w hn hg hf ⟨i0, hc⟩ ⟨by omega, hc2⟩ (fun l2 e2 => ⟨by omega, hnext2 hc2 _ ⟨by omega, by rw [e2]; exact r32_or _ _, fun k => ?_⟩⟩)
  rw [e2, tb_or, Bool.or_eq_true, ht' k, wdp_yes ⟨i0, by omega, hc2⟩ hit hjt]
/-! the hull -/
noncomputable def itw (n : Int) (L : List Ln) (x : Int) : Nat → Int
  | 0 => x
  | k + 1 => wd n L (itw n L x k)
def okS (n x : Int) : Prop := r32 x ∧ ∀ k : Nat, tb x k = true → (k : Int) < n
theorem wd_ok {x : Int} (hn : n ≤ 24) (h : okS n x) : okS n (wd n L x) := by
  refine ⟨bs_r _ _, fun k hk => ?_⟩
  rcases (wd_tb x hn k).mp hk with g | ⟨a, b, _, _, _, _, _, _, g⟩
  · exact h.2 k g
  · exact ((am_tb hn a b k).mp g).1
theorem itw_ok {x : Int} (hn : n ≤ 24) (h : okS n x) : ∀ k, okS n (itw n L x k)
  | 0 => h
  | k + 1 => wd_ok hn (itw_ok hn h k)
theorem itw_fix {x : Int} {k : Nat} (h : wd n L (itw n L x k) = itw n L x k) : ∀ m, k ≤ m → itw n L x m = itw n L x k := by
  intro m hm
  induction m with
  | zero => rw [show k = 0 by omega]
  | succ m ih =>
    by_cases e : k = m + 1
    · rw [e]
    · show wd n L (itw n L x m) = _
      rw [ih (by omega), h]
theorem itw_one {x : Int} {k m : Nat} (h : wd n L (itw n L x k) = itw n L x k) (h2 : wd n L (itw n L x m) = itw n L x m) : itw n L x k = itw n L x m := by
  by_cases e : k ≤ m
  · exact (itw_fix h m e).symm
  · exact itw_fix h2 k (by omega)
theorem hl_ex (n : Int) (L : List Ln) (x : Int) : ∃ y : Int, (∃ k, wd n L (itw n L x k) = itw n L x k) → ∃ k, y = itw n L x k ∧ wd n L (itw n L x k) = itw n L x k := by
  by_cases h : ∃ k, wd n L (itw n L x k) = itw n L x k
  · obtain ⟨k, h⟩ := h; exact ⟨_, fun _ => ⟨k, rfl, h⟩⟩
  · exact ⟨0, fun g => absurd g h⟩
noncomputable def hl (n : Int) (L : List Ln) (x : Int) : Int := Classical.choose (hl_ex n L x)
theorem hl_is {x : Int} {k : Nat} (h : wd n L (itw n L x k) = itw n L x k) : hl n L x = itw n L x k := by
  obtain ⟨m, h1, h2⟩ : ∃ m, hl n L x = itw n L x m ∧ wd n L (itw n L x m) = itw n L x m := Classical.choose_spec (hl_ex n L x) ⟨k, h⟩
  rw [h1]; exact itw_one h2 h
theorem wd_grow {x : Int} (hn : n ≤ 24) (h : okS n x) (hne : wd n L x ≠ x) : pc x < pc (wd n L x) := by
  have hsub : ∀ k : Nat, tb x k = true → tb (wd n L x) k = true := fun k hk => (wd_tb x hn k).mpr (Or.inl hk)
  have hex : ∃ k : Nat, k < 24 ∧ tb x k = false ∧ tb (wd n L x) k = true := by
    refine Classical.byContradiction fun hno => hne ?_
    refine tb_ext (bs_r _ _) h.1 (fun k hk => ?_)
    cases hb : tb x k
    · cases hc : tb (wd n L x) k
      · rfl
      · exact absurd ⟨k, by have := (wd_ok (L := L) hn h).2 k hc; omega, hb, hc⟩ hno
    · exact hsub k hb
  obtain ⟨k, k1, k2, k3⟩ := hex
  have h1 := fb_ct_upd (fun j => tb x j) true (i := k) (n := 24) k1
  have h2 := fb_ct_sub (p := fun j => if j = k then true else tb x j) (q := fun j => tb (wd n L x) j) (n := 24) (fun j _ hj => by
    by_cases e : j = k
    · rw [e]; exact k3
    · have hj : (if j = k then true else tb x j) = true := hj
      rw [if_neg e] at hj; exact hsub j hj)
  have e3 : (if (fun j => tb x j) k then 1 else 0) = 0 := by show (if tb x k = true then 1 else 0) = 0; rw [k2]; rfl
  rw [e3] at h1
  have e4 : (if true = true then 1 else 0) = 1 := rfl
  rw [e4] at h1
  unfold pc
  show ((fb_ct (fun j => tb x j) 24 : Nat) : Int) < ((fb_ct (fun j => tb (wd n L x) j) 24 : Nat) : Int)
  omega
theorem wd_full {x : Int} (hn : n ≤ 24) (h : okS n x) (hp : 24 ≤ pc x) : wd n L x = x := by
  have hr := pc_r x
  have ha : fb_ct (fun j => tb x j) 24 = 24 := by
    have hp : (24 : Int) ≤ ((fb_ct (fun j => tb x j) 24 : Nat) : Int) := hp
    have := fb_ct_le (fun j => tb x j) 24
    omega
  have hall := fb_ct_all.mp ha
  refine tb_ext (bs_r _ _) h.1 (fun k hk => ?_)
  cases hb : tb x k
  · cases hc : tb (wd n L x) k
    · rfl
    · have := (wd_ok (L := L) hn h).2 k hc
      have := hall k (by omega)
      rw [hb] at this; exact absurd this (by decide)
  · exact (wd_tb x hn k).mpr (Or.inl hb)
noncomputable def sp_hull (n : Int) (L : List Ln) (x : Int) : Int := @ite _ (isS n L x) (Classical.propDecidable _) (hl n L x) (-1)
theorem SX_hull {x : Int} (w : wfL n L) (hn : 0 ≤ n ∧ n ≤ 24) (hx : r32 x) (h : XC v n L) (hq : ∀ v', XF v v' → XC v' n L → q (sp_hull n L x) v') : P_X10_hull x v q := by
  unfold P_X10_hull
  refine S_isSet w hn h (fun v' f c => ⟨fun hs => ⟨fun _ => ?_, fun h => absurd rfl h⟩, fun b hs => ⟨fun h => absurd h (by decide), fun _ => ?_⟩⟩)
  · have := hq v' f c
    unfold sp_hull at this; rwa [if_neg hs] at this
  unfold P_X2_close
  have hok : okS n x := ⟨hx, isS_tb hn hs.2.2⟩
  have fin : ∀ v' k, mB v v' n L → wd n L (itw n L x k) = itw n L x k → q (itw n L x k) v' := fun v' k b e => by
    have := hq v' b.1 b.2.1
    unfold sp_hull at this; rwa [if_pos hs, hl_is e] at this
  intro X4 hX4
  refine up3m (X := X4) 24 (fun i y v4 => 0 ≤ i ∧ mB v v4 n L ∧ y = itw n L x i.toNat ∧ i ≤ pc y) ?_ (by omega) ⟨by omega, b, rfl, (pc_r x).1⟩
  intro y i v4 hle ⟨i0, hb, hy, hp⟩ hnext
  apply hX4
  have hoky := itw_ok (L := L) hn.2 hok i.toNat
  rw [← hy] at hoky
  refine ⟨fun hc => ?_, fun hc => S_widen w hn hoky.1 hb (fun v12 b12 => ⟨fun hne => ⟨by omega, hnext hc _ _ ⟨by omega, b12, ?_, ?_⟩⟩, fun he => ?_⟩)⟩
  · have hf := wd_full (L := L) hn.2 hoky (by omega)
    rw [hy] at hf ⊢
    exact fin v4 _ hb hf
  · rw [show (i + 1).toNat = i.toNat + 1 by omega, hy]; rfl
  · have := wd_grow (L := L) hn.2 hoky hne; omega
  · rw [hy] at he ⊢
    exact fin v12 _ b12 he
theorem SM_hull {x : Int} (w : wfL n L) (hn : 0 ≤ n ∧ n ≤ 24) (hx : r32 x) (h : MC v n L) (hq : ∀ v', MF v v' → MC v' n L → q (sp_hull n L x) v') : P_X11_hull x v q := by
  unfold P_X11_hull
  refine S_isSetM w hn hx h (fun v' f c => ⟨fun hs => ⟨fun h => absurd rfl h, fun _ => ?_⟩, fun l hs => ⟨fun _ => ?_, fun h => absurd h (by decide)⟩⟩)
  · have := hq v' f c
    unfold sp_hull at this; rwa [if_neg hs] at this
  have hok : okS n x := ⟨hx, isS_tb hn hs.2.2⟩
  intro X12 hX12
  refine wh1 (X := X12) (fun y => ∃ k, y = itw n L x k) (fun y => (24 - pc y).toNat) ?_ ⟨0, rfl⟩
  intro y ⟨k, hy⟩ hnext
  apply hX12
  have hoky := itw_ok (L := L) hn.2 hok k
  rw [← hy] at hoky
  have hpr := pc_r y
  refine S_spread_ w hn hoky.1 c.1 l.1 ⟨fun he => ?_, fun hne => S_spread_ w hn hoky.1 c.1 l.1 (hnext _ ⟨k + 1, by rw [hy]; rfl⟩ ?_)⟩
  · rw [hy] at he ⊢
    have := hq v' f c
    unfold sp_hull at this; rwa [if_pos hs, hl_is he] at this
  · have := wd_grow (L := L) hn.2 hoky hne
    have := pc_r (wd n L y)
    omega
end Q8

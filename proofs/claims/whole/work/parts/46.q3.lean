/-! ===== why; the seat as the document tells it ===== -/
theorem wy_ex (n : Int) (L : List Ln) : ∃ t : Int × Int × Int, (∃ r x y, rsn n L r x y) → rsn n L t.1 t.2.1 t.2.2 := by
  by_cases h : ∃ r x y, rsn n L r x y
  · obtain ⟨r, x, y, h⟩ := h
    exact ⟨(r, x, y), fun _ => h⟩
  · exact ⟨(0, 0, 0), fun h' => absurd h' h⟩
noncomputable def wyT (n : Int) (L : List Ln) : Int × Int × Int := Classical.choose (wy_ex n L)
noncomputable def wy (n : Int) (L : List Ln) : Int := (wyT n L).1
theorem wy_is {n r x y : Int} {L : List Ln} (w : wfL n L) (h : rsn n L r x y) : r = wy n L ∧ (r ≠ 0 → x = (wyT n L).2.1 ∧ y = (wyT n L).2.2) ∧ (wy n L = 0 → pcb n L) := by
  have h2 : rsn n L (wyT n L).1 (wyT n L).2.1 (wyT n L).2.2 := Classical.choose_spec (wy_ex n L) ⟨r, x, y, h⟩
  have h3 := rsn_one h h2
  refine ⟨h3.1, h3.2, fun e => ?_⟩
  unfold wy at e
  rw [e] at h2
  exact pcb_of w h2
def st (n : Int) (L : List Ln) : Prop := wy n L = 0 ∧ 0 < n
def seatX (v : VT) (n : Int) (L : List Ln) : Prop := v 197 5 = n ∧ v 197 2 = wy n L ∧ (wy n L ≠ 0 → v 197 3 = (wyT n L).2.1 ∧ v 197 4 = (wyT n L).2.2) ∧ ((v 197 1 = 1 ∧ st n L ∧ pcb n L ∧ kc L ≤ n - 1 ∧ v 197 6 = kc L ∧ (∀ c : Int, 0 ≤ c → c < n → v 198 c.toNat = sd L (kc L) c) ∧ (∀ d : Int, 0 ≤ d → d < kc L → v 199 d.toNat = bs n (hs L d))) ∨ (v 197 1 = 0 ∧ ¬ st n L ∧ v 197 6 = 0))
theorem seat_of {n : Int} {L : List Ln} {v : VT} (w : wfL n L) (h : stX v n L) : seatX v n L := by
  obtain ⟨h1, h2, h3⟩ := h
  have hw := wy_is w h2
  refine ⟨h1, hw.1, fun e => hw.2.1 (by rw [hw.1]; exact e), ?_⟩
  rcases h3 with ⟨a1, a2, a3, a4, a5, a6⟩ | ⟨a1, a2, a3⟩
  · have hp := hw.2.2 (by rw [← hw.1]; exact a2)
    exact Or.inl ⟨a1, ⟨by rw [← hw.1]; exact a2, a3⟩, hp, kc_lt w hp a3, a4, a5, a6⟩
  · exact Or.inr ⟨a1, fun hs => a2 ⟨by rw [hw.1]; exact hs.1, hs.2⟩, a3⟩
/-- the reference's view -/
def seatM (v : VT) (n : Int) (L : List Ln) : Prop := v 218 18 = kc L ∧ v 218 19 = wy n L ∧ (wy n L ≠ 0 → v 226 0 = (wyT n L).2.1 ∧ v 226 1 = (wyT n L).2.2) ∧ (wy n L = 0 → pcb n L ∧ (0 < n → kc L ≤ n - 1) ∧ ∀ c : Int, 0 ≤ c → c < n → v 228 c.toNat = sd L (kc L) c)
theorem seatM_of {n : Int} {L : List Ln} {v : VT} (w : wfL n L) (h : laid v n L) : seatM v n L := by
  obtain ⟨h1, h2, h3, h4⟩ := h
  have hw := wy_is w h3
  refine ⟨h2.1, hw.1, fun e => hw.2.1 (by rw [hw.1]; exact e), fun e => ⟨hw.2.2 e, fun h0 => kc_lt w (hw.2.2 e) h0, fun c c1 c2 => (h4 c c1 c2).1 (by rw [hw.1]; exact e)⟩⟩
section Seat
variable {n : Int} {L : List Ln} {v : VT}
theorem S_seat {q : VT → Prop} (w : wfL n L) (hn : 0 ≤ n ∧ n ≤ 24) (h : XC v n L) (hq : ∀ v', XF v v' → XC v' n L → v' 138 0 = 1 → mt v' n L → md v' n L → kOKx v' L → seatX v' n L → q v') : P_X10_seated v q :=
  S_seated w hn h (fun v' f c k0 m d o s => hq v' f c k0 m d o (seat_of w s))
theorem S_sits {q : Int → VT → Prop} (w : wfL n L) (hn : 0 ≤ n ∧ n ≤ 24) (h : MC v n L) (hq : ∀ v', MF v v' → MC v' n L → laid v' n L → seatM v' n L → (st n L → q 1 v') ∧ (¬ st n L → q 0 v')) : P_X11_sits v q := by
  unfold P_X11_sits
  refine S_lays w hn h (fun v' f c l => ?_)
  have s := seatM_of w l
  have hq' := hq v' f c l s
  rw [s.2.1, c.1.1]
  exact ⟨fun h => hq'.2 (fun hs => h hs.1), fun h => ⟨fun h2 => hq'.2 (fun hs => by have := hs.2; omega), fun h2 => hq'.1 ⟨h, h2⟩⟩⟩
/-- directions -/
theorem S_isDirection {x : Int} {q : Int → VT → Prop} (w : wfL n L) (hn : 0 ≤ n ∧ n ≤ 24) (h : XC v n L) (hq : ∀ v', XF v v' → XC v' n L → v' 138 0 = 1 → mt v' n L → md v' n L → kOKx v' L → seatX v' n L → (st n L ∧ 0 ≤ x ∧ x < kc L → q 1 v') ∧ (¬ (st n L ∧ 0 ≤ x ∧ x < kc L) → q 0 v')) : P_X10_isDirection x v q := by
  unfold P_X10_isDirection
  refine S_seat w hn h (fun v' f c k0 m d o s => ?_)
  have hq' := hq v' f c k0 m d o s
  rcases s.2.2.2 with ⟨a1, a2, a3, a4, a5, a6⟩ | ⟨a1, a2, a3⟩
  · rw [a1, a5]
    exact ⟨fun h => absurd h (by decide), fun _ => ⟨fun h => hq'.2 (by omega), fun h => ⟨fun h2 => hq'.2 (by omega), fun h2 => hq'.1 ⟨a2, h, h2⟩⟩⟩⟩
  · rw [a1]
    exact ⟨fun _ => hq'.2 (fun h => a2 h.1), fun h => absurd rfl h⟩
theorem S_isDirectionM {x : Int} {q : Int → VT → Prop} (w : wfL n L) (hn : 0 ≤ n ∧ n ≤ 24) (h : MC v n L) (hq : ∀ v', MF v v' → MC v' n L → laid v' n L → seatM v' n L → (st n L ∧ 0 ≤ x ∧ x < kc L → q 1 v') ∧ (¬ (st n L ∧ 0 ≤ x ∧ x < kc L) → q 0 v')) : P_X11_isDirection x v q := by
  have hkl : kc L ≤ L.length := nr_le (by omega)
  have hk0 := kc_pos (L := L)
  have hlen := w.2.2
  unfold P_X11_isDirection
  refine S_sits w hn h (fun v' f c l s => ⟨fun hs => ⟨fun h => absurd h (by decide), fun _ => ?_⟩, fun hs => ⟨fun _ => (hq v' f c l s).2 (fun h => hs h.1), fun h => absurd rfl h⟩⟩)
  have hq' := hq v' f c l s
  rw [s.1]
  exact ⟨by omega, S_isIn (fun hc => ⟨fun _ => hq'.2 (by omega), fun h => absurd rfl h⟩) (fun hc => ⟨fun h => absurd h (by decide), fun _ => hq'.1 ⟨hs, by omega, by omega⟩⟩)⟩
end Seat
theorem S_isOf {x d : Int} {v : VT} {q : Int → Prop} (h : 0 ≤ d ∧ d < 32) (h0 : tb x d.toNat = false → q 0) (h1 : tb x d.toNat = true → q 1) : P_X11_isOf x d v q := by
  unfold P_X11_isOf
  rw [bit_at h]
  cases hb : tb x d.toNat
  · exact ⟨fun _ => h0 hb, fun h => absurd h (by simp)⟩
  · exact ⟨fun h => absurd (by simp) h, fun _ => h1 hb⟩
/-- the nodes of side 1 -/
theorem S_sideOne {n d : Int} {L : List Ln} {v : VT} {q : Int → Prop} (hn : 0 ≤ n ∧ n ≤ 24) (hg : mG v 222 n L) (hd : 0 ≤ d ∧ d < kc L) (hk : kc L ≤ 23) (hs' : ∀ c : Int, 0 ≤ c → c < n → v 228 c.toNat = sd L (kc L) c) (hq : q (bs n (hs L d))) : P_X11_sideOne d v q := by
  unfold P_X11_sideOne
  rw [hg.1]
  intro X4 hX4
  refine up2r (X := X4) n (fun i acc => 0 ≤ i ∧ acc = bs i (hs L d)) ?_ (by omega) ⟨by omega, rfl⟩
  intro acc i hle ⟨i0, hacc⟩ hnext
  apply hX4
  refine ⟨fun hc => by rw [hacc, show i = n by omega]; exact hq, fun hc => ⟨by omega, ?_⟩⟩
  rw [hs' i i0 hc]
  have ht := sd_tb (L := L) hk i d.toNat
  rw [Int.toNat_of_nonneg hd.1] at ht
  refine S_isOf ⟨hd.1, by omega⟩ (fun hb => ⟨fun _ => ⟨by omega, hnext hc _ ⟨by omega, ?_⟩⟩, fun h => absurd rfl h⟩) (fun hb => ⟨fun h => absurd h (by decide), fun _ l2 e2 => ⟨by omega, hnext hc _ ⟨by omega, ?_⟩⟩⟩)
  · rw [hacc, bs_no i0 (fun h => by rw [ht.mpr ⟨hd.2, h⟩] at hb; exact absurd hb (by decide))]
  · rw [e2, hacc, bs_yes i0 (ht.mp hb).2]
noncomputable def cs (n : Int) (L : List Ln) (d : Int) : Int := pc (bs n (hs L d)) * (n - pc (bs n (hs L d)))
theorem pc_le {n : Int} (hn : 0 ≤ n ∧ n ≤ 24) (p : Int → Prop) : 0 ≤ pc (bs n p) ∧ pc (bs n p) ≤ n := by
  have h1 := (pc_r (bs n p)).1
  refine ⟨h1, ?_⟩
  unfold pc
  have h := fb_ct_split (fun k => tb (bs n p) k) n.toNat (24 - n.toNat)
  rw [show n.toNat + (24 - n.toNat) = 24 by omega] at h
  have h2 := fb_ct_le (fun k => tb (bs n p) k) n.toNat
  have h3 : fb_ct (fun k => tb (bs n p) (n.toNat + k)) (24 - n.toNat) = 0 := fb_ct_zero.mpr (fun k _ => by
    cases hb : tb (bs n p) (n.toNat + k)
    · rfl
    · have := ((bs_tb (by omega) p _).mp hb).1
      omega)
  show ((fb_ct (fun k => tb (bs n p) k) 24 : Nat) : Int) ≤ n
  omega
theorem mul_r {a b : Int} (ha : 0 ≤ a ∧ a ≤ 24) (hb : 0 ≤ b ∧ b ≤ 24) : 0 ≤ a * b ∧ a * b ≤ 576 := ⟨Int.mul_nonneg ha.1 hb.1, by
  have h1 := Int.mul_le_mul_of_nonneg_right ha.2 hb.1
  omega⟩
theorem S_costOf {n d : Int} {L : List Ln} {v : VT} {q : Int → Prop} (hn : 0 ≤ n ∧ n ≤ 24) (h5 : v 197 5 = n) (hd : 0 ≤ d ∧ d < 60) (h9 : v 199 d.toNat = bs n (hs L d)) (hq : q (cs n L d)) : P_X8_costOf d v q := by
  unfold P_X8_costOf
  rw [h5, h9]
  have hp := pc_le hn (hs L d)
  have hm := mul_r (a := pc (bs n (hs L d))) (b := n - pc (bs n (hs L d))) (by omega) (by omega)
  exact ⟨hd, S_bitCount (bs_small hn.2 _) ⟨by omega, by omega, hq⟩⟩
theorem S_costOfM {n d : Int} {L : List Ln} {v : VT} {q : Int → Prop} (hn : 0 ≤ n ∧ n ≤ 24) (hg : mG v 222 n L) (hd : 0 ≤ d ∧ d < kc L) (hk : kc L ≤ 23) (hs' : ∀ c : Int, 0 ≤ c → c < n → v 228 c.toNat = sd L (kc L) c) (hq : q (cs n L d)) : P_X11_costOf d v q := by
  unfold P_X11_costOf
  have hp := pc_le hn (hs L d)
  have hm := mul_r (a := pc (bs n (hs L d))) (b := n - pc (bs n (hs L d))) (by omega) (by omega)
  refine S_sideOne hn hg hd hk hs' (S_count ?_)
  rw [hg.1]
  exact ⟨by omega, by omega, hq⟩
section Q3
variable {n : Int} {L : List Ln} {v : VT} {q : Int → VT → Prop}
noncomputable def sp_shows (n : Int) (L : List Ln) (x : Int) : Int := if wy n L = 0 then -1 else if x = 0 then (wyT n L).2.1 else if x = 1 then (wyT n L).2.2 else -1
theorem SX_shows {x : Int} (w : wfL n L) (hn : 0 ≤ n ∧ n ≤ 24) (h : XC v n L) (hq : ∀ v', XF v v' → XC v' n L → q (sp_shows n L x) v') : P_X10_shows x v q := by
  unfold P_X10_shows
  refine S_seat w hn h (fun v' f c k0 m d o s => ?_)
  have := hq v' f c
  unfold sp_shows at this
  rw [s.2.1]
  refine ⟨fun h => ?_, fun h => by rwa [if_pos h] at this⟩
  rw [if_neg h] at this
  rw [(s.2.2.1 h).1, (s.2.2.1 h).2]
  refine ⟨fun h0 => ⟨fun h1 => ?_, fun h1 => ?_⟩, fun h0 => ?_⟩
  · rwa [if_neg h0, if_neg h1] at this
  · rwa [if_neg h0, if_pos h1] at this
  · rwa [if_pos h0] at this
theorem SM_shows {x : Int} (w : wfL n L) (hn : 0 ≤ n ∧ n ≤ 24) (h : MC v n L) (hq : ∀ v', MF v v' → MC v' n L → q (sp_shows n L x) v') : P_X11_shows x v q := by
  unfold P_X11_shows
  refine S_lays w hn h (fun v' f c l => ?_)
  have s := seatM_of w l
  have := hq v' f c
  unfold sp_shows at this
  rw [s.2.1]
  refine ⟨fun h => by rwa [if_pos h] at this, fun h => S_isIn (fun hc => ⟨fun _ => ?_, fun h => absurd rfl h⟩) (fun hc => ⟨fun h => absurd h (by decide), fun _ => ⟨by omega, ?_⟩⟩)⟩
  · rwa [if_neg h, if_neg (by omega), if_neg (by omega)] at this
  · rw [if_neg h] at this
    by_cases e : x = 0
    · rw [if_pos e] at this; rw [e]; rw [(s.2.2.1 h).1.symm] at this; exact this
    · rw [if_neg e, if_pos (by omega)] at this; rw [show x = 1 by omega]; rw [(s.2.2.1 h).2.symm] at this; exact this
noncomputable def sp_sides (n : Int) (L : List Ln) (x : Int) : Int := @ite _ (st n L ∧ 0 ≤ x ∧ x < n) (Classical.propDecidable _) (sd L (kc L) x) (-1)
theorem SX_sides {x : Int} (w : wfL n L) (hn : 0 ≤ n ∧ n ≤ 24) (h : XC v n L) (hq : ∀ v', XF v v' → XC v' n L → q (sp_sides n L x) v') : P_X10_sides x v q := by
  unfold P_X10_sides
  refine S_seat w hn h (fun v' f c k0 m d o s => ?_)
  have := hq v' f c
  unfold sp_sides at this
  rcases s.2.2.2 with ⟨a1, a2, a3, a4, a5, a6, a7⟩ | ⟨a1, a2, a3⟩
  · rw [a1]
    refine ⟨fun h => absurd h (by decide), fun _ => S_isNode c.1 (fun hc => ⟨fun h => absurd rfl h, fun _ => by rwa [if_neg (fun h => hc h.2)] at this⟩) (fun hc => ⟨fun _ => ⟨by omega, ?_⟩, fun h => absurd h (by decide)⟩)⟩
    rw [if_pos ⟨a2, hc⟩] at this
    rwa [a6 x hc.1 hc.2]
  · rw [a1]
    exact ⟨fun _ => by rwa [if_neg (fun h => a2 h.1)] at this, fun h => absurd rfl h⟩
theorem SM_sides {x : Int} (w : wfL n L) (hn : 0 ≤ n ∧ n ≤ 24) (h : MC v n L) (hq : ∀ v', MF v v' → MC v' n L → q (sp_sides n L x) v') : P_X11_sides x v q := by
  unfold P_X11_sides
  refine S_sits w hn h (fun v' f c l s => ?_)
  have := hq v' f c
  unfold sp_sides at this
  refine ⟨fun hs => ⟨fun h => absurd h (by decide), fun _ => S_isNodeM hn c.1 (fun hc => ⟨fun _ => by rwa [if_neg (fun h => hc h.2)] at this, fun h => absurd rfl h⟩) (fun hc => ⟨fun h => absurd h (by decide), fun _ => ⟨by omega, ?_⟩⟩)⟩, fun hs => ⟨fun _ => by rwa [if_neg (fun h => hs h.1)] at this, fun h => absurd rfl h⟩⟩
  rw [if_pos ⟨hs, hc⟩] at this
  rwa [(s.2.2.2 hs.1).2.2 x hc.1 hc.2]
/-- the node of given sides -/
theorem na_ex (n : Int) (L : List Ln) (x : Int) : ∃ c : Int, (c = -1 ∧ ∀ k : Int, 0 ≤ k → k < n → sd L (kc L) k ≠ x) ∨ (0 ≤ c ∧ c < n ∧ sd L (kc L) c = x ∧ ∀ k : Int, 0 ≤ k → k < c → sd L (kc L) k ≠ x) := by
  by_cases h : ∃ i : Nat, i < n.toNat ∧ sd L (kc L) (i : Int) = x
  · obtain ⟨i, h1, h2, h3⟩ := fb_first (p := fun i : Nat => sd L (kc L) (i : Int) = x) h
    exact ⟨(i : Int), Or.inr ⟨by omega, by omega, h2, fun k k1 k2 e => h3 k.toNat (by omega) (by show sd L (kc L) _ = x; rw [Int.toNat_of_nonneg k1]; exact e)⟩⟩
  · exact ⟨-1, Or.inl ⟨rfl, fun k k1 k2 e => h ⟨k.toNat, by omega, by rw [Int.toNat_of_nonneg k1]; exact e⟩⟩⟩
noncomputable def na (n : Int) (L : List Ln) (x : Int) : Int := Classical.choose (na_ex n L x)
theorem na_spec (n : Int) (L : List Ln) (x : Int) : (na n L x = -1 ∧ ∀ k : Int, 0 ≤ k → k < n → sd L (kc L) k ≠ x) ∨ (0 ≤ na n L x ∧ na n L x < n ∧ sd L (kc L) (na n L x) = x ∧ ∀ k : Int, 0 ≤ k → k < na n L x → sd L (kc L) k ≠ x) := Classical.choose_spec (na_ex n L x)
theorem na_none {x : Int} (h : ∀ k : Int, 0 ≤ k → k < n → sd L (kc L) k ≠ x) : na n L x = -1 := by
  rcases na_spec n L x with h1 | ⟨h1, h2, h3, -⟩
  · exact h1.1
  · exact absurd h3 (h _ h1 h2)
theorem na_at {x c : Int} (hc : 0 ≤ c ∧ c < n) (h : sd L (kc L) c = x) (h2 : ∀ k : Int, 0 ≤ k → k < c → sd L (kc L) k ≠ x) : na n L x = c := by
  rcases na_spec n L x with ⟨-, h1⟩ | ⟨h1, h3, h4, h5⟩
  · exact absurd h (h1 c hc.1 hc.2)
  · by_cases e : na n L x < c
    · exact absurd h4 (h2 _ h1 e)
    · by_cases e2 : c < na n L x
      · exact absurd h (h5 c hc.1 e2)
      · omega
theorem S_nodeAt {x : Int} {q : Int → Prop} (hn : 0 ≤ n ∧ n ≤ 24) (h5 : v 197 5 = n) (h8 : ∀ c : Int, 0 ≤ c → c < n → v 198 c.toNat = sd L (kc L) c) (hq : q (na n L x)) : P_X8_nodeAt x v q := by
  unfold P_X8_nodeAt
  rw [h5]
  intro X2 hX2
  refine up1 (X := X2) n (fun i => 0 ≤ i ∧ ∀ k : Int, 0 ≤ k → k < i → sd L (kc L) k ≠ x) ?_ (by omega) ⟨by omega, fun k k1 k2 => by omega⟩
  intro i hle ⟨i0, hb⟩ hnext
  apply hX2
  refine ⟨fun hc => by rw [na_none (fun k k1 k2 => hb k k1 (by omega))] at hq; exact hq, fun hc => ⟨by omega, ?_⟩⟩
  rw [h8 i i0 hc]
  refine ⟨fun h => ⟨by omega, hnext hc ⟨by omega, fun k k1 k2 => ?_⟩⟩, fun h => by rw [na_at ⟨i0, hc⟩ h hb] at hq; exact hq⟩
  by_cases e : k = i
  · rw [e]; exact h
  · exact hb k k1 (by omega)
theorem S_nodeAtM {x : Int} {q : Int → Prop} (hn : 0 ≤ n ∧ n ≤ 24) (h5 : v 222 0 = n) (h8 : ∀ c : Int, 0 ≤ c → c < n → v 228 c.toNat = sd L (kc L) c) (hq : q (na n L x)) : P_X11_nodeAt x v q := by
  unfold P_X11_nodeAt
  rw [h5]
  intro X2 hX2
  refine up1 (X := X2) n (fun i => 0 ≤ i ∧ ∀ k : Int, 0 ≤ k → k < i → sd L (kc L) k ≠ x) ?_ (by omega) ⟨by omega, fun k k1 k2 => by omega⟩
  intro i hle ⟨i0, hb⟩ hnext
  apply hX2
  refine ⟨fun hc => by rw [na_none (fun k k1 k2 => hb k k1 (by omega))] at hq; exact hq, fun hc => ⟨by omega, ?_⟩⟩
  rw [h8 i i0 hc]
  refine ⟨fun h => ⟨by omega, hnext hc ⟨by omega, fun k k1 k2 => ?_⟩⟩, fun h => by rw [na_at ⟨i0, hc⟩ h hb] at hq; exact hq⟩
  by_cases e : k = i
  · rw [e]; exact h
  · exact hb k k1 (by omega)
noncomputable def sp_at (n : Int) (L : List Ln) (x : Int) : Int := @ite _ (st n L) (Classical.propDecidable _) (na n L x) (-1)
theorem SX_at {x : Int} (w : wfL n L) (hn : 0 ≤ n ∧ n ≤ 24) (h : XC v n L) (hq : ∀ v', XF v v' → XC v' n L → q (sp_at n L x) v') : P_X10_at x v q := by
  unfold P_X10_at
  refine S_seat w hn h (fun v' f c k0 m d o s => ?_)
  have := hq v' f c
  unfold sp_at at this
  rcases s.2.2.2 with ⟨a1, a2, a3, a4, a5, a6, a7⟩ | ⟨a1, a2, a3⟩
  · rw [a1]
    rw [if_pos a2] at this
    exact ⟨fun h => absurd h (by decide), fun _ => S_nodeAt hn s.1 a6 this⟩
  · rw [a1]
    exact ⟨fun _ => by rwa [if_neg a2] at this, fun h => absurd rfl h⟩
theorem SM_at {x : Int} (w : wfL n L) (hn : 0 ≤ n ∧ n ≤ 24) (h : MC v n L) (hq : ∀ v', MF v v' → MC v' n L → q (sp_at n L x) v') : P_X11_at x v q := by
  unfold P_X11_at
  refine S_sits w hn h (fun v' f c l s => ?_)
  have := hq v' f c
  unfold sp_at at this
  refine ⟨fun hs => ⟨fun h => absurd h (by decide), fun _ => ?_⟩, fun hs => ⟨fun _ => by rwa [if_neg hs] at this, fun h => absurd rfl h⟩⟩
  rw [if_pos hs] at this
  exact S_nodeAtM hn c.1.1 (s.2.2.2 hs.1).2.2 this
/-- opposite -/
noncomputable def op (L : List Ln) (x : Int) : Int := bs (kc L) (fun d => ¬ hs L d x)
noncomputable def sp_opposite (n : Int) (L : List Ln) (x : Int) : Int := @ite _ (st n L ∧ 0 ≤ x ∧ x < n) (Classical.propDecidable _) (na n L (op L x)) (-1)
theorem op_x {x : Int} (hk : kc L ≤ 23) : i_xor (sd L (kc L) x) (i_shl 1 (kc L) - 1) = op L x := by
  refine bs_eq (by omega) (r32_xor _ _) (fun k _ => ?_)
  have hk0 := kc_pos (L := L)
  rw [tb_xor, tb_all ⟨hk0, by omega⟩]
  have ht := sd_tb (L := L) hk x k
  cases hb : tb (sd L (kc L) x) k
  · have : ¬ ((k : Int) < kc L ∧ hs L (k : Int) x) := fun h => by rw [ht.mpr h] at hb; exact absurd hb (by decide)
    simp only [Bool.false_xor, decide_eq_true_eq]
    exact ⟨fun h => ⟨by omega, fun h2 => this ⟨by omega, h2⟩⟩, fun h => by omega⟩
  · have := ht.mp hb
    simp only [Bool.true_xor, Bool.not_eq_true', decide_eq_false_iff_not]
    exact ⟨fun h => absurd (by omega) h, fun h => absurd this.2 h.2⟩
theorem op_m {x : Int} (hk : kc L ≤ 23) : i_and (i_shl 1 (kc L) - 1) (i_xor (sd L (kc L) x) (-1)) = op L x := by
  refine bs_eq (by omega) (r32_and _ _) (fun k hk2 => ?_)
  have hk0 := kc_pos (L := L)
  rw [tb_and, tb_not _ hk2, tb_all ⟨hk0, by omega⟩]
  have ht := sd_tb (L := L) hk x k
  cases hb : tb (sd L (kc L) x) k
  · have : ¬ ((k : Int) < kc L ∧ hs L (k : Int) x) := fun h => by rw [ht.mpr h] at hb; exact absurd hb (by decide)
    simp only [Bool.not_false, Bool.and_true, decide_eq_true_eq]
    exact ⟨fun h => ⟨by omega, fun h2 => this ⟨by omega, h2⟩⟩, fun h => by omega⟩
  · have := ht.mp hb
    simp only [Bool.not_true, Bool.and_false, Bool.false_eq_true, false_iff]
    exact fun h => h.2 this.2
theorem SX_opposite {x : Int} (w : wfL n L) (hn : 0 ≤ n ∧ n ≤ 24) (h : XC v n L) (hq : ∀ v', XF v v' → XC v' n L → q (sp_opposite n L x) v') : P_X10_opposite x v q := by
  unfold P_X10_opposite
  refine S_seat w hn h (fun v' f c k0 m d o s => ?_)
  have := hq v' f c
  unfold sp_opposite at this
  have hk0 := kc_pos (L := L)
  rcases s.2.2.2 with ⟨a1, a2, a3, a4, a5, a6, a7⟩ | ⟨a1, a2, a3⟩
  · rw [a1, a5]
    refine ⟨fun h => absurd h (by decide), fun _ => S_isNode c.1 (fun hc => ⟨fun h => absurd rfl h, fun _ => by rwa [if_neg (fun h => hc h.2)] at this⟩) (fun hc => ⟨fun _ => ⟨by omega, S_allBits ⟨hk0, by omega⟩ ?_⟩, fun h => absurd h (by decide)⟩)⟩
    rw [if_pos ⟨a2, hc⟩] at this
    rw [a6 x hc.1 hc.2, op_x (by omega)]
    exact S_nodeAt hn s.1 a6 this
  · rw [a1]
    exact ⟨fun _ => by rwa [if_neg (fun h => a2 h.1)] at this, fun h => absurd rfl h⟩
theorem SM_opposite {x : Int} (w : wfL n L) (hn : 0 ≤ n ∧ n ≤ 24) (h : MC v n L) (hq : ∀ v', MF v v' → MC v' n L → q (sp_opposite n L x) v') : P_X11_opposite x v q := by
  unfold P_X11_opposite
  have hk0 := kc_pos (L := L)
  refine S_sits w hn h (fun v' f c l s => ?_)
  have := hq v' f c
  unfold sp_opposite at this
  refine ⟨fun hs => ⟨fun h => absurd h (by decide), fun _ => S_isNodeM hn c.1 (fun hc => ⟨fun _ => by rwa [if_neg (fun h => hc h.2)] at this, fun h => absurd rfl h⟩) (fun hc => ⟨fun h => absurd h (by decide), fun _ => ?_⟩)⟩, fun hs => ⟨fun _ => by rwa [if_neg (fun h => hs h.1)] at this, fun h => absurd rfl h⟩⟩
  rw [if_pos ⟨hs, hc⟩] at this
  obtain ⟨b1, b2, b3⟩ := s.2.2.2 hs.1
  have b2 := b2 hs.2
  have hr := r_all (n := kc L) ⟨hk0, by omega⟩
  rw [s.1, b3 x hc.1 hc.2, op_m (by omega)]
  exact ⟨by omega, by omega, S_nodeAtM hn c.1.1 b3 this⟩
end Q3

/-! ===== fit, has, sort, even ===== -/
section Q5
variable {n : Int} {L : List Ln} {v : VT} {q : Int → VT → Prop}
theorem S_isHalf {x : Int} {q : Int → VT → Prop} (w : wfL n L) (hn : 0 ≤ n ∧ n ≤ 24) (h : XC v n L) (hq : ∀ v', XF v v' → XC v' n L → seatX v' n L → (st n L ∧ 0 ≤ x ∧ x < 2 * kc L → q 1 v') ∧ (¬ (st n L ∧ 0 ≤ x ∧ x < 2 * kc L) → q 0 v')) : P_X10_isHalf x v q := by
  unfold P_X10_isHalf
  have hk0 := kc_pos (L := L)
  refine S_seat w hn h (fun v' f c k0 m d o s => ?_)
  have hq' := hq v' f c s
  rcases s.2.2.2 with ⟨a1, a2, a3, a4, a5, a6⟩ | ⟨a1, a2, a3⟩
  · rw [a1, a5]
    exact ⟨fun h => absurd h (by decide), fun _ => ⟨fun h => hq'.2 (by omega), fun h => ⟨by omega, fun h2 => hq'.2 (by omega), fun h2 => hq'.1 ⟨a2, h, h2⟩⟩⟩⟩
  · rw [a1]
    exact ⟨fun _ => hq'.2 (fun h => a2 h.1), fun h => absurd rfl h⟩
theorem S_isHalfM {x : Int} {q : Int → VT → Prop} (w : wfL n L) (hn : 0 ≤ n ∧ n ≤ 24) (h : MC v n L) (hq : ∀ v', MF v v' → MC v' n L → seatM v' n L → (st n L ∧ 0 ≤ x ∧ x < 2 * kc L → q 1 v') ∧ (¬ (st n L ∧ 0 ≤ x ∧ x < 2 * kc L) → q 0 v')) : P_X11_isHalf x v q := by
  have hkl : kc L ≤ L.length := nr_le (by omega)
  have hk0 := kc_pos (L := L)
  have hlen := w.2.2
  unfold P_X11_isHalf
  refine S_sits w hn h (fun v' f c l s => ⟨fun hs => ⟨fun h => absurd h (by decide), fun _ => ?_⟩, fun hs => ⟨fun _ => (hq v' f c s).2 (fun h => hs h.1), fun h => absurd rfl h⟩⟩)
  have hq' := hq v' f c s
  rw [s.1]
  exact ⟨by omega, by omega, S_isIn (fun hc => ⟨fun _ => hq'.2 (by omega), fun h => absurd rfl h⟩) (fun hc => ⟨fun h => absurd h (by decide), fun _ => hq'.1 ⟨hs, by omega, by omega⟩⟩)⟩
def ft (n : Int) (L : List Ln) (a b : Int) : Prop := i_or (hf n L a) (hf n L b) = i_shl 1 n - 1 ∧ i_and (hf n L a) (hf n L b) ≠ 0
noncomputable def sp_fit (n : Int) (L : List Ln) (a b : Int) : Int := @ite _ ((st n L ∧ 0 ≤ a ∧ a < 2 * kc L) ∧ (st n L ∧ 0 ≤ b ∧ b < 2 * kc L) ∧ a ≠ b) (Classical.propDecidable _) (@ite _ (ft n L a b) (Classical.propDecidable _) 1 0) (-1)
theorem S_doFit {a b : Int} {q : Int → Prop} (hn : 0 ≤ n ∧ n ≤ 24) (h5 : v 197 5 = n) (hk : kc L ≤ 23) (h9 : ∀ d : Int, 0 ≤ d → d < kc L → v 199 d.toNat = bs n (hs L d)) (ha : 0 ≤ a ∧ a < 2 * kc L) (hb : 0 ≤ b ∧ b < 2 * kc L) (h0 : ¬ ft n L a b → q 0) (h1 : ft n L a b → q 1) : P_X8_doFit a b v q := by
  unfold P_X8_doFit
  refine S_halfOf hn h5 hk h9 ha (S_halfOf hn h5 hk h9 hb ?_)
  rw [h5]
  exact S_allBits ⟨hn.1, by omega⟩ ⟨fun h => h0 (fun g => h g.1), fun h => ⟨fun g => h0 (fun g2 => g2.2 g), fun g => h1 ⟨h, g⟩⟩⟩
theorem S_doFitM {a b : Int} {q : Int → Prop} (hn : 0 ≤ n ∧ n ≤ 24) (hg : mG v 222 n L) (hk : kc L ≤ 23) (hs' : ∀ c : Int, 0 ≤ c → c < n → v 228 c.toNat = sd L (kc L) c) (ha : 0 ≤ a ∧ a < 2 * kc L) (hb : 0 ≤ b ∧ b < 2 * kc L) (h0 : ¬ ft n L a b → q 0) (h1 : ft n L a b → q 1) : P_X11_doFit a b v q := by
  unfold P_X11_doFit
  exact S_half hn hg hk hs' ha (S_half hn hg hk hs' hb (S_all hn hg ⟨fun h => h0 (fun g => h g.1), fun h => S_half hn hg hk hs' ha (S_half hn hg hk hs' hb ⟨fun g => h0 (fun g2 => g2.2 g), fun g => h1 ⟨h, g⟩⟩)⟩))
theorem SX_fit {a b : Int} (w : wfL n L) (hn : 0 ≤ n ∧ n ≤ 24) (h : XC v n L) (hq : ∀ v', XF v v' → XC v' n L → q (sp_fit n L a b) v') : P_X10_fit a b v q := by
  unfold P_X10_fit
  have no : ∀ v', XF v v' → XC v' n L → ¬ ((st n L ∧ 0 ≤ a ∧ a < 2 * kc L) ∧ (st n L ∧ 0 ≤ b ∧ b < 2 * kc L) ∧ a ≠ b) → q (-1) v' := fun v' f c hc => by
    have := hq v' f c
    unfold sp_fit at this; rwa [if_neg hc] at this
  refine ⟨fun e => no v (XF_rf v) h (fun g => g.2.2 e), fun e => ?_⟩
  refine S_isHalf w hn h (fun v1 f1 c1 s1 => ⟨fun ha => ⟨fun h => absurd h (by decide), fun _ => ?_⟩, fun ha => ⟨fun _ => no v1 f1 c1 (fun g => ha g.1), fun h => absurd rfl h⟩⟩)
  refine S_isHalf w hn c1 (fun v2 f2 c2 s2 => ⟨fun hb => ⟨fun _ => ?_, fun h => absurd h (by decide)⟩, fun hb => ⟨fun h => absurd rfl h, fun _ => no v2 (XF_trans f1 f2) c2 (fun g => hb g.2.1)⟩⟩)
  have := hq v2 (XF_trans f1 f2) c2
  unfold sp_fit at this
  rw [if_pos ⟨ha, hb, e⟩] at this
  rcases s2.2.2.2 with ⟨a1, a2, a3, a4, a5, a6, a7⟩ | ⟨a1, a2, a3⟩
  · exact S_doFit hn s2.1 (by omega) a7 ha.2 hb.2 (fun g => ⟨fun _ => by rwa [if_neg g] at this, fun h => absurd rfl h⟩) (fun g => ⟨fun h => absurd h (by decide), fun _ => by rwa [if_pos g] at this⟩)
  · exact absurd ha.1 a2
theorem SM_fit {a b : Int} (w : wfL n L) (hn : 0 ≤ n ∧ n ≤ 24) (h : MC v n L) (hq : ∀ v', MF v v' → MC v' n L → q (sp_fit n L a b) v') : P_X11_fit a b v q := by
  unfold P_X11_fit
  have no : ∀ v', MF v v' → MC v' n L → ¬ ((st n L ∧ 0 ≤ a ∧ a < 2 * kc L) ∧ (st n L ∧ 0 ≤ b ∧ b < 2 * kc L) ∧ a ≠ b) → q (-1) v' := fun v' f c hc => by
    have := hq v' f c
    unfold sp_fit at this; rwa [if_neg hc] at this
  refine S_isHalfM w hn h (fun v1 f1 c1 s1 => ⟨fun ha => ⟨fun h => absurd h (by decide), fun _ => ?_⟩, fun ha => ⟨fun _ => no v1 f1 c1 (fun g => ha g.1), fun h => absurd rfl h⟩⟩)
  refine S_isHalfM w hn c1 (fun v2 f2 c2 s2 => ⟨fun hb => ⟨fun h => absurd h (by decide), fun _ => ⟨fun e => no v2 (MF_trans f1 f2) c2 (fun g => g.2.2 e), fun e => ?_⟩⟩, fun hb => ⟨fun _ => no v2 (MF_trans f1 f2) c2 (fun g => hb g.2.1), fun h => absurd rfl h⟩⟩)
  have := hq v2 (MF_trans f1 f2) c2
  unfold sp_fit at this
  rw [if_pos ⟨ha, hb, e⟩] at this
  obtain ⟨b1, b2, b3⟩ := s2.2.2.2 ha.1.1
  have b2 := b2 ha.1.2
  exact S_doFitM hn c2.1 (by omega) b3 ha.2 hb.2 (fun g => S_flag (fun _ => by rwa [if_neg g] at this) (fun h => absurd rfl h)) (fun g => S_flag (fun h => absurd h (by decide)) (fun _ => by rwa [if_pos g] at this))
/-- fair: every line costs what the least of its kind costs -/
def fair (L : List Ln) : Prop := ∀ i : Int, 0 ≤ i → i < L.length → pr L i = pr L (rt L.length (RA L) i)
theorem S_isFair {q : Int → Prop} (w : wfL n L) (hg : xG v 10 n L) (hk : kOKx v L) (h0 : ¬ fair L → q 0) (h1 : fair L → q 1) : P_X1_isFair v q := by
  obtain ⟨g0, g1, g2⟩ := xG_10 hg
  have hlen := w.2.2
  have hR := RA_ok L
  unfold P_X1_isFair
  rw [g1]
  intro X2 hX2
  refine up1 (X := X2) (L.length : Int) (fun i => 0 ≤ i ∧ ∀ k : Int, 0 ≤ k → k < i → pr L k = pr L (rt L.length (RA L) k)) ?_ (by omega) ⟨by omega, fun k k1 k2 => by omega⟩
  intro i hle ⟨i0, hb⟩ hnext
  apply hX2
  refine ⟨fun hc => h1 (fun k k1 k2 => hb k k1 (by omega)), fun hc => ?_⟩
  have hr := rt_le hR ⟨i0, hc⟩
  have hrr := rt_rt hR ⟨i0, hc⟩
  have hkd := kd_in hR ⟨i0, hc⟩
  have hnl : nr L.length (RA L) L.length ≤ L.length := nr_le (by omega)
  have e4 := (hk.2.2 _ hr.1 hr.2.2 hrr).1
  have e2 := hk.2.1 i i0 hc
  have e4' : v 194 (kd L.length (RA L) i).toNat = rt L.length (RA L) i := e4
  rw [e2, e4', (g2 i i0 hc).2.2, (g2 _ hr.1 hr.2.2).2.2]
  refine ⟨by omega, by omega, by omega, by omega, fun h => ⟨by omega, hnext hc ⟨by omega, fun k k1 k2 => ?_⟩⟩, fun h => h0 (fun g => h (g i i0 hc))⟩
  by_cases e : k = i
  · rw [e]; exact h
  · exact hb k k1 (by omega)
theorem S_isFairM {q : Int → Prop} (w : wfL n L) (hg : mG v 222 n L) (hk : kOKm v L) (h0 : ¬ fair L → q 0) (h1 : fair L → q 1) : P_X11_isFair v q := by
  have hlen := w.2.2
  have hR := RA_ok L
  unfold P_X11_isFair
  rw [hg.2.1]
  intro X2 hX2
  refine up1 (X := X2) (L.length : Int) (fun i => 0 ≤ i ∧ ∀ k : Int, 0 ≤ k → k < i → pr L k = pr L (rt L.length (RA L) k)) ?_ (by omega) ⟨by omega, fun k k1 k2 => by omega⟩
  intro i hle ⟨i0, hb⟩ hnext
  apply hX2
  refine ⟨fun hc => h1 (fun k k1 k2 => hb k k1 (by omega)), fun hc => ?_⟩
  have hr := rt_le hR ⟨i0, hc⟩
  have hrr := rt_rt hR ⟨i0, hc⟩
  have hkd := kd_in hR ⟨i0, hc⟩
  have hnl : nr L.length (RA L) L.length ≤ L.length := nr_le (by omega)
  have e2 := hk.2.1 i i0 hc
  have e4' : v 227 (kd L.length (RA L) i).toNat = rt L.length (RA L) i := hk.2.2 _ hr.1 hr.2.2 hrr
  refine S_priceOf w hg ⟨i0, hc⟩ ⟨by omega, by omega, ?_⟩
  rw [e2, e4']
  refine S_priceOf w hg ⟨hr.1, hr.2.2⟩ ⟨fun h => ⟨by omega, hnext hc ⟨by omega, fun k k1 k2 => ?_⟩⟩, fun h => h0 (fun g => h (g i i0 hc))⟩
  by_cases e : k = i
  · rw [e]; exact h
  · exact hb k k1 (by omega)
noncomputable def sp_has (n : Int) (L : List Ln) (vo se un x : Int) : Int := if x = 0 then n else if x = 1 then (L.length : Int) else if x = 2 then kc L else if x = 3 then vo else if x = 4 then se else if x = 5 then un else if x = 6 then wy n L else if x = 7 then @ite _ (fair L) (Classical.propDecidable _) 1 0 else -1
theorem SX_has {x : Int} (w : wfL n L) (hn : 0 ≤ n ∧ n ≤ 24) (h : XC v n L) (hq : ∀ v', XF v v' → XC v' n L → q (sp_has n L (v 0 15) (v 0 16) (v 16 0) x) v') : P_X10_has x v q := by
  have hq0 := hq v (XF_rf v) h
  unfold P_X10_has
  refine ⟨fun e => ?_, fun e => ?_, fun e => S_sorted w hn h (fun v' f c k0 m d o => ?_), fun e => ?_, fun e => ?_, fun e => ?_, fun e => S_seat w hn h (fun v' f c k0 m d o s => ?_), fun e => S_sorted w hn h (fun v' f c k0 m d o => ?_), fun e => ?_⟩
  · unfold sp_has at hq0; rw [if_pos e] at hq0; rw [h.1.1]; exact hq0
  · unfold sp_has at hq0; rw [if_neg (by omega), if_pos e] at hq0; rw [h.1.2.1]; exact hq0
  · have := hq v' f c
    unfold sp_has at this; rw [if_neg (by omega), if_neg (by omega), if_pos e] at this; rw [o.1]; exact this
  · unfold sp_has at hq0; rw [if_neg (by omega), if_neg (by omega), if_neg (by omega), if_pos e] at hq0; exact hq0
  · unfold sp_has at hq0; rw [if_neg (by omega), if_neg (by omega), if_neg (by omega), if_neg (by omega), if_pos e] at hq0; exact hq0
  · unfold sp_has at hq0; rw [if_neg (by omega), if_neg (by omega), if_neg (by omega), if_neg (by omega), if_neg (by omega), if_pos e] at hq0; exact hq0
  · have := hq v' f c
    unfold sp_has at this; rw [if_neg (by omega), if_neg (by omega), if_neg (by omega), if_neg (by omega), if_neg (by omega), if_neg (by omega), if_pos e] at this; rw [s.2.1]; exact this
  · have := hq v' f c
    unfold sp_has at this; rw [if_neg (by omega), if_neg (by omega), if_neg (by omega), if_neg (by omega), if_neg (by omega), if_neg (by omega), if_neg (by omega), if_pos e] at this
    exact S_isFair w c.1 o (fun g => ⟨fun _ => by rwa [if_neg g] at this, fun h => absurd rfl h⟩) (fun g => ⟨fun h => absurd h (by decide), fun _ => by rwa [if_pos g] at this⟩)
  · unfold sp_has at hq0; rw [if_neg (by omega), if_neg (by omega), if_neg (by omega), if_neg (by omega), if_neg (by omega), if_neg (by omega), if_neg (by omega), if_neg (by omega)] at hq0; exact hq0
theorem SM_has {x : Int} (w : wfL n L) (hn : 0 ≤ n ∧ n ≤ 24) (h : MC v n L) (hq : ∀ v', MF v v' → MC v' n L → q (sp_has n L (v 218 30) (v 218 33) (v 218 36) x) v') : P_X11_has x v q := by
  unfold P_X11_has
  refine S_lays w hn h (fun v' f c l => ?_)
  have s := seatM_of w l
  have this := hq v' f c
  rw [← f.2 30 (by decide) (by decide) (by decide), ← f.2 33 (by decide) (by decide) (by decide), ← f.2 36 (by decide) (by decide) (by decide)] at this
  unfold sp_has at this
  refine ⟨fun e => ?_, fun e => ?_, fun e => ?_, fun e => ?_, fun e => ?_, fun e => ?_, fun e => ?_, fun e => ?_, fun e => ?_⟩
  · rw [if_pos e] at this; rw [c.1.1]; exact this
  · rw [if_neg (by omega), if_pos e] at this; rw [c.1.2.1]; exact this
  · rw [if_neg (by omega), if_neg (by omega), if_pos e] at this; rw [s.1]; exact this
  · rw [if_neg (by omega), if_neg (by omega), if_neg (by omega), if_pos e] at this; exact this
  · rw [if_neg (by omega), if_neg (by omega), if_neg (by omega), if_neg (by omega), if_pos e] at this; exact this
  · rw [if_neg (by omega), if_neg (by omega), if_neg (by omega), if_neg (by omega), if_neg (by omega), if_pos e] at this; exact this
  · rw [if_neg (by omega), if_neg (by omega), if_neg (by omega), if_neg (by omega), if_neg (by omega), if_neg (by omega), if_pos e] at this; rw [s.2.1]; exact this
  · rw [if_neg (by omega), if_neg (by omega), if_neg (by omega), if_neg (by omega), if_neg (by omega), if_neg (by omega), if_neg (by omega), if_pos e] at this
    exact S_isFairM w c.1 l.2.1 (fun g => S_flag (fun _ => by rwa [if_neg g] at this) (fun h => absurd rfl h)) (fun g => S_flag (fun h => absurd h (by decide)) (fun _ => by rwa [if_pos g] at this))
  · rw [if_neg (by omega), if_neg (by omega), if_neg (by omega), if_neg (by omega), if_neg (by omega), if_neg (by omega), if_neg (by omega), if_neg (by omega)] at this; exact this
/-- the most costly direction -/
def bx (f : Int → Int) : Nat → Int
  | 0 => 0
  | k + 1 => if f (bx f k) < f (k : Int) then (k : Int) else bx f k
theorem bx_s (f : Int → Int) {k : Int} (h : 0 ≤ k) : bx f (k + 1).toNat = if f (bx f k.toNat) < f k then k else bx f k.toNat := by
  rw [show (k + 1).toNat = k.toNat + 1 by omega]
  show (if _ then _ else _) = _
  rw [Int.toNat_of_nonneg h]
theorem bx_one (f : Int → Int) : bx f 1 = 0 := by
  rw [show bx f 1 = if f (bx f 0) < f ((0 : Nat) : Int) then ((0 : Nat) : Int) else bx f 0 from rfl]
  split <;> rfl
theorem bx_r (f : Int → Int) : ∀ k : Nat, 0 < k → 0 ≤ bx f k ∧ bx f k < (k : Int)
  | 0, h => absurd h (by omega)
  | k + 1, _ => by
    rw [show bx f (k + 1) = if f (bx f k) < f (k : Int) then (k : Int) else bx f k from rfl]
    split
    · omega
    · by_cases hk : 0 < k
      · have := bx_r f k hk; omega
      · rw [show k = 0 by omega]; exact ⟨Int.le_refl 0, by show (0 : Int) < _; omega⟩
noncomputable def sp_even (n : Int) (L : List Ln) (x : Int) : Int := @ite _ (st n L ∧ kc L ≠ 0 ∧ 0 ≤ x ∧ x ≤ 1) (Classical.propDecidable _) (if x = 0 then bx (cs n L) (kc L).toNat else cs n L (bx (cs n L) (kc L).toNat)) (-1)
theorem SX_even {x : Int} (w : wfL n L) (hn : 0 ≤ n ∧ n ≤ 24) (h : XC v n L) (hq : ∀ v', XF v v' → XC v' n L → q (sp_even n L x) v') : P_X10_even x v q := by
  have hk0 := kc_pos (L := L)
  unfold P_X10_even
  have no : ∀ v', XF v v' → XC v' n L → ¬ (st n L ∧ kc L ≠ 0 ∧ 0 ≤ x ∧ x ≤ 1) → q (-1) v' := fun v' f c hc => by
    have := hq v' f c
    unfold sp_even at this; rwa [if_neg hc] at this
  refine ⟨fun h1 => no v (XF_rf v) h (by omega), fun h1 => ⟨fun h2 => no v (XF_rf v) h (by omega), fun h2 => S_seat w hn h (fun v' f c k0 m d o s => ?_)⟩⟩
  rcases s.2.2.2 with ⟨a1, a2, a3, a4, a5, a6, a7⟩ | ⟨a1, a2, a3⟩
  · rw [a1, a5]
    refine ⟨fun h => absurd h (by decide), fun _ => ⟨fun h3 => ?_, fun h3 => no v' f c (fun g => g.2.1 h3)⟩⟩
    have this := hq v' f c
    unfold sp_even at this
    rw [if_pos ⟨a2, h3, h1, h2⟩] at this
    intro X35 hX35
    refine up2r (X := X35) (kc L) (fun i b => 1 ≤ i ∧ b = bx (cs n L) i.toNat) ?_ (by omega) ⟨by omega, (bx_one _).symm⟩
    intro b i hle ⟨i0, hb⟩ hnext
    apply hX35
    have hbr := bx_r (cs n L) i.toNat (by omega)
    refine ⟨fun hc => ?_, fun hc => S_costOf hn s.1 ⟨by omega, by omega⟩ (a7 i (by omega) hc) (S_costOf hn s.1 ⟨by omega, by omega⟩ (a7 b (by omega) (by omega)) ⟨fun g => ⟨by omega, hnext hc _ ⟨by omega, ?_⟩⟩, fun g => ⟨by omega, hnext hc _ ⟨by omega, ?_⟩⟩⟩)⟩
    · have e : i = kc L := by omega
      refine ⟨fun g => S_costOf hn s.1 ⟨by omega, by omega⟩ (a7 b (by omega) (by omega)) ?_, fun g => ?_⟩
      · rw [if_neg g] at this; rw [hb, e]; exact this
      · rw [if_pos g] at this; rw [hb, e]; exact this
    · rw [bx_s _ (by omega), ← hb, if_neg (by omega)]
    · rw [bx_s _ (by omega), ← hb, if_pos g]
  · rw [a1]
    exact ⟨fun _ => no v' f c (fun g => a2 g.1), fun h => absurd rfl h⟩
theorem SM_even {x : Int} (w : wfL n L) (hn : 0 ≤ n ∧ n ≤ 24) (h : MC v n L) (hq : ∀ v', MF v v' → MC v' n L → q (sp_even n L x) v') : P_X11_even x v q := by
  have hk0 := kc_pos (L := L)
  unfold P_X11_even
  have no : ∀ v', MF v v' → MC v' n L → ¬ (st n L ∧ kc L ≠ 0 ∧ 0 ≤ x ∧ x ≤ 1) → q (-1) v' := fun v' f c hc => by
    have := hq v' f c
    unfold sp_even at this; rwa [if_neg hc] at this
  refine S_sits w hn h (fun v' f c l s => ⟨fun hs => ⟨fun h => absurd h (by decide), fun _ => ?_⟩, fun hs => ⟨fun _ => no v' f c (fun g => hs g.1), fun h => absurd rfl h⟩⟩)
  obtain ⟨b1, b2, b3⟩ := s.2.2.2 hs.1
  have b2 := b2 hs.2
  rw [s.1]
  refine ⟨fun h3 => no v' f c (fun g => g.2.1 h3), fun h3 => S_isIn (fun hc => ⟨fun h => absurd rfl h, fun _ => no v' f c (by omega)⟩) (fun hc => ⟨fun _ => ?_, fun h => absurd h (by decide)⟩)⟩
  have this := hq v' f c
  unfold sp_even at this
  rw [if_pos ⟨hs, h3, hc⟩] at this
  intro X30 hX30
  refine up2r (X := X30) (kc L) (fun i b => 1 ≤ i ∧ b = bx (cs n L) i.toNat) ?_ (by omega) ⟨by omega, (bx_one _).symm⟩
  intro b i hle ⟨i0, hb⟩ hnext
  apply hX30
  have hbr := bx_r (cs n L) i.toNat (by omega)
  refine ⟨fun hc => ?_, fun hc => S_costOfM hn c.1 ⟨by omega, hc⟩ (by omega) b3 (S_costOfM hn c.1 ⟨by omega, by omega⟩ (by omega) b3 ⟨fun g => ⟨by omega, hnext hc _ ⟨by omega, ?_⟩⟩, fun g => ⟨by omega, hnext hc _ ⟨by omega, ?_⟩⟩⟩)⟩
  · have e : i = kc L := by omega
    refine ⟨fun g => S_costOfM hn c.1 ⟨by omega, by omega⟩ (by omega) b3 ?_, fun g => ?_⟩
    · rw [if_neg g] at this; rw [hb, e]; exact this
    · rw [if_pos g] at this; rw [hb, e]; exact this
  · rw [bx_s _ (by omega), ← hb, if_neg (by omega)]
  · rw [bx_s _ (by omega), ← hb, if_pos g]
end Q5

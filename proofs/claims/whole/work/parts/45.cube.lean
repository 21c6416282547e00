/-! ===== networks that sit in a cube ===== -/
def pcb (n : Int) (L : List Ln) : Prop := conn n L ∧ non2 L.length n (fun _ => 0) (p2 L) ∧ ∀ i j : Int, 0 ≤ i → i < L.length → 0 ≤ j → j < L.length → kd L.length (RA L) i = kd L.length (RA L) j → alk L i j
theorem pcb_of {n x y : Int} {L : List Ln} (w : wfL n L) (h : rsn n L 0 x y) : pcb n L := by
  have hR := RA_ok L
  rcases h with ⟨h, -⟩ | ⟨h1, ⟨h, -⟩ | ⟨h2, ⟨h, -⟩ | ⟨-, h3⟩⟩⟩
  · exact absurd h (by decide)
  · exact absurd h (by decide)
  · exact absurd h (by decide)
  · refine ⟨fun a b a1 a2 b1 b2 => ?_, h2, fun i j i1 i2 j1 j2 e => ?_⟩
    · have g := dd_ge (L := L) (a := a) (b := b)
      by_cases hab : a = b
      · rw [hab, dd_self]; omega
      · by_cases hlt : a < b
        · have := h1 a b a1 a2 (by show a + 1 ≤ b; omega) b2
          unfold p1 at this; omega
        · have := h1 b a b1 b2 (by show b + 1 ≤ a; omega) a2
          unfold p1 at this
          rw [dd_symm] at this; omega
    · by_cases hij : i = j
      · rw [← hij]; exact alk_self w ⟨i1, i2⟩
      · by_cases hlt : i < j
        · exact Classical.byContradiction fun hc => h3 i j i1 i2 (by show i + 1 ≤ j; omega) j2 ⟨e, hc⟩
        · have : alk L j i := Classical.byContradiction fun hc => h3 j i j1 j2 (by show j + 1 ≤ i; omega) i2 ⟨e.symm, hc⟩
          exact (hR.2 j i ⟨j1, j2, i1, i2, this⟩).2.2.2.2
section Cube
variable {n : Int} {L : List Ln}
theorem lr_kd (d : Int) (hd : 0 ≤ d ∧ d < kc L) : 0 ≤ lr L d ∧ lr L d < L.length ∧ kd L.length (RA L) (lr L d) = d := by
  have h := lr_spec (L := L) (d := d) hd
  refine ⟨h.1, h.2.1, ?_⟩
  unfold kd
  rw [h.2.2.1]; exact h.2.2.2
theorem alk_kd {i j : Int} (h : pcb n L) (hi' : 0 ≤ i ∧ i < L.length) (hj : 0 ≤ j ∧ j < L.length) : alk L i j ↔ kd L.length (RA L) i = kd L.length (RA L) j := by
  have hR := RA_ok L
  refine ⟨fun ha => ?_, fun e => h.2.2 i j hi'.1 hi'.2 hj.1 hj.2 e⟩
  rw [kd_eq hR hi' hj, rt_cn hR hi' hj]
  exact cn_one ⟨hi'.1, hi'.2, hj.1, hj.2, ha⟩
theorem fl (w : wfL n L) (h : pcb n L) {k d : Int} (hk : 0 ≤ k ∧ k < L.length) (hd : 0 ≤ d ∧ d < kc L) : (hs L d (lo L k) ↔ hs L d (hi L k)) ↔ kd L.length (RA L) k ≠ d := by
  obtain ⟨r1, r2, r3⟩ := lr_kd d hd
  have wk1 := w.1 k hk.1 hk.2
  have wr := w.1 _ r1 r2
  have n1 := h.2.1 (lr L d) (lo L k) r1 r2 (by show (0 : Int) ≤ _; omega) (by omega)
  have n2 := h.2.1 (lr L d) (hi L k) r1 r2 (by show (0 : Int) ≤ _; omega) (by omega)
  have ha := alk_kd h ⟨r1, r2⟩ hk
  rw [r3] at ha
  have c1 := h.1 (lo L (lr L d)) (lo L k) (by omega) (by omega) (by omega) (by omega)
  have c2 := h.1 (hi L (lr L d)) (lo L k) (by omega) (by omega) (by omega) (by omega)
  have c3 := h.1 (lo L (lr L d)) (hi L k) (by omega) (by omega) (by omega) (by omega)
  have c4 := h.1 (hi L (lr L d)) (hi L k) (by omega) (by omega) (by omega) (by omega)
  have ar := line_adj (L := L) (k := lr L d) ⟨r1, r2⟩
  have s1 := dd_next ar (a := lo L k) (by rw [dd_symm]; exact c1)
  have s2 := dd_next (adj_symm ar) (a := lo L k) (by rw [dd_symm]; exact c2)
  have s3 := dd_next ar (a := hi L k) (by rw [dd_symm]; exact c3)
  have s4 := dd_next (adj_symm ar) (a := hi L k) (by rw [dd_symm]; exact c4)
  rw [dd_symm (a := lo L k), dd_symm (a := lo L k)] at s1 s2
  rw [dd_symm (a := hi L k), dd_symm (a := hi L k)] at s3 s4
  unfold p2 at n1 n2
  unfold alk at ha
  unfold hs
  constructor
  · intro e hne
    have := ha.mpr hne.symm
    omega
  · intro hne
    have : ¬ (0 ≤ dd L (lo L (lr L d)) (lo L k) ∧ dd L (lo L (lr L d)) (lo L k) + dd L (hi L (lr L d)) (hi L k) ≠ dd L (lo L (lr L d)) (hi L k) + dd L (hi L (lr L d)) (lo L k)) := fun hc => hne (ha.mp hc).symm
    omega
/-- a neighbour: by its line -/
theorem fl2 (w : wfL n L) (h : pcb n L) {a b d : Int} (hab : adj L a b) (hd : 0 ≤ d ∧ d < kc L) : ∃ k : Int, (0 ≤ k ∧ k < L.length) ∧ ((lo L k = a ∧ hi L k = b) ∨ (lo L k = b ∧ hi L k = a)) ∧ ((hs L d a ↔ hs L d b) ↔ kd L.length (RA L) k ≠ d) := by
  obtain ⟨k, k1, k2, k3⟩ := hab
  refine ⟨k, ⟨k1, k2⟩, k3, ?_⟩
  have := fl w h ⟨k1, k2⟩ hd
  rcases k3 with ⟨e1, e2⟩ | ⟨e1, e2⟩
  · rw [e1, e2] at this; exact this
  · rw [e1, e2] at this
    rw [← this]
    exact ⟨fun h => h.symm, fun h => h.symm⟩
theorem kc_pos : 0 ≤ kc L := nr_pos
theorem hs_ends (w : wfL n L) {d : Int} (hd : 0 ≤ d ∧ d < kc L) : ¬ hs L d (lo L (lr L d)) ∧ hs L d (hi L (lr L d)) := by
  obtain ⟨r1, r2, r3⟩ := lr_kd d hd
  have ar := line_adj (L := L) (k := lr L d) ⟨r1, r2⟩
  have := (dd_one w).mpr ar
  have := (dd_one w).mpr (adj_symm ar)
  unfold hs
  rw [dd_self, dd_self]
  omega
theorem kc_lt (w : wfL n L) (h : pcb n L) (hn : 0 < n) : kc L ≤ n - 1 := by
  -- a line of every node but the first to one nearer
  have ex : ∀ c : Int, ∃ k : Int, 0 < c → c < n → (0 ≤ k ∧ k < L.length) ∧ ∃ p : Int, dd L 0 p < dd L 0 c ∧ 0 ≤ dd L 0 p ∧ ((lo L k = p ∧ hi L k = c) ∨ (lo L k = c ∧ hi L k = p)) := by
    intro c
    by_cases hc : 0 < c ∧ c < n
    · have h1 := h.1 0 c (by omega) hn (by omega) hc.2
      have h2 : dd L 0 c ≠ 0 := fun e => by have := dd_zero e; omega
      obtain ⟨p, p1, k, k1, k2, k3⟩ := dd_prev (L := L) (a := 0) (b := c) (k := dd L 0 c - 1) (by omega) (by omega)
      exact ⟨k, fun _ _ => ⟨⟨k1, k2⟩, p, by omega, by omega, k3⟩⟩
    · exact ⟨0, fun h1 h2 => absurd ⟨h1, h2⟩ hc⟩
  obtain ⟨g, hg⟩ := Classical.axiomOfChoice ex
  have ex2 : ∀ d : Nat, ∃ c : Nat, d < (kc L).toNat → c < (n - 1).toNat ∧ kd L.length (RA L) (g ((c : Int) + 1)) = d := by
    intro d
    by_cases hd : d < (kc L).toNat
    · have hkp := kc_pos (L := L)
      have hdd : 0 ≤ (d : Int) ∧ (d : Int) < kc L := by omega
      refine Classical.byContradiction fun hno => ?_
      have hall : ∀ c : Int, 0 < c → c < n → kd L.length (RA L) (g c) ≠ d := fun c c1 c2 e => hno ⟨(c - 1).toNat, fun _ => ⟨by omega, by rw [Int.toNat_of_nonneg (by omega), show c - 1 + 1 = c by omega]; exact e⟩⟩
      have hsame : ∀ m : Nat, ∀ c : Int, 0 ≤ c → c < n → dd L 0 c = (m : Int) → (hs L d c ↔ hs L d 0) := by
        intro m
        induction m using Nat.strongRecOn with
        | _ m ih =>
          intro c c1 c2 e
          by_cases h0 : c = 0
          · rw [h0]
          · obtain ⟨k1, p, q1, q2, q3⟩ := hg c (by omega) c2
            have hf := fl w h k1 hdd
            have hne := hf.mpr (hall c (by omega) c2)
            have hpn := dd_in w (a := 0) (b := p) ⟨by omega, hn⟩ q2
            have hp := ih (dd L 0 p).toNat (by omega) p hpn.1 hpn.2 (by omega)
            rcases q3 with ⟨e1, e2⟩ | ⟨e1, e2⟩
            · rw [e1, e2] at hne; exact hne.symm.trans hp
            · rw [e1, e2] at hne; exact hne.trans hp
      obtain ⟨r1, r2, r3⟩ := lr_kd (d : Int) hdd
      have wr := w.1 _ r1 r2
      have h1 := h.1 0 (lo L (lr L d)) (by omega) hn (by omega) (by omega)
      have h2 := h.1 0 (hi L (lr L d)) (by omega) hn (by omega) (by omega)
      have a1 := hsame (dd L 0 (lo L (lr L d))).toNat (lo L (lr L d)) (by omega) (by omega) (by omega)
      have a2 := hsame (dd L 0 (hi L (lr L d))).toNat (hi L (lr L d)) (by omega) (by omega) (by omega)
      have he := hs_ends w hdd
      exact he.1 (a1.mpr (a2.mp he.2))
    · exact ⟨0, fun h => absurd h hd⟩
  obtain ⟨f, hf⟩ := Classical.axiomOfChoice ex2
  have := fb_holes (n - 1).toNat (kc L).toNat f (fun i hi' => (hf i hi').1) (fun i j hij hj e => by
    have e1 := (hf i (by omega)).2
    have e2 := (hf j hj).2
    rw [e, e2] at e1
    omega)
  have := kc_pos (L := L)
  omega
/-- two nodes differ in a direction -/
theorem sides_ne (w : wfL n L) (h : pcb n L) {a b : Int} (ha : 0 ≤ a ∧ a < n) (hb : 0 ≤ b ∧ b < n) (hab : a ≠ b) : ∃ d : Int, (0 ≤ d ∧ d < kc L) ∧ ¬ (hs L d a ↔ hs L d b) := by
  have hc := h.1 a b ha.1 ha.2 hb.1 hb.2
  have h0 : dd L a b ≠ 0 := fun e => hab (dd_zero e)
  obtain ⟨p, p1, k, k1, k2, k3⟩ := dd_prev (L := L) (a := a) (b := b) (k := dd L a b - 1) (by omega) (by omega)
  have hR := RA_ok L
  have hd := kd_in hR ⟨k1, k2⟩
  refine ⟨kd L.length (RA L) k, hd, ?_⟩
  have wkk := w.1 k k1 k2
  have hpn : 0 ≤ p ∧ p < n := by omega
  have hflip : ¬ (hs L (kd L.length (RA L) k) p ↔ hs L (kd L.length (RA L) k) b) := by
    have := fl w h ⟨k1, k2⟩ hd
    intro hc2
    rcases k3 with ⟨e1, e2⟩ | ⟨e1, e2⟩
    · rw [e1, e2] at this; exact this.mp hc2 rfl
    · rw [e1, e2] at this; exact this.mp hc2.symm rfl
  have hsame : ∀ m : Nat, ∀ x : Int, 0 ≤ x → x < n → dd L a x = (m : Int) → dd L a x + dd L x p = dd L a p → (hs L (kd L.length (RA L) k) x ↔ hs L (kd L.length (RA L) k) a) := by
    intro m
    induction m with
    | zero => intro x x1 x2 e _; have := dd_zero (L := L) (a := a) (b := x) (by omega); rw [this]
    | succ m ih =>
      intro x x1 x2 e eg
      obtain ⟨x', y1, hadj⟩ := dd_prev (L := L) (a := a) (b := x) (k := (m : Int)) (by omega) (by omega)
      have hin := adj_in w hadj
      obtain ⟨l, l1, l2, l3⟩ := fl2 w h hadj hd
      have c1 := h.1 x' p (by omega) (by omega) (by omega) (by omega)
      have c2 := h.1 x p (by omega) (by omega) (by omega) (by omega)
      have c3 := h.1 x' b (by omega) (by omega) (by omega) (by omega)
      have c4 := h.1 x b (by omega) (by omega) (by omega) (by omega)
      have d1 := dd_adj1 hadj
      have pb : adj L p b := ⟨k, k1, k2, k3⟩
      have d2 := dd_adj1 pb
      have t1 := dd_tri (L := L) (a := x') (b := x) (c := p) d1.1 c2
      have t2 := dd_tri (L := L) (a := a) (b := x') (c := p) (by omega) c1
      have t3 := dd_tri (L := L) (a := x) (b := p) (c := b) c2 d2.1
      have t4 := dd_tri (L := L) (a := a) (b := x) (c := b) (by omega) c4
      have t5 := dd_tri (L := L) (a := x') (b := x) (c := b) d1.1 c4
      have t6 := dd_tri (L := L) (a := a) (b := x') (c := b) (by omega) c3
      have hx' := ih x' hin.1 (by omega) y1 (by omega)
      have hne : kd L.length (RA L) l ≠ kd L.length (RA L) k := fun e2 => by
        have ha2 := (alk_kd h l1 ⟨k1, k2⟩).mpr e2
        unfold alk at ha2
        rcases l2 with ⟨e3, e4⟩ | ⟨e3, e4⟩ <;> rcases k3 with ⟨e5, e6⟩ | ⟨e5, e6⟩ <;> rw [e3, e4, e5, e6] at ha2 <;> omega
      exact (l3.mpr hne).symm.trans hx'
  have := hsame (dd L a p).toNat p hpn.1 hpn.2 (by omega) (by rw [dd_self]; omega)
  intro hc2
  exact hflip (this.trans hc2)
/-- sides as bits -/
theorem sd_bs (D c : Int) : sd L D c = bs D (fun d => hs L d c) := rfl
theorem sd_tb (hD : kc L ≤ 23) (c : Int) (k : Nat) : tb (sd L (kc L) c) k = true ↔ (k : Int) < kc L ∧ hs L (k : Int) c := by
  rw [sd_bs]; exact bs_tb (n := kc L) (by omega) (fun d => hs L d c) k
theorem sd_inj (w : wfL n L) (h : pcb n L) (hn : n ≤ 24) {a b : Int} (ha : 0 ≤ a ∧ a < n) (hb : 0 ≤ b ∧ b < n) (e : sd L (kc L) a = sd L (kc L) b) : a = b := by
  refine Classical.byContradiction fun hab => ?_
  have hk := kc_lt w h (by omega)
  obtain ⟨d, hd, hne⟩ := sides_ne w h ha hb hab
  have h1 := sd_tb (L := L) (by omega) a d.toNat
  have h2 := sd_tb (L := L) (by omega) b d.toNat
  rw [Int.toNat_of_nonneg hd.1] at h1 h2
  rw [e] at h1
  apply hne
  constructor
  · intro hh; exact (h2.mp (h1.mpr ⟨hd.2, hh⟩)).2
  · intro hh; exact (h1.mp (h2.mpr ⟨hd.2, hh⟩)).2
end Cube

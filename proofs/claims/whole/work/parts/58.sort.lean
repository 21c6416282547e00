/-! ===== sort ===== -/
section Q15
variable {n : Int} {L : List Ln} {v : VT} {q : Int → VT → Prop}
theorem kc_n (w : wfL n L) {d : Int} (hd : 0 ≤ d ∧ d < kc L) : 0 < n := by
  obtain ⟨r1, r2, r3⟩ := lr_kd d hd
  have := w.1 _ r1 r2
  omega
theorem kd_lr {d j : Int} (hd : 0 ≤ d ∧ d < kc L) (hj : 0 ≤ j ∧ j < L.length) : kd L.length (RA L) j = d ↔ rt L.length (RA L) j = lr L d := by
  have hR := RA_ok L
  have h := lr_spec (L := L) (d := d) hd
  have hr := rt_le hR hj
  constructor
  · intro e
    exact nr_inj hr.1 h.1 (rt_rt hR hj) h.2.2.1 (by rw [h.2.2.2]; exact e)
  · intro e
    unfold kd
    rw [e]; exact h.2.2.2
noncomputable def sp_sort (n : Int) (L : List Ln) (d x : Int) : Int := if 0 ≤ d ∧ d < kc L then (if x = 0 then sz L.length (RA L) (lr L d) else if x = 1 then lr L d else if x = 2 then (if wy n L = 0 then cs n L d else -1) else if x = 3 then (if wy n L = 0 then bs n (hs L d) else -1) else -1) else -1
theorem SX_sort {d x : Int} (w : wfL n L) (hn : 0 ≤ n ∧ n ≤ 24) (h : XC v n L) (hq : ∀ v', XF v v' → XC v' n L → q (sp_sort n L d x) v') : P_X10_sort d x v q := by
  have hkl : kc L ≤ L.length := nr_le (by omega)
  have hlen := w.2.2
  unfold P_X10_sort P_X10_isKind
  have no : ∀ v', XF v v' → XC v' n L → ¬ (0 ≤ d ∧ d < kc L) → q (-1) v' := fun v' f' c hc => by
    have := hq v' f' c
    unfold sp_sort at this; rwa [if_neg hc] at this
  refine ⟨fun h1 => ⟨fun g => absurd rfl g, fun _ => no v (XF_rf v) h (by omega)⟩, fun h1 => S_sorted w hn h (fun v1 f1 c1 k1 m1 d1 o1 => ?_)⟩
  have e1 : v1 191 1 = kc L := o1.1
  rw [e1]
  refine ⟨fun h2 => ⟨fun g => absurd rfl g, fun _ => no v1 f1 c1 (by omega)⟩, fun h2 => ⟨fun _ => ?_, fun g => absurd g (by decide)⟩⟩
  have hd : 0 ≤ d ∧ d < kc L := ⟨h1, h2⟩
  have hl := lr_spec (L := L) (d := d) hd
  have ho := o1.2.2 (lr L d) hl.1 hl.2.1 hl.2.2.1
  rw [hl.2.2.2] at ho
  have hn0 := kc_n w hd
  have this : ∀ v', XF v v' → XC v' n L → q (if x = 0 then sz L.length (RA L) (lr L d) else if x = 1 then lr L d else if x = 2 then (if wy n L = 0 then cs n L d else -1) else if x = 3 then (if wy n L = 0 then bs n (hs L d) else -1) else -1) v' := fun v' f' c' => by
    have := hq v' f' c'
    unfold sp_sort at this; rwa [if_pos hd] at this
  refine ⟨fun hx => ⟨by omega, ?_⟩, fun hx => ⟨by omega, ?_⟩, fun hx => ?_, fun hx => ?_, fun hx => ?_⟩
  · have := this v1 f1 c1; rw [if_pos hx] at this; rwa [ho.2]
  · have := this v1 f1 c1; rw [if_neg (by omega), if_pos hx] at this; rwa [ho.1]
  · refine S_isDirection w hn c1 (fun v2 f2 c2 k2 m2 d2 o2 s2 => ?_)
    have := this v2 (XF_trans f1 f2) c2
    rw [if_neg (by omega), if_neg (by omega), if_pos hx] at this
    refine ⟨fun hs => ⟨fun g => absurd g (by decide), fun _ => ?_⟩, fun hs => ⟨fun _ => ?_, fun g => absurd rfl g⟩⟩
    · rw [if_pos hs.1.1] at this
      rcases s2.2.2.2 with ⟨a1, a2, a3, a4, a5, a6, a7⟩ | ⟨a1, a2, a3⟩
      · exact S_costOf hn s2.1 ⟨by omega, by omega⟩ (a7 d hd.1 hd.2) this
      · exact absurd hs.1 a2
    · rwa [if_neg (fun g => hs ⟨⟨g, hn0⟩, hd⟩)] at this
  · refine S_isDirection w hn c1 (fun v2 f2 c2 k2 m2 d2 o2 s2 => ?_)
    have := this v2 (XF_trans f1 f2) c2
    rw [if_neg (by omega), if_neg (by omega), if_neg (by omega), if_pos hx] at this
    refine ⟨fun hs => ⟨fun g => absurd g (by decide), fun _ => ⟨by omega, ?_⟩⟩, fun hs => ⟨fun _ => ?_, fun g => absurd rfl g⟩⟩
    · rw [if_pos hs.1.1] at this
      rcases s2.2.2.2 with ⟨a1, a2, a3, a4, a5, a6, a7⟩ | ⟨a1, a2, a3⟩
      · rwa [a7 d hd.1 hd.2]
      · exact absurd hs.1 a2
    · rwa [if_neg (fun g => hs ⟨⟨g, hn0⟩, hd⟩)] at this
  · have := this v1 f1 c1; rwa [if_neg (by omega), if_neg (by omega), if_neg (by omega), if_neg (by omega)] at this
theorem SM_sort {d x : Int} (w : wfL n L) (hn : 0 ≤ n ∧ n ≤ 24) (h : MC v n L) (hq : ∀ v', MF v v' → MC v' n L → q (sp_sort n L d x) v') : P_X11_sort d x v q := by
  have hkl : kc L ≤ L.length := nr_le (by omega)
  have hk0 := kc_pos (L := L)
  have hlen := w.2.2
  unfold P_X11_sort
  refine S_lays w hn h (fun v1 f1 c1 l1 => ?_)
  have s1 := seatM_of w l1
  have this := hq v1 f1 c1
  unfold sp_sort at this
  rw [s1.1]
  refine ⟨by omega, S_isIn (fun hc => ⟨fun g => absurd rfl g, fun _ => by rwa [if_neg (by omega)] at this⟩) (fun hc => ⟨fun _ => ?_, fun g => absurd g (by decide)⟩)⟩
  have hd : 0 ≤ d ∧ d < kc L := by omega
  rw [if_pos hd] at this
  have hl := lr_spec (L := L) (d := d) hd
  have ho := l1.2.1.2.2 (lr L d) hl.1 hl.2.1 hl.2.2.1
  rw [hl.2.2.2] at ho
  have hn0 := kc_n w hd
  intro K66 hK66 X27 hX27
  rw [c1.1.2.1] at hX27
  refine up2r (X := X27) (L.length : Int) (fun i a => 0 ≤ i ∧ a = (fb_ct (fun j => @decide (rt L.length (RA L) (j : Int) = lr L d) (Classical.propDecidable _)) i.toNat : Nat)) ?_ (by omega) ⟨by omega, rfl⟩
  intro a i hle ⟨i0, hai⟩ hnext
  apply hX27
  refine ⟨fun hc2 => hK66 _ ?_, fun hc2 => ⟨by omega, ?_⟩⟩
  · have ea : a = sz L.length (RA L) (lr L d) := by rw [hai, show i = (L.length : Int) by omega]; rfl
    rw [s1.2.1]
    refine ⟨fun hx => ?_, fun hx => ⟨by omega, ?_⟩, fun hx => ⟨fun hw => ?_, fun hw => ?_⟩, fun hx => ⟨fun hw => ?_, fun hw => ?_⟩, fun hx => ?_⟩
    · rw [if_pos hx] at this; rwa [ea]
    · rw [if_neg (by omega), if_pos hx] at this; rwa [ho]
    · rwa [if_neg (by omega), if_neg (by omega), if_pos hx, if_neg hw] at this
    · rw [if_neg (by omega), if_neg (by omega), if_pos hx, if_pos hw] at this
      obtain ⟨p1, p2, p3⟩ := s1.2.2.2 hw
      have p2 := p2 hn0
      exact S_costOfM hn c1.1 hd (by omega) p3 this
    · rwa [if_neg (by omega), if_neg (by omega), if_neg (by omega), if_pos hx, if_neg hw] at this
    · rw [if_neg (by omega), if_neg (by omega), if_neg (by omega), if_pos hx, if_pos hw] at this
      obtain ⟨p1, p2, p3⟩ := s1.2.2.2 hw
      have p2 := p2 hn0
      exact S_sideOne hn c1.1 hd (by omega) p3 this
    · rwa [if_neg (by omega), if_neg (by omega), if_neg (by omega), if_neg (by omega)] at this
  · rw [l1.2.1.2.1 i i0 hc2, kd_lr hd ⟨i0, hc2⟩]
    have hb := fb_ct_le (fun j => @decide (rt L.length (RA L) (j : Int) = lr L d) (Classical.propDecidable _)) i.toNat
    have hs2 : fb_ct (fun j => @decide (rt L.length (RA L) (j : Int) = lr L d) (Classical.propDecidable _)) (i + 1).toNat = fb_ct (fun j => @decide (rt L.length (RA L) (j : Int) = lr L d) (Classical.propDecidable _)) i.toNat + (if @decide (rt L.length (RA L) i = lr L d) (Classical.propDecidable _) then 1 else 0) := by
      rw [show (i + 1).toNat = i.toNat + 1 by omega, fb_ct_succ, Int.toNat_of_nonneg i0]
    refine ⟨fun hne => S_flag (fun _ => ⟨by omega, by omega, hnext hc2 _ ⟨by omega, ?_⟩⟩) (fun g => absurd rfl g), fun he => S_flag (fun g => absurd g (by decide)) (fun _ => ⟨by omega, by omega, hnext hc2 _ ⟨by omega, ?_⟩⟩)⟩
    · rw [hs2, if_neg (by simpa using hne)]; omega
    · rw [hs2, if_pos (by simpa using he)]; omega
end Q15

/-! ===== pairs that fit: the most of them ===== -/
def mat (E : Nat → Nat → Prop) : Nat → (Nat → Prop) → Prop
  | 0, _ => True
  | k + 1, S => ∃ a b : Nat, a ≠ b ∧ S a ∧ S b ∧ E a b ∧ mat E k (fun x => S x ∧ x ≠ a ∧ x ≠ b)
def isMM (E : Nat → Nat → Prop) (S : Nat → Prop) (m : Int) : Prop := 0 ≤ m ∧ mat E m.toNat S ∧ ∀ k : Nat, mat E k S → (k : Int) ≤ m
def usf (E : Nat → Nat → Prop) (S : Nat → Prop) (a : Nat) : Prop := S a ∧ ∃ b, S b ∧ b ≠ a ∧ E a b
section Mat
variable {E : Nat → Nat → Prop}
theorem mat_mono : ∀ (k : Nat) {S S' : Nat → Prop}, (∀ x, S x → S' x) → mat E k S → mat E k S'
  | 0, _, _, _, _ => trivial
  | k + 1, S, S', h, ⟨a, b, hab, ha, hb, he, hm⟩ => ⟨a, b, hab, h a ha, h b hb, he, mat_mono k (fun x hx => ⟨h x hx.1, hx.2⟩) hm⟩
theorem mat_anti : ∀ (k : Nat) {S : Nat → Prop}, mat E (k + 1) S → mat E k S
  | 0, _, _ => trivial
  | k + 1, S, ⟨a, b, hab, ha, hb, he, hm⟩ => ⟨a, b, hab, ha, hb, he, mat_anti k hm⟩
theorem mat_split (hE : ∀ a b, E a b → E b a) : ∀ (k : Nat) {S : Nat → Prop} (a : Nat), mat E k S → mat E k (fun x => S x ∧ x ≠ a) ∨ ∃ k' b, k = k' + 1 ∧ S b ∧ S a ∧ b ≠ a ∧ E a b ∧ mat E k' (fun x => S x ∧ x ≠ a ∧ x ≠ b)
  | 0, _, _, _ => Or.inl trivial
  | k + 1, S, a, ⟨x, y, hxy, hx, hy, he, hm⟩ => by
    by_cases hax : a = x
    · subst hax
      exact Or.inr ⟨k, y, rfl, hy, hx, fun g => hxy g.symm, he, hm⟩
    · by_cases hay : a = y
      · subst hay
        exact Or.inr ⟨k, x, rfl, hx, hy, hxy, hE _ _ he, mat_mono k (fun z hz => ⟨hz.1, hz.2.2, hz.2.1⟩) hm⟩
      · rcases mat_split hE k a hm with g | ⟨k', b, e, hb, ha, hba, hab, g⟩
        · exact Or.inl ⟨x, y, hxy, ⟨hx, fun e => hax e.symm⟩, ⟨hy, fun e => hay e.symm⟩, he, mat_mono k (fun z hz => ⟨⟨hz.1.1, hz.2⟩, hz.1.2⟩) g⟩
        · subst e
          exact Or.inr ⟨k' + 1, b, rfl, hb.1, ha.1, hba, hab, x, y, hxy, ⟨hx, fun e => hax e.symm, fun e => hb.2.1 e.symm⟩, ⟨hy, fun e => hay e.symm, fun e => hb.2.2 e.symm⟩, he, mat_mono k' (fun z hz => ⟨⟨hz.1.1, hz.2.1, hz.2.2⟩, hz.1.2.1, hz.1.2.2⟩) g⟩
/-- some largest choice has any one that fits another -/
theorem mat_pick (hE : ∀ a b, E a b → E b a) {k : Nat} {S : Nat → Prop} {p u : Nat} (hp : S p) (hu : S u) (hup : u ≠ p) (he : E p u) (h : mat E (k + 1) S) : ∃ b, S b ∧ b ≠ p ∧ E p b ∧ mat E k (fun x => S x ∧ x ≠ p ∧ x ≠ b) := by
  rcases mat_split hE (k + 1) p h with g | ⟨k', b, e, hb, -, hbp, hpb, g⟩
  · refine ⟨u, hu, hup, he, ?_⟩
    rcases mat_split hE (k + 1) u g with g2 | ⟨k', w, e, hw, -, hwu, huw, g2⟩
    · exact mat_mono k (fun z hz => ⟨hz.1.1, hz.1.2, hz.2⟩) (mat_anti k g2)
    · have ek : k' = k := by omega
      subst ek
      exact mat_mono k' (fun z hz => ⟨hz.1.1, hz.1.2, hz.2.1⟩) g2
  · have ek : k' = k := by omega
    subst ek
    exact ⟨b, hb, hbp, hpb, g⟩
theorem mat_bound (hE : ∀ a b, E a b → E b a) : ∀ (k : Nat) {S : Nat → Prop}, (∀ x, S x → x < 16) → mat E k S → 2 * k ≤ fb_ct (fun a => @decide (usf E S a) (Classical.propDecidable _)) 16
  | 0, _, _, _ => Nat.zero_le _
  | k + 1, S, h16, ⟨x, y, hxy, hx, hy, he, hm⟩ => by
    have ih := mat_bound hE k (S := fun z => S z ∧ z ≠ x ∧ z ≠ y) (fun z hz => h16 z hz.1) hm
    have hux : usf E S x := ⟨hx, y, hy, fun e => hxy e.symm, he⟩
    have huy : usf E S y := ⟨hy, x, hx, hxy, hE _ _ he⟩
    have e1 := fb_ct_upd (fun a => @decide (usf E S a) (Classical.propDecidable _)) false (i := x) (n := 16) (h16 x hx)
    have e2 := fb_ct_upd (fun k => if k = x then false else @decide (usf E S k) (Classical.propDecidable _)) false (i := y) (n := 16) (h16 y hy)
    rw [dcd.mpr hux] at e1
    rw [if_neg (show ¬ y = x from fun e => hxy e.symm), dcd.mpr huy] at e2
    have s := fb_ct_sub (p := fun a => @decide (usf E (fun z => S z ∧ z ≠ x ∧ z ≠ y) a) (Classical.propDecidable _)) (q := fun k => if k = y then false else (if k = x then false else @decide (usf E S k) (Classical.propDecidable _))) (n := 16) (fun a _ g => by
      obtain ⟨g1, b, hb, hba, hab⟩ := dcd.mp g
      rw [if_neg g1.2.2, if_neg g1.2.1]
      exact dcd.mpr ⟨g1.1, b, hb.1, hba, hab⟩)
    simp only [if_true, Bool.false_eq_true, if_false] at e1 e2
    omega
theorem isMM_one {S : Nat → Prop} {m m' : Int} (h : isMM E S m) (h' : isMM E S m') : m = m' := by
  have a := h.2.2 m'.toNat h'.2.1
  have b := h'.2.2 m.toNat h.2.1
  have := h.1
  have := h'.1
  omega
theorem isMM_ex (hE : ∀ a b, E a b → E b a) {S : Nat → Prop} (h16 : ∀ x, S x → x < 16) : ∃ m : Int, isMM E S m ∧ m ≤ 8 := by
  have hb : ∀ k, mat E k S → k ≤ 8 := fun k hk => by
    have h1 := mat_bound hE k h16 hk
    have h2 := fb_ct_le (fun a => @decide (usf E S a) (Classical.propDecidable _)) 16
    omega
  obtain ⟨i, i1, i2, i3⟩ := @fb_last (fun k => mat E k S) (fun _ => Classical.propDecidable _) 9 ⟨0, by omega, trivial⟩
  refine ⟨(i : Int), ⟨by omega, by rw [Int.toNat_natCast]; exact i2, fun k hk => ?_⟩, by omega⟩
  have := hb k hk
  rcases Nat.lt_or_ge i k with g | g
  · exact absurd hk (i3 k g (by omega))
  · omega
theorem isMM_cong {S S' : Nat → Prop} {m : Int} (h : ∀ x, S x ↔ S' x) (hm : isMM E S m) : isMM E S' m := ⟨hm.1, mat_mono _ (fun x hx => (h x).mp hx) hm.2.1, fun k hk => hm.2.2 k (mat_mono k (fun x hx => (h x).mpr hx) hk)⟩
end Mat
noncomputable def EF (n : Int) (L : List Ln) (a b : Nat) : Prop := ft n L (a : Int) (b : Int)
def sb (x : Int) (k : Nat) : Prop := tb x k = true
section Few
variable {n : Int} {L : List Ln} {v : VT}
theorem i_or_comm (x y : Int) : i_or x y = i_or y x := tb_ext (r32_or _ _) (r32_or _ _) (fun k _ => by rw [tb_or, tb_or, Bool.or_comm])
theorem i_and_comm (x y : Int) : i_and x y = i_and y x := tb_ext (r32_and _ _) (r32_and _ _) (fun k _ => by rw [tb_and, tb_and, Bool.and_comm])
theorem EF_symm (a b : Nat) (h : EF n L a b) : EF n L b a := by
  unfold EF ft at *
  rw [i_or_comm, i_and_comm]; exact h
theorem pc_bound {z : Int} {m : Int} (hm : 0 ≤ m ∧ m ≤ 24) (h : ∀ k : Nat, tb z k = true → (k : Int) < m) : pc z ≤ m := by
  have h1 := pc_sub (x := z) (y := bs m (fun _ => True)) (fun k g => (bs_tb (by omega) _ k).mpr ⟨h k g, trivial⟩)
  have h2 := pc_le (n := m) hm (fun _ => True)
  omega
theorem pc_pos {z : Int} {k : Nat} (hk : k < 24) (h : tb z k = true) : 1 ≤ pc z := by
  unfold pc
  have := fb_ct_pos.mpr ⟨k, hk, h⟩
  omega
theorem pc_ex {z : Int} (h : 1 ≤ pc z) : ∃ k : Nat, k < 24 ∧ tb z k = true := by
  unfold pc at h
  exact fb_ct_pos.mp (show 0 < fb_ct (tb z) 24 by omega)
theorem S_addPair {h : Int} (hh : 0 ≤ h ∧ h ≤ 16) : ∀ (f : Nat) (fr pr' : Int) (v : VT) (q : VT → Prop), (f : Int) = 12 - pr' → 0 ≤ pr' → (0 ≤ fr ∧ fr < 16777216) → (∀ k : Nat, tb fr k = true → (k : Int) < h) → pc fr + 2 * pr' ≤ 16 → (0 ≤ v 203 0 ∧ v 203 0 ≤ 8) → (∀ d e : Nat, (d : Int) < h → (tb (v 204 d) e = true ↔ (e : Int) < h ∧ e ≠ d ∧ EF n L d e)) → (∀ (v' : VT) (m : Int), (∀ x, x ≠ 203 → v' x = v x) → isMM (EF n L) (sb fr) m → v' 203 0 = max (v 203 0) (pr' + m) → q v') → P_X7_addPair f fr pr' h v q := by
  intro f
  induction f with
  | zero => intro fr pr' v q hf h0 _ _ hp; have := pc_r fr; omega
  | succ f ih =>
    intro fr pr' v q hf h0 hfr hfh hp hb hfd hq
    have hpf := pc_r fr
    have h16 : ∀ x, sb fr x → x < 16 := fun x hx => by have := hfh x hx; omega
    obtain ⟨M, hM, hM8⟩ := isMM_ex (E := EF n L) EF_symm h16
    show ∀ v9 : VT, v9 = upd2 v 203 0 (max (v 203 0) pr') → _
    intro v9 e9
    have f9 : ∀ x, x ≠ 203 → v9 x = v x := fun x hx => by rw [e9]; exact upd2_off _ _ _ hx
    have n9 : v9 203 0 = max (v 203 0) pr' := by rw [e9, upd2_same]
    have hfd9 : ∀ d e : Nat, (d : Int) < h → (tb (v9 204 d) e = true ↔ (e : Int) < h ∧ e ≠ d ∧ EF n L d e) := fun d e hd => by rw [f9 204 (by omega)]; exact hfd d e hd
    intro K86 hK86
    -- halves that have a partner still free
    have part : ∀ d : Nat, (d : Int) < h → ∀ e : Nat, tb (i_and (v9 204 d) fr) e = true ↔ (e ≠ d ∧ EF n L d e) ∧ tb fr e = true := fun d hd e => by
      rw [tb_and, Bool.and_eq_true, hfd9 d e hd]
      exact ⟨fun g => ⟨g.1.2, g.2⟩, fun g => ⟨⟨hfh e g.2, g.1⟩, g.2⟩⟩
    have fin : ∀ pick us : Int, ((pick = -1 ∧ ∀ a, ¬ usf (EF n L) (sb fr) a) ∨ (∃ p : Nat, pick = (p : Int) ∧ (p : Int) < h ∧ usf (EF n L) (sb fr) p)) → us = (fb_ct (fun a => @decide (usf (EF n L) (sb fr) a) (Classical.propDecidable _)) h.toNat : Nat) → K86 pick us := by
      intro pick us hpick hus
      have husf : fb_ct (fun a => @decide (usf (EF n L) (sb fr) a) (Classical.propDecidable _)) 16 = fb_ct (fun a => @decide (usf (EF n L) (sb fr) a) (Classical.propDecidable _)) h.toNat := by
        have e := fb_ct_split (fun a => @decide (usf (EF n L) (sb fr) a) (Classical.propDecidable _)) h.toNat (16 - h.toNat)
        rw [show h.toNat + (16 - h.toNat) = 16 by omega] at e
        have z : fb_ct (fun k => @decide (usf (EF n L) (sb fr) (h.toNat + k)) (Classical.propDecidable _)) (16 - h.toNat) = 0 := fb_ct_zero.mpr (fun k hk => Bool.eq_false_iff.mpr (fun g => by have := hfh _ (dcd.mp g).1; omega))
        rw [e, z]; rfl
      have hbd := mat_bound EF_symm M.toNat h16 hM.2.1
      rw [husf] at hbd
      have hct := fb_ct_le (fun a => @decide (usf (EF n L) (sb fr) a) (Classical.propDecidable _)) h.toNat
      have hM0 := hM.1
      have hMp : 2 * M ≤ pc fr := by
        have s1 := fb_ct_sub (p := fun a => @decide (usf (EF n L) (sb fr) a) (Classical.propDecidable _)) (q := tb fr) (n := h.toNat) (fun a _ g => (dcd.mp g).1)
        have s2 := fb_ct_mono (tb fr) (show h.toNat ≤ 24 by omega)
        unfold pc
        omega
      apply hK86
      refine ⟨fun hm1 => ?_, fun hne => ⟨fun hp8 => ?_, fun hp8 => by omega⟩⟩
      · have hz : M = 0 := by
          rcases hpick with ⟨-, g⟩ | ⟨p, e, -, -⟩
          · have : fb_ct (fun a => @decide (usf (EF n L) (sb fr) a) (Classical.propDecidable _)) h.toNat = 0 := fb_ct_zero.mpr (fun k _ => Bool.eq_false_iff.mpr (fun g2 => g k (dcd.mp g2)))
            omega
          · omega
        clear hpick
        exact hq v9 M f9 hM (by rw [n9, hz]; omega)
      · obtain ⟨p, ep, hph, hpu⟩ : ∃ p : Nat, pick = (p : Int) ∧ (p : Int) < h ∧ usf (EF n L) (sb fr) p := by
          rcases hpick with ⟨g, -⟩ | g
          · exact absurd g hne
          · exact g
        clear hpick
        obtain ⟨hpS, u, huS, hup, heu⟩ := hpu
        have hdiv : i_div us 2 = us / 2 := (i_dr' (x := us) (by omega)).1
        have hpf2 : 2 ≤ pc fr := by
          have h1 := pc_out (x := fr) (i := p) (by omega) hpS
          have h2 := pc_pos (z := i_and fr (i_xor (i_shl 1 (p : Int)) (-1))) (k := u) (by have := h16 u huS; omega) ((tb_del (by have := h16 p hpS; omega)).mpr ⟨huS, hup⟩)
          omega
        rw [hdiv]
        intro X102 hX102
        refine up2 (X := X102) h (fun i v' => 0 ≤ i ∧ (∀ x, x ≠ 203 → v' x = v x) ∧ (v 203 0 ≤ v' 203 0 ∧ pr' ≤ v' 203 0 ∧ v' 203 0 ≤ max (v 203 0) (pr' + M)) ∧ ∀ o : Nat, (o : Int) < i → o ≠ p → EF n L p o → tb fr o = true → ∀ k : Nat, mat (EF n L) k (fun x => sb fr x ∧ x ≠ p ∧ x ≠ o) → pr' + 1 + (k : Int) ≤ v' 203 0) ?_ hh.1 ⟨by omega, f9, by rw [n9]; omega, fun o ho => by omega⟩
        intro i v' hle ⟨i0, hf', hcb, hex⟩ hnext
        apply hX102
        refine ⟨fun hge => hq v' M hf' hM ?_, fun hlt => ⟨by omega, fun hpr => hq v' M hf' hM (by omega), fun hgt => ⟨by omega, ?_⟩⟩⟩
        · have hMle : pr' + M ≤ v' 203 0 := by
            by_cases hz : M = 0
            · omega
            · have hm := hM.2.1
              rw [show M.toNat = (M.toNat - 1) + 1 by omega] at hm
              obtain ⟨o, ho, hop, hpo, hmo⟩ := mat_pick EF_symm hpS huS hup heu hm
              have := hex o (by have := hfh o ho; omega) hop hpo ho _ hmo
              omega
          omega
        · have hv204 : v' 204 = v9 204 := by rw [hf' 204 (by omega), f9 204 (by omega)]
          rw [ep, Int.toNat_natCast, hv204]
          have hpt := part p hph i.toNat
          refine S_hasBit (by omega) (fun g => ⟨fun _ => ⟨by omega, hnext hlt _ ⟨by omega, hf', hcb, fun o ho hop hpo hof => ?_⟩⟩, fun k => absurd rfl k⟩) (fun g => ⟨fun k => absurd k (by decide), fun _ => ⟨by omega, ?_⟩⟩)
          · by_cases e : (o : Int) = i
            · rw [show o = i.toNat by omega] at hop hpo hof
              rw [hpt.mpr ⟨⟨hop, hpo⟩, hof⟩] at g; exact absurd g (by decide)
            · exact hex o (by omega) hop hpo hof
          · obtain ⟨⟨hop, hpo⟩, hof⟩ := hpt.mp g
            have hi16 : i.toNat < 16 := by omega
            have hp16 : p < 16 := by omega
            have t2 : ∀ k : Nat, tb (i_and (i_and fr (i_xor (i_shl 1 (p : Int)) (-1))) (i_xor (i_shl 1 i) (-1))) k = true ↔ (tb fr k = true ∧ k ≠ p) ∧ k ≠ i.toNat := fun k => by
              have := tb_del (x := i_and fr (i_xor (i_shl 1 (p : Int)) (-1))) (i := i.toNat) (k := k) (by omega)
              rw [Int.toNat_of_nonneg i0] at this
              rw [this, tb_del (by omega)]
            have hp2 : pc (i_and (i_and fr (i_xor (i_shl 1 (p : Int)) (-1))) (i_xor (i_shl 1 i) (-1))) = pc fr - 2 := by
              have h1 := pc_out (x := fr) (i := p) (by omega) hpS
              have h2 := pc_out (x := i_and fr (i_xor (i_shl 1 (p : Int)) (-1))) (i := i.toNat) (by omega) ((tb_del (by omega)).mpr ⟨hof, hop⟩)
              rw [Int.toNat_of_nonneg i0] at h2
              omega
            refine ih _ (pr' + 1) v' _ (by omega) (by omega) (set_r (r32_and _ _) (fun k gk => by have := hfh k ((t2 k).mp gk).1.1; omega)) (fun k gk => hfh k ((t2 k).mp gk).1.1) (by omega) (by omega) (fun d e hd => by rw [hv204]; exact hfd9 d e hd) (fun v2 m2 f2 hm2 e2 => ⟨by omega, hnext hlt _ ⟨by omega, fun x hx => by rw [f2 x hx]; exact hf' x hx, ?_, fun o ho hop2 hpo2 hof2 k hk => ?_⟩⟩)
            · have hm2' : isMM (EF n L) (fun x => sb fr x ∧ x ≠ p ∧ x ≠ i.toNat) m2 := isMM_cong (fun x => ⟨fun gx => ⟨((t2 x).mp gx).1.1, ((t2 x).mp gx).1.2, ((t2 x).mp gx).2⟩, fun gx => (t2 x).mpr ⟨⟨gx.1, gx.2.1⟩, gx.2.2⟩⟩) hm2
              have hstep : mat (EF n L) (m2.toNat + 1) (sb fr) := ⟨p, i.toNat, fun e => hop e.symm, hpS, hof, hpo, hm2'.2.1⟩
              have := hM.2.2 _ hstep
              have := hm2.1
              rw [e2]
              omega
            · by_cases e : (o : Int) = i
              · rw [show o = i.toNat by omega] at hk
                have := hm2.2.2 k (mat_mono k (fun x hx => (t2 x).mpr ⟨⟨hx.1, hx.2.1⟩, hx.2.2⟩) hk)
                rw [e2]
                omega
              · have := hex o (by omega) hop2 hpo2 hof2 k hk
                rw [e2]
                omega
    intro X24 hX24
    have loop : ∀ (g : Nat) (i : Int), (g : Int) = h - i → 0 ≤ i → i ≤ h → ∀ pick few us : Int, ((pick = -1 ∧ few = h ∧ ∀ a : Nat, (a : Int) < i → ¬ usf (EF n L) (sb fr) a) ∨ (∃ p : Nat, pick = (p : Int) ∧ (p : Int) < h ∧ usf (EF n L) (sb fr) p)) → us = (fb_ct (fun a => @decide (usf (EF n L) (sb fr) a) (Classical.propDecidable _)) i.toNat : Nat) → X24 pick few us i := by
      intro g
      induction g with
      | zero =>
        intro i hg hi0 hih pick few us hpick hus
        apply hX24
        refine ⟨fun _ => fin pick us ?_ (by rw [hus, show i.toNat = h.toNat by omega]), fun k => by omega⟩
        rcases hpick with ⟨g1, -, g2⟩ | g1
        · exact Or.inl ⟨g1, fun a ha => g2 a (by have := hfh a ha.1; omega) ha⟩
        · exact Or.inr g1
      | succ g ih2 =>
        intro i hg hi0 hih pick few us hpick hus
        have hct := fb_ct_le (fun a => @decide (usf (EF n L) (sb fr) a) (Classical.propDecidable _)) i.toNat
        have esucc : (i + 1).toNat = i.toNat + 1 := by omega
        apply hX24
        refine ⟨fun k => by omega, fun hlt => ?_⟩
        have hpt := part i.toNat (by omega)
        have no : ¬ usf (EF n L) (sb fr) i.toNat → X24 pick few us (i + 1) := fun hno => ih2 (i + 1) (by omega) (by omega) (by omega) pick few us (by
          rcases hpick with ⟨g1, g2, g3⟩ | g1
          · refine Or.inl ⟨g1, g2, fun a ha => ?_⟩
            by_cases e : (a : Int) = i
            · rw [show a = i.toNat by omega]; exact hno
            · exact g3 a (by omega)
          · exact Or.inr g1) (by rw [esucc, fb_ct_succ, if_neg (fun g2 => hno (dcd.mp g2))]; exact hus)
        have K : ∀ s0 : Int, (s0 ≤ 0 → ¬ usf (EF n L) (sb fr) i.toNat) → (0 < s0 → usf (EF n L) (sb fr) i.toNat ∧ s0 < h) → (((s0 ≤ 0) → (-2147483648 ≤ i + 1 ∧ i + 1 ≤ 2147483647) ∧ X24 pick few us (i + 1)) ∧ ((0 < s0) → (-2147483648 ≤ us + 1 ∧ us + 1 ≤ 2147483647) ∧ ((few ≤ s0) → (-2147483648 ≤ i + 1 ∧ i + 1 ≤ 2147483647) ∧ X24 pick few (us + 1) (i + 1)) ∧ ((s0 < few) → (-2147483648 ≤ i + 1 ∧ i + 1 ≤ 2147483647) ∧ X24 i s0 (us + 1) (i + 1)))) := by
          intro s0 h1 h2
          refine ⟨fun g1 => ⟨by omega, no (h1 g1)⟩, fun g1 => ?_⟩
          obtain ⟨hu, hs⟩ := h2 g1
          have hus1 : us + 1 = (fb_ct (fun a => @decide (usf (EF n L) (sb fr) a) (Classical.propDecidable _)) (i + 1).toNat : Nat) := by rw [esucc, fb_ct_succ, if_pos (dcd.mpr hu)]; omega
          refine ⟨by omega, fun g2 => ⟨by omega, ih2 (i + 1) (by omega) (by omega) (by omega) _ _ _ ?_ hus1⟩, fun g2 => ⟨by omega, ih2 (i + 1) (by omega) (by omega) (by omega) _ _ _ (Or.inr ⟨i.toNat, by omega, by omega, hu⟩) hus1⟩⟩
          rcases hpick with ⟨-, g3, -⟩ | g3
          · omega
          · exact Or.inr g3
        refine S_hasBit (by omega) (fun gb K55 hK55 => ⟨fun _ => hK55 _ (K 0 (fun _ g2 => by have := g2.1; unfold sb at this; rw [gb] at this; exact absurd this (by decide)) (fun g2 => by omega)), fun k => absurd rfl k⟩) (fun gb K55 hK55 => ⟨fun k => absurd k (by decide), fun _ => ⟨by omega, ?_⟩⟩)
        have hz16 : ∀ k : Nat, tb (i_and (v9 204 i.toNat) fr) k = true → (k : Int) < h := fun k gk => hfh k ((hpt k).mp gk).2
        refine S_bitCount (set_r (r32_and _ _) (fun k gk => by have := hz16 k gk; omega)) (hK55 _ (K _ (fun g2 g3 => ?_) (fun g2 => ⟨?_, ?_⟩)))
        · obtain ⟨-, b, hb1, hb2, hb3⟩ := g3
          have := pc_pos (z := i_and (v9 204 i.toNat) fr) (k := b) (by have := h16 b hb1; omega) ((hpt b).mpr ⟨⟨hb2, hb3⟩, hb1⟩)
          omega
        · obtain ⟨k, -, hk⟩ := pc_ex (z := i_and (v9 204 i.toNat) fr) (by omega)
          obtain ⟨⟨k1, k2⟩, k3⟩ := (hpt k).mp hk
          exact ⟨gb, k, k3, k1, k2⟩
        · have hni : tb (i_and (v9 204 i.toNat) fr) i.toNat = false := Bool.eq_false_iff.mpr (fun gk => ((hpt i.toNat).mp gk).1.1 rfl)
          have h1 := pc_in (x := i_and (v9 204 i.toNat) fr) (i := i.toNat) (by omega) hni
          have h2 := pc_bound (z := i_or (i_and (v9 204 i.toNat) fr) (i_shl 1 ((i.toNat : Nat) : Int))) (m := h) (by omega) (fun k gk => by
            rcases (tb_ins (by omega)).mp gk with k2 | k2
            · exact hz16 k k2
            · omega)
          omega
    exact loop h.toNat 0 (by omega) (by omega) (by omega) (-1) h 0 (Or.inl ⟨rfl, rfl, fun a ha => by omega⟩) rfl
end Few

/-! ===== cubes in it ===== -/
def hasN (n : Int) (L : List Ln) (X : Int → Prop) : Prop := ∃ c : Int, (0 ≤ c ∧ c < n) ∧ ∀ e : Int, 0 ≤ e → e < kc L → (hs L e c ↔ X e)
def CB (n : Int) (L : List Ln) (a : Int) (K : Int → Prop) : Prop := (∀ e : Int, 0 ≤ e → e < kc L → K e → ¬ hs L e a) ∧ ∀ s : Int → Prop, (∀ e : Int, 0 ≤ e → e < kc L → s e → K e) → hasN n L (fun e => hs L e a ∨ s e)
def df (L : List Ln) (a u e : Int) : Prop := hs L e u ∧ ¬ hs L e a
noncomputable def cdn (D : Int) (K : Int → Prop) : Nat := fb_ct (fun e => @decide (K (e : Int)) (Classical.propDecidable _)) D.toNat
def gu (n : Int) (L : List Ln) (a : Int) (K : Int → Prop) (fr mr : Int) (u : Int) : Prop := (∀ e : Int, 0 ≤ e → e < kc L → hs L e a → hs L e u) ∧ CB n L a (df L a u) ∧ (∀ e : Int, 0 ≤ e → e < kc L → e < fr → (df L a u e ↔ K e)) ∧ (cdn (kc L) (df L a u) : Int) = (cdn (kc L) K : Int) + mr
noncomputable def ctP (n : Int) (p : Int → Prop) : Int := (fb_ct (fun u => @decide (p (u : Int)) (Classical.propDecidable _)) n.toNat : Nat)
section Cubes
variable {n a d : Int} {L : List Ln} {v : VT} {K : Int → Prop}
theorem dcd {p : Prop} : (@decide p (Classical.propDecidable _) = true) ↔ p := by simp
theorem dcE {p q : Prop} (h : p ↔ q) : @decide p (Classical.propDecidable _) = @decide q (Classical.propDecidable _) := by rw [Bool.eq_iff_iff, dcd, dcd]; exact h
theorem ctP_r (hn : 0 ≤ n) (p : Int → Prop) : 0 ≤ ctP n p ∧ ctP n p ≤ n := by
  unfold ctP
  have := fb_ct_le (fun u => @decide (p (u : Int)) (Classical.propDecidable _)) n.toNat
  omega
theorem ctP_cong {p p' : Int → Prop} (h : ∀ u : Int, 0 ≤ u → u < n → (p u ↔ p' u)) : ctP n p = ctP n p' := by
  unfold ctP
  rw [fb_ct_cong (q := fun u => @decide (p' ((u : Nat) : Int)) (Classical.propDecidable _)) (fun k hk => dcE (h (k : Int) (by omega) (by omega)))]
theorem ctP_none {p : Int → Prop} (h : ∀ u : Int, 0 ≤ u → u < n → ¬ p u) : ctP n p = 0 := by
  unfold ctP
  rw [fb_ct_zero.mpr (fun k hk => Bool.eq_false_iff.mpr (fun g => h (k : Int) (by omega) (by omega) (dcd.mp g)))]
  rfl
theorem ctP_or {p p' : Int → Prop} (h : ∀ u : Int, 0 ≤ u → u < n → ¬ (p u ∧ p' u)) : ctP n (fun u => p u ∨ p' u) = ctP n p + ctP n p' := by
  unfold ctP
  have e := fb_ct_or (p := fun u => @decide (p ((u : Nat) : Int)) (Classical.propDecidable _)) (q := fun u => @decide (p' ((u : Nat) : Int)) (Classical.propDecidable _)) (n := n.toNat) (fun k hk g => h (k : Int) (by omega) (by omega) ⟨dcd.mp g.1, dcd.mp g.2⟩)
  rw [fb_ct_cong (q := fun k => (@decide (p ((k : Nat) : Int)) (Classical.propDecidable _)) || (@decide (p' ((k : Nat) : Int)) (Classical.propDecidable _))) (fun k hk => by rw [Bool.eq_iff_iff, Bool.or_eq_true, dcd, dcd, dcd]), e]
  omega
theorem ctP_one {p : Int → Prop} {i : Int} (hi' : 0 ≤ i ∧ i < n) (h : ∀ u : Int, 0 ≤ u → u < n → (p u ↔ u = i)) : ctP n p = 1 := by
  unfold ctP
  have e := fb_ct_upd (fun _ => false) true (i := i.toNat) (n := n.toNat) (by omega)
  have z : fb_ct (fun _ => false) n.toNat = 0 := fb_ct_zero.mpr (fun _ _ => rfl)
  rw [z] at e
  have e' : fb_ct (fun k => if k = i.toNat then true else false) n.toNat + 0 = 0 + 1 := e
  rw [fb_ct_cong (q := fun k => if k = i.toNat then true else false) (fun k hk => by
    have := h (k : Int) (by omega) (by omega)
    by_cases e1 : k = i.toNat
    · rw [if_pos e1]; exact dcd.mpr (this.mpr (by omega))
    · rw [if_neg e1]
      exact Bool.eq_false_iff.mpr (fun g => e1 (by have := this.mp (dcd.mp g); omega)))]
  omega
/-- one more in a set -/
theorem cdn_add (hd : 0 ≤ d ∧ d < kc L) (h : ¬ K d) : cdn (kc L) (fun e => K e ∨ e = d) = cdn (kc L) K + 1 := by
  unfold cdn
  have e := fb_ct_upd (fun e => @decide (K ((e : Nat) : Int)) (Classical.propDecidable _)) true (i := d.toNat) (n := (kc L).toNat) (by omega)
  have hz : (@decide (K ((d.toNat : Nat) : Int)) (Classical.propDecidable _)) = false := Bool.eq_false_iff.mpr (fun g => h (by have := dcd.mp g; rwa [Int.toNat_of_nonneg hd.1] at this))
  rw [hz] at e
  have e' : fb_ct (fun k => if k = d.toNat then true else @decide (K ((k : Nat) : Int)) (Classical.propDecidable _)) (kc L).toNat + 0 = fb_ct (fun e => @decide (K ((e : Nat) : Int)) (Classical.propDecidable _)) (kc L).toNat + 1 := e
  rw [fb_ct_cong (q := fun k => if k = d.toNat then true else @decide (K ((k : Nat) : Int)) (Classical.propDecidable _)) (fun k hk => by
    by_cases e1 : k = d.toNat
    · rw [if_pos e1]; exact dcd.mpr (Or.inr (by omega))
    · rw [if_neg e1]
      exact dcE ⟨fun g => by rcases g with g | g; exact g; exact absurd (by omega) e1, fun g => Or.inl g⟩)]
  omega
/-- a set within another, as large: the same -/
theorem cdn_same {K' : Int → Prop} (h : ∀ e : Int, 0 ≤ e → e < kc L → K e → K' e) (hc : cdn (kc L) K' ≤ cdn (kc L) K) {e : Int} (e0 : 0 ≤ e) (e1 : e < kc L) (hk : K' e) : K e := by
  refine Classical.byContradiction fun hno => ?_
  have h1 := cdn_add (K := K) (d := e) ⟨e0, e1⟩ hno
  have h2 : cdn (kc L) (fun x => K x ∨ x = e) ≤ cdn (kc L) K' := by
    unfold cdn
    refine fb_ct_sub (fun k hk' g => dcd.mpr ?_)
    rcases dcd.mp g with g | g
    · exact h _ (by omega) (by omega) g
    · rw [g]; exact hk
  omega
theorem CB_sub {K' : Int → Prop} (h : CB n L a K) (hs' : ∀ e : Int, 0 ≤ e → e < kc L → K' e → K e) : CB n L a K' :=
  ⟨fun e e0 e1 hk => h.1 e e0 e1 (hs' e e0 e1 hk), fun s hsub => h.2 s (fun e e0 e1 he => hs' e e0 e1 (hsub e e0 e1 he))⟩
theorem node_one (w : wfL n L) (hp : pcb n L) {c c' : Int} (hc : 0 ≤ c ∧ c < n) (hc' : 0 ≤ c' ∧ c' < n) (h : ∀ e : Int, 0 ≤ e → e < kc L → (hs L e c ↔ hs L e c')) : c = c' := by
  refine Classical.byContradiction fun hne => ?_
  obtain ⟨d, hd, hx⟩ := sides_ne w hp hc hc' hne
  exact hx (h d hd.1 hd.2)
theorem gu_0 (w : wfL n L) (hp : pcb n L) {fr : Int} (hcb : CB n L a K) (hK : ∀ e : Int, K e → e < fr) : ctP n (gu n L a K fr 0) = 1 := by
  obtain ⟨c, hc, hcs⟩ := hcb.2 K (fun e _ _ g => g)
  refine ctP_one hc (fun u u0 u1 => ⟨fun ⟨g1, g2, g3, g4⟩ => ?_, fun e => ?_⟩)
  · have hsub : ∀ e : Int, 0 ≤ e → e < kc L → K e → df L a u e := fun e e0 e1 hk => (g3 e e0 e1 (hK e hk)).mpr hk
    refine node_one w hp ⟨u0, u1⟩ hc (fun e e0 e1 => ?_)
    rw [hcs e e0 e1]
    constructor
    · intro hu
      by_cases ha : hs L e a
      · exact Or.inl ha
      · exact Or.inr (cdn_same hsub (by omega) e0 e1 ⟨hu, ha⟩)
    · rintro (ha | hk)
      · exact g1 e e0 e1 ha
      · exact (hsub e e0 e1 hk).1
  · have hdf : ∀ e' : Int, 0 ≤ e' → e' < kc L → (df L a u e' ↔ K e') := fun e' e0 e1 => by
      unfold df
      rw [e, hcs e' e0 e1]
      exact ⟨fun g => by rcases g.1 with k | k; exact absurd k g.2; exact k, fun g => ⟨Or.inr g, hcb.1 e' e0 e1 g⟩⟩
    refine ⟨fun e' e0 e1 ha => by rw [e, hcs e' e0 e1]; exact Or.inl ha, CB_sub hcb (fun e' e0 e1 g => (hdf e' e0 e1).mp g), fun e' e0 e1 _ => hdf e' e0 e1, ?_⟩
    have : cdn (kc L) (df L a u) = cdn (kc L) K := by
      unfold cdn
      exact fb_ct_cong (fun k hk => dcE (hdf (k : Int) (by omega) (by omega)))
    omega
/-- those whose first new direction is below d -/
def gx (n : Int) (L : List Ln) (a : Int) (K : Int → Prop) (fr mr d : Int) (u : Int) : Prop := gu n L a K fr mr u ∧ ∃ e : Int, (fr ≤ e ∧ e < d) ∧ (0 ≤ e ∧ e < kc L) ∧ df L a u e
theorem gx_end {fr mr : Int} (hK : ∀ e : Int, K e → e < fr) (hm : 1 ≤ mr) : ctP n (gx n L a K fr mr (kc L)) = ctP n (gu n L a K fr mr) := by
  refine ctP_cong (fun u u0 u1 => ⟨fun g => g.1, fun g => ⟨g, ?_⟩⟩)
  refine Classical.byContradiction fun hno => ?_
  obtain ⟨g1, g2, g3, g4⟩ := g
  have : cdn (kc L) (df L a u) ≤ cdn (kc L) K := by
    unfold cdn
    refine fb_ct_sub (fun k hk g => dcd.mpr ?_)
    have hd := dcd.mp g
    by_cases e : (k : Int) < fr
    · exact (g3 (k : Int) (by omega) (by omega) e).mp hd
    · exact absurd ⟨(k : Int), ⟨by omega, by omega⟩, ⟨by omega, by omega⟩, hd⟩ hno
  omega
theorem gx_step {fr mr : Int} (hK : ∀ e : Int, K e → e < fr) (hd : fr ≤ d) (hd2 : 0 ≤ d ∧ d < kc L) : ctP n (gx n L a K fr mr (d + 1)) = ctP n (gx n L a K fr mr d) + ctP n (gu n L a (fun e => K e ∨ e = d) (d + 1) (mr - 1)) := by
  have hKd : ¬ K d := fun g => by have := hK d g; omega
  have hca := cdn_add (L := L) (K := K) hd2 hKd
  rw [← ctP_or]
  · refine ctP_cong (fun u u0 u1 => ⟨fun ⟨⟨g1, g2, g3, g4⟩, e, he, he2, hde⟩ => ?_, fun g => ?_⟩)
    · by_cases hb : ∃ e : Int, (fr ≤ e ∧ e < d) ∧ (0 ≤ e ∧ e < kc L) ∧ df L a u e
      · exact Or.inl ⟨⟨g1, g2, g3, g4⟩, hb⟩
      · right
        have ed : e = d := by
          rcases Int.lt_or_le e d with k | k
          · exact absurd ⟨e, ⟨he.1, k⟩, he2, hde⟩ hb
          · omega
        refine ⟨g1, g2, fun x x0 x1 x2 => ?_, by rw [hca]; omega⟩
        constructor
        · intro hx
          rcases Int.lt_or_le x fr with k | k
          · exact Or.inl ((g3 x x0 x1 k).mp hx)
          · rcases Int.lt_or_le x d with k2 | k2
            · exact absurd ⟨x, ⟨k, k2⟩, ⟨x0, x1⟩, hx⟩ hb
            · exact Or.inr (by omega)
        · rintro (hx | hx)
          · exact (g3 x x0 x1 (hK x hx)).mpr hx
          · rw [hx, ← ed]; exact hde
    · rcases g with g | ⟨g1, g2, g3, g4⟩
      · obtain ⟨hg, e, he, he2, hde⟩ := g
        exact ⟨hg, e, ⟨he.1, by omega⟩, he2, hde⟩
      · refine ⟨⟨g1, g2, fun x x0 x1 x2 => ?_, by rw [hca] at g4; omega⟩, d, ⟨hd, by omega⟩, hd2, (g3 d hd2.1 hd2.2 (by omega)).mpr (Or.inr rfl)⟩
        rw [g3 x x0 x1 (by omega)]
        exact ⟨fun k => by rcases k with k | k; exact k; omega, fun k => Or.inl k⟩
  · rintro u u0 u1 ⟨⟨-, e, he, he2, hde⟩, ⟨-, -, g3, -⟩⟩
    rcases (g3 e he2.1 he2.2 (by omega)).mp hde with k | k
    · have := hK e k; omega
    · omega
/-! ===== the class ===== -/
def cor (L : List Ln) (a : Int) (K : Int → Prop) (c : Int) : Prop := ∀ e : Int, 0 ≤ e → e < kc L → (hs L e a → hs L e c) ∧ (hs L e c → hs L e a ∨ K e)
theorem na_or (hD : kc L ≤ 23) (hd : 0 ≤ d ∧ d < kc L) (c : Int) : (na n L (i_or (sd L (kc L) c) (i_shl 1 d)) = -1 ∧ ¬ hasN n L (fun e => hs L e c ∨ e = d)) ∨ ((0 ≤ na n L (i_or (sd L (kc L) c) (i_shl 1 d)) ∧ na n L (i_or (sd L (kc L) c) (i_shl 1 d)) < n) ∧ ∀ e : Int, 0 ≤ e → e < kc L → (hs L e (na n L (i_or (sd L (kc L) c) (i_shl 1 d))) ↔ hs L e c ∨ e = d)) := by
  have bit : ∀ k : Nat, tb (i_or (sd L (kc L) c) (i_shl 1 d)) k = true ↔ ((k : Int) < kc L ∧ hs L (k : Int) c) ∨ (k : Int) = d := fun k => by
    rw [tb_or, tb_shl1' (by omega), Bool.or_eq_true, sd_tb hD, decide_eq_true_iff]
    constructor
    · rintro (g | g)
      · exact Or.inl g
      · exact Or.inr (by omega)
    · rintro (g | g)
      · exact Or.inl g
      · exact Or.inr (by omega)
  rcases na_spec n L (i_or (sd L (kc L) c) (i_shl 1 d)) with ⟨h1, h2⟩ | ⟨h1, h2, h3, -⟩
  · refine Or.inl ⟨h1, fun ⟨c', hc', he⟩ => h2 c' hc'.1 hc'.2 ?_⟩
    refine tb_ext (by rw [sd_bs]; exact bs_r _ _) (r32_or _ _) (fun k _ => ?_)
    rw [Bool.eq_iff_iff, bit, sd_tb hD]
    constructor
    · intro ⟨g1, g2⟩
      rcases (he (k : Int) (by omega) g1).mp g2 with g | g
      · exact Or.inl ⟨g1, g⟩
      · exact Or.inr g
    · rintro (⟨g1, g2⟩ | g)
      · exact ⟨g1, (he (k : Int) (by omega) g1).mpr (Or.inl g2)⟩
      · exact ⟨by omega, (he (k : Int) (by omega) (by omega)).mpr (Or.inr g)⟩
  · refine Or.inr ⟨⟨h1, h2⟩, fun e e0 e1 => ?_⟩
    have b1 := sd_tb hD (na n L (i_or (sd L (kc L) c) (i_shl 1 d))) e.toNat
    rw [h3, bit, Int.toNat_of_nonneg e0] at b1
    constructor
    · intro g
      rcases b1.mpr ⟨e1, g⟩ with k | k
      · exact Or.inl k.2
      · exact Or.inr k
    · intro g
      rcases g with k | k
      · exact (b1.mp (Or.inl ⟨e1, k⟩)).2
      · exact (b1.mp (Or.inr k)).2
theorem S_across {q : Int → Prop} (w : wfL n L) (hp : pcb n L) (hn : 0 ≤ n ∧ n ≤ 24) (h5 : v 197 5 = n) (hk : kc L ≤ 23) (h8 : ∀ c : Int, 0 ≤ c → c < n → v 198 c.toNat = sd L (kc L) c) (h9 : ∀ d : Int, 0 ≤ d → d < kc L → v 199 d.toNat = bs n (hs L d)) (ha : 0 ≤ a ∧ a < n) (hd : 0 ≤ d ∧ d < kc L) (hcb : CB n L a K) (hKd : ¬ K d)
    (h0 : ¬ CB n L a (fun e => K e ∨ e = d) → q 0) (h1 : CB n L a (fun e => K e ∨ e = d) → ∀ y : Int, y ≠ 0 → i_or (bs n (cor L a K)) y = bs n (cor L a (fun e => K e ∨ e = d)) → q y) : P_X8_acrossFrom (bs n (cor L a K)) d v q := by
  have hlen : kc L ≤ 60 := by omega
  have hcor_a : cor L a K a := fun e e0 e1 => ⟨fun g => g, fun g => Or.inl g⟩
  -- a corner, by its set
  have cor_s : ∀ c : Int, cor L a K c → ∀ e : Int, 0 ≤ e → e < kc L → (hs L e c ↔ hs L e a ∨ (K e ∧ hs L e c)) := fun c hc e e0 e1 => ⟨fun g => by rcases (hc e e0 e1).2 g with k | k; exact Or.inl k; exact Or.inr ⟨k, g⟩, fun g => by rcases g with k | k; exact (hc e e0 e1).1 k; exact k.2⟩
  have nod : ∀ c : Int, cor L a K c → hs L d c → hs L d a := fun c hc g => by
    rcases (hc d hd.1 hd.2).2 g with k | k
    · exact k
    · exact absurd k hKd
  -- all corners have their node across: the larger cube is there
  have mk : ¬ hs L d a → (∀ c : Int, 0 ≤ c → c < n → cor L a K c → hasN n L (fun e => hs L e c ∨ e = d)) → CB n L a (fun e => K e ∨ e = d) := by
    intro hna hall
    refine ⟨fun e e0 e1 g => by rcases g with k | k; exact hcb.1 e e0 e1 k; rw [k]; exact hna, fun s hsub => ?_⟩
    obtain ⟨c, hc, hcs⟩ := hcb.2 (fun e => s e ∧ e ≠ d) (fun e e0 e1 g => by rcases hsub e e0 e1 g.1 with k | k; exact k; exact absurd k g.2)
    by_cases hsd : s d
    · have hcc : cor L a K c := fun e e0 e1 => ⟨fun g => (hcs e e0 e1).mpr (Or.inl g), fun g => by
        rcases (hcs e e0 e1).mp g with k | k
        · exact Or.inl k
        · rcases hsub e e0 e1 k.1 with k2 | k2
          · exact Or.inr k2
          · exact absurd k2 k.2⟩
      obtain ⟨c', hc', hcs'⟩ := hall c hc.1 hc.2 hcc
      refine ⟨c', hc', fun e e0 e1 => ?_⟩
      rw [hcs' e e0 e1]
      show (hs L e c ∨ e = d) ↔ (hs L e a ∨ s e)
      rw [hcs e e0 e1]
      constructor
      · rintro ((k | k) | k)
        · exact Or.inl k
        · exact Or.inr k.1
        · rw [k]; exact Or.inr hsd
      · rintro (k | k)
        · exact Or.inl (Or.inl k)
        · by_cases e2 : e = d
          · exact Or.inr e2
          · exact Or.inl (Or.inr ⟨k, e2⟩)
    · refine ⟨c, hc, fun e e0 e1 => ?_⟩
      rw [hcs e e0 e1]
      constructor
      · rintro (k | k)
        · exact Or.inl k
        · exact Or.inr k.1
      · rintro (k | k)
        · exact Or.inl k
        · exact Or.inr ⟨k, fun e2 => hsd (by rw [← e2]; exact k)⟩
  have un : CB n L a (fun e => K e ∨ e = d) → ¬ hs L d a ∧ ∀ c : Int, cor L a K c → hasN n L (fun e => hs L e c ∨ e = d) := fun hC => ⟨hC.1 d hd.1 hd.2 (Or.inr rfl), fun c hc => by
    obtain ⟨c', hc', hcs'⟩ := hC.2 (fun e => (K e ∧ hs L e c) ∨ e = d) (fun e e0 e1 g => by rcases g with k | k; exact Or.inl k.1; exact Or.inr k)
    refine ⟨c', hc', fun e e0 e1 => ?_⟩
    rw [hcs' e e0 e1]
    constructor
    · rintro (k | k | k)
      · exact Or.inl ((cor_s c hc e e0 e1).mpr (Or.inl k))
      · exact Or.inl k.2
      · exact Or.inr k
    · rintro (k | k)
      · rcases (cor_s c hc e e0 e1).mp k with k2 | k2
        · exact Or.inl k2
        · exact Or.inr (Or.inl k2)
      · exact Or.inr (Or.inr k)⟩
  unfold P_X8_acrossFrom
  rw [h5, h9 d hd.1 hd.2, bs_and (by omega)]
  refine ⟨by omega, fun hz => ?_, fun hz => h0 (fun hC => hz ((bs_z (by omega) _).mpr (fun c c0 c1 g => (un hC).1 (nod c g.1 g.2))))⟩
  have hz' := (bs_z (by omega) _).mp hz
  have hna : ¬ hs L d a := fun g => hz' a ha.1 ha.2 ⟨hcor_a, g⟩
  intro X18 hX18
  -- those found so far
  refine up2r (X := X18) n (fun i y => 0 ≤ i ∧ (∀ c : Int, 0 ≤ c → c < i → cor L a K c → hasN n L (fun e => hs L e c ∨ e = d)) ∧ y = bs n (fun c' => ∃ c : Int, (0 ≤ c ∧ c < i) ∧ cor L a K c ∧ ∀ e : Int, 0 ≤ e → e < kc L → (hs L e c' ↔ hs L e c ∨ e = d))) ?_ hn.1 ⟨by omega, fun c c0 c1 => by omega, by symm; exact bs_false (by omega) (fun k k0 k1 ⟨c, hc, _⟩ => by omega)⟩
  intro y i hle ⟨i0, hall, hy⟩ hnext
  apply hX18
  refine ⟨fun hge => ?_, fun hlt => ?_⟩
  · have hC := mk hna (fun c c0 c1 hc => hall c c0 (by omega) hc)
    refine h1 hC y ?_ ?_
    · intro e
      rw [hy] at e
      obtain ⟨c', hc', hcs'⟩ := hall a ha.1 (by omega) hcor_a
      exact (bs_z (by omega) _).mp e c' hc'.1 hc'.2 ⟨a, ⟨ha.1, by omega⟩, hcor_a, hcs'⟩
    · rw [hy, bs_or (by omega)]
      refine bs_congr (by omega) (fun c c0 c1 => ⟨fun g => ?_, fun g => ?_⟩)
      · rcases g with g | ⟨c2, hc2, g1, g2⟩
        · exact fun e e0 e1 => ⟨(g e e0 e1).1, fun k => by rcases (g e e0 e1).2 k with k2 | k2; exact Or.inl k2; exact Or.inr (Or.inl k2)⟩
        · exact fun e e0 e1 => ⟨fun k => (g2 e e0 e1).mpr (Or.inl ((g1 e e0 e1).1 k)), fun k => by
            rcases (g2 e e0 e1).mp k with k2 | k2
            · rcases (g1 e e0 e1).2 k2 with k3 | k3
              · exact Or.inl k3
              · exact Or.inr (Or.inl k3)
            · exact Or.inr (Or.inr k2)⟩
      · by_cases hcd : hs L d c
        · right
          obtain ⟨c2, hc2, hcs2⟩ := hcb.2 (fun e => K e ∧ hs L e c) (fun e e0 e1 k => k.1)
          have hcc : cor L a K c2 := fun e e0 e1 => ⟨fun k => (hcs2 e e0 e1).mpr (Or.inl k), fun k => by rcases (hcs2 e e0 e1).mp k with k2 | k2; exact Or.inl k2; exact Or.inr k2.1⟩
          refine ⟨c2, ⟨hc2.1, by omega⟩, hcc, fun e e0 e1 => ?_⟩
          rw [hcs2 e e0 e1]
          constructor
          · intro k
            rcases (g e e0 e1).2 k with k2 | k2 | k2
            · exact Or.inl (Or.inl k2)
            · exact Or.inl (Or.inr ⟨k2, k⟩)
            · exact Or.inr k2
          · rintro ((k | k) | k)
            · exact (g e e0 e1).1 k
            · exact k.2
            · rw [k]; exact hcd
        · left
          exact fun e e0 e1 => ⟨(g e e0 e1).1, fun k => by
            rcases (g e e0 e1).2 k with k2 | k2 | k2
            · exact Or.inl k2
            · exact Or.inr k2
            · rw [k2] at k; exact absurd k hcd⟩
  · have hbit : tb (bs n (cor L a K)) i.toNat = true ↔ cor L a K i := by
      rw [bs_tb (by omega), Int.toNat_of_nonneg i0]
      exact ⟨fun g => g.2, fun g => ⟨hlt, g⟩⟩
    refine S_hasBit (by omega) (fun g => ⟨fun _ => ⟨by omega, hnext hlt _ ⟨by omega, fun c c0 c1 hc => ?_, ?_⟩⟩, fun k => absurd rfl k⟩) (fun g => ⟨fun k => absurd k (by decide), fun _ => ⟨by omega, ?_⟩⟩)
    · by_cases e : c = i
      · rw [e] at hc; rw [hbit.mpr hc] at g; exact absurd g (by decide)
      · exact hall c c0 (by omega) hc
    · rw [hy]
      refine bs_congr (by omega) (fun c' _ _ => ⟨fun ⟨c, hc, k⟩ => ⟨c, ⟨hc.1, by omega⟩, k⟩, fun ⟨c, hc, k1, k2⟩ => ⟨c, ⟨hc.1, ?_⟩, k1, k2⟩⟩)
      by_cases e : c = i
      · rw [e] at k1; rw [hbit.mpr k1] at g; exact absurd g (by decide)
      · omega
    · have hci := hbit.mp g
      rw [h8 i i0 hlt]
      refine S_nodeAt hn h5 h8 ?_
      rcases na_or (n := n) hk hd i with ⟨e1, hno⟩ | ⟨hr, hcs⟩
      · rw [e1]
        exact ⟨fun k => absurd rfl k, fun _ => h0 (fun hC => hno ((un hC).2 i hci))⟩
      · generalize na n L (i_or (sd L (kc L) i) (i_shl 1 d)) = r at *
        refine ⟨fun _ l3 el3 => ⟨by omega, hnext hlt _ ⟨by omega, fun c c0 c1 hc => ?_, ?_⟩⟩, fun k => by omega⟩
        · by_cases e : c = i
          · rw [e]; exact ⟨r, hr, hcs⟩
          · exact hall c c0 (by omega) hc
        · rw [el3, hy]
          refine bs_eq (by omega) (r32_or _ _) (fun k hk' => ?_)
          rw [tb_or, Bool.or_eq_true, bs_tb (by omega), tb_shl1' (by omega), decide_eq_true_iff]
          constructor
          · rintro (⟨k1, c, hc, k2⟩ | k1)
            · exact ⟨k1, c, ⟨hc.1, by omega⟩, k2⟩
            · refine ⟨by omega, i, ⟨i0, by omega⟩, hci, ?_⟩
              rw [show ((k : Nat) : Int) = r by omega]; exact hcs
          · rintro ⟨k1, c, hc, k2, k3⟩
            by_cases e : c = i
            · right
              rw [e] at k3
              have : (k : Int) = r := node_one w hp ⟨by omega, k1⟩ hr (fun e' e0 e1 => by rw [k3 e' e0 e1, hcs e' e0 e1])
              omega
            · exact Or.inl ⟨k1, c, ⟨hc.1, by omega⟩, k2, k3⟩
theorem S_cubesOn (w : wfL n L) (hp : pcb n L) (hn : 0 ≤ n ∧ n ≤ 24) (h5 : v 197 5 = n) (h6 : v 197 6 = kc L) (hk : kc L ≤ 23) (h8 : ∀ c : Int, 0 ≤ c → c < n → v 198 c.toNat = sd L (kc L) c) (h9 : ∀ d : Int, 0 ≤ d → d < kc L → v 199 d.toNat = bs n (hs L d)) (ha : 0 ≤ a ∧ a < n) : ∀ (f : Nat) (K : Int → Prop) (fr mr : Int) (q : Int → Prop), 0 ≤ mr ∧ mr ≤ 4 → mr < f → 0 ≤ fr → fr ≤ kc L → (∀ e : Int, K e → e < fr) → CB n L a K → q (ctP n (gu n L a K fr mr)) → P_X8_cubesOn f (bs n (cor L a K)) fr mr v q := by
  intro f
  induction f with
  | zero => intro K fr mr q h0 h1; omega
  | succ f ih =>
    intro K fr mr q h0 h1 hf0 hf1 hK hcb hq
    have hk0 := kc_pos (L := L)
    show ((0 < mr) → _) ∧ ((mr ≤ 0) → q 1)
    refine ⟨fun hm => ?_, fun hm => ?_⟩
    · rw [h6]
      intro X12 hX12
      refine up2r (X := X12) (kc L) (fun i s => fr ≤ i ∧ s = ctP n (gx n L a K fr mr i)) ?_ hf1 ⟨by omega, ?_⟩
      · intro s i hle ⟨i0, hs'⟩ hnext
        have hr1 := ctP_r hn.1 (gx n L a K fr mr i)
        apply hX12
        refine ⟨fun hge => ?_, fun hlt => ?_⟩
        · rw [hs', show i = kc L by omega, gx_end hK (by omega)]; exact hq
        · have hKi : ¬ K i := fun g => by have := hK i g; omega
          have hst := gx_step (n := n) (a := a) (mr := mr) hK i0 ⟨by omega, hlt⟩
          refine S_across w hp hn h5 hk h8 h9 ha ⟨by omega, hlt⟩ hcb hKi (fun hno => ⟨fun _ => ⟨by omega, hnext hlt _ ⟨by omega, ?_⟩⟩, fun k => absurd rfl k⟩) (fun hC y hy ey => ⟨fun k => absurd k hy, fun _ => ⟨by omega, by omega, ?_⟩⟩)
          · rw [hst, ctP_none (p := gu n L a (fun e => K e ∨ e = i) (i + 1) (mr - 1)) (fun u u0 u1 g => hno (CB_sub g.2.1 (fun e e0 e1 ke => ?_))), hs']
            · omega
            · refine (g.2.2.1 e e0 e1 ?_).mpr ke
              rcases ke with k | k
              · have := hK e k; omega
              · omega
          · rw [ey]
            have hr2 := ctP_r hn.1 (gu n L a (fun e => K e ∨ e = i) (i + 1) (mr - 1))
            refine ih _ (i + 1) (mr - 1) _ (by omega) (by omega) (by omega) (by omega) (fun e g => by rcases g with k | k; (have := hK e k; omega); omega) hC ⟨by omega, by omega, hnext hlt _ ⟨by omega, ?_⟩⟩
            rw [hst, hs']
      · symm
        exact ctP_none (fun u _ _ ⟨_, e, he, _⟩ => by omega)
    · have e : mr = 0 := by omega
      rw [e, gu_0 w hp hcb hK] at hq
      exact hq
end Cubes

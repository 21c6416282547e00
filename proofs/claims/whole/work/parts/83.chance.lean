/-! ===== draws ===== -/
def nxc (c : Int) : Int := (1103515245 * c + 12345) % 2147483648
theorem nxc_r (c : Int) : 0 ≤ nxc c ∧ nxc c ≤ 2147483647 := by unfold nxc; omega
theorem and_m31 (x : Int) : i_and x 2147483647 = x % 2147483648 := by
  unfold i_and
  have h : (Int32.ofInt x &&& Int32.ofInt 2147483647).toBitVec.toNat = (x % 4294967296).toNat % 2147483648 := by
    rw [Int32.toBitVec_and, BitVec.toNat_and]
    have e1 : (Int32.ofInt x).toBitVec.toNat = (x % 4294967296).toNat := by rw [Int32.toBitVec_ofInt, BitVec.toNat_ofInt]; rfl
    have e2 : (Int32.ofInt 2147483647).toBitVec.toNat = 2147483647 := by decide
    rw [e1, e2]
    exact Nat.and_two_pow_sub_one_eq_mod _ 31
  have h2 : (Int32.ofInt x &&& Int32.ofInt 2147483647).toInt = (((Int32.ofInt x &&& Int32.ofInt 2147483647).toBitVec.toNat : Nat) : Int) :=
    BitVec.toInt_eq_toNat_of_lt (by rw [h]; omega)
  rw [h2, h]
  omega
theorem draw_x (c : Int) : i_and (w32 ((w32 (1103515245 * c)) + 12345)) 2147483647 = nxc c := by
  have e : w32 (w32 (1103515245 * c) + 12345) = w32 (1103515245 * c + 12345) := by
    rw [w32_add, w32_add]
    have : Int32.ofInt (w32 (1103515245 * c)) = Int32.ofInt (1103515245 * c) := Int32_ofInt_toInt' _
    rw [this]
  rw [e]
  have e2 : i_and (w32 (1103515245 * c + 12345)) 2147483647 = i_and (1103515245 * c + 12345) 2147483647 := by
    unfold i_and
    have : Int32.ofInt (w32 (1103515245 * c + 12345)) = Int32.ofInt (1103515245 * c + 12345) := Int32_ofInt_toInt' _
    rw [this]
  rw [e2, and_m31]
  rfl
/-! ===== one act by the seed ===== -/
noncomputable def lnx (L : List Ln) (a b : Int) : Int := Classical.epsilon (fun k : Int => 0 ≤ k ∧ k < L.length ∧ ((lo L k = a ∧ hi L k = b) ∨ (lo L k = b ∧ hi L k = a)))
theorem lnx_is {n : Int} {L : List Ln} (w : wfL n L) {a b k : Int} (k0 : 0 ≤ k) (k1 : k < L.length) (k2 : (lo L k = a ∧ hi L k = b) ∨ (lo L k = b ∧ hi L k = a)) : lnx L a b = k := by
  have h := Classical.epsilon_spec (p := fun k : Int => 0 ≤ k ∧ k < L.length ∧ ((lo L k = a ∧ hi L k = b) ∨ (lo L k = b ∧ hi L k = a))) ⟨k, k0, k1, k2⟩
  obtain ⟨h0, h1, h2⟩ := h
  have e : lnx L a b = Classical.epsilon (fun k : Int => 0 ≤ k ∧ k < L.length ∧ ((lo L k = a ∧ hi L k = b) ∨ (lo L k = b ∧ hi L k = a))) := rfl
  rw [← e] at h0 h1 h2
  have w1 := w.1 _ h0 h1
  have w2 := w.1 k k0 k1
  exact w.2.1 _ _ h0 h1 k0 k1 (by omega) (by omega)
noncomputable def swl (A : Net) (a b : Int) : Net := @ite _ (adj A.2.1 a b) (Classical.propDecidable _) (netC A (lnx A.2.1 a b)) (@ite _ (cj A.1 A.2.1 a b) (Classical.propDecidable _) (netJ A a b) A)
noncomputable def grw (A : Net) (a : Int) : Net := @ite _ (cg A a) (Classical.propDecidable _) (netG A a) A
noncomputable def prs (A : Net) (d : Int) : Net := if d < kc A.2.1 then netQ A d else A
noncomputable def stir (A : Net) (c : Int) : Net × Int :=
  if nxc c / 64 % 4 = 3 then (prs A (nxc (nxc c) / 64 % max 1 (kc A.2.1)), nxc (nxc c))
  else if nxc c / 64 % 4 = 2 then (swl A (nxc (nxc c) / 64 % A.1) (nxc (nxc (nxc c)) / 64 % A.1), nxc (nxc (nxc c)))
  else (grw A (nxc (nxc c) / 64 % A.1), nxc (nxc c))
def okSt (A : Net) (c : Int) : Prop := okNet A ∧ 1 ≤ A.1 ∧ 0 ≤ c ∧ c ≤ 2147483647
theorem stir_ok {A : Net} {c : Int} (h : okSt A c) : okSt (stir A c).1 (stir A c).2 := by
  obtain ⟨hA, h1, -⟩ := h
  have hm : ∀ x : Int, 0 ≤ x % A.1 ∧ x % A.1 < A.1 := fun x => ⟨Int.emod_nonneg _ (by omega), Int.emod_lt_of_pos _ (by omega)⟩
  unfold stir
  by_cases h3 : nxc c / 64 % 4 = 3
  · rw [if_pos h3]
    refine ⟨?_, ?_, nxc_r _⟩
    · show okNet (prs A _)
      unfold prs
      split
      · exact okNet_Q hA
      · exact hA
    · show 1 ≤ (prs A _).1
      unfold prs
      split
      · show 1 ≤ nr A.1 (RK A.2.1 _) A.1
        have hR := RK_ok hA.2.1 (nxc (nxc c) / 64 % max 1 (kc A.2.1))
        have r0 := rt_le hR (i := 0) (by omega)
        have := nr_lt (m := A.1) (R := RK A.2.1 (nxc (nxc c) / 64 % max 1 (kc A.2.1))) (a := 0) (b := A.1) (by omega) (by omega) (by omega)
        have : nr A.1 (RK A.2.1 (nxc (nxc c) / 64 % max 1 (kc A.2.1))) 0 = 0 := rfl
        omega
      · exact h1
  · rw [if_neg h3]
    by_cases h2 : nxc c / 64 % 4 = 2
    · rw [if_pos h2]
      refine ⟨?_, ?_, nxc_r _⟩
      · show okNet (swl A _ _)
        unfold swl
        split
        · exact okNet_C hA
        · split
          · rename_i hc; exact okNet_J hA hc
          · exact hA
      · show 1 ≤ (swl A _ _).1
        unfold swl
        split
        · exact h1
        · split <;> exact h1
    · rw [if_neg h2]
      refine ⟨?_, ?_, nxc_r _⟩
      · show okNet (grw A _)
        unfold grw
        split
        · rename_i hc; exact okNet_G hA hc
        · exact hA
      · show 1 ≤ (grw A _).1
        unfold grw
        split
        · show 1 ≤ A.1 + 1; omega
        · exact h1
section Chance
variable {v : VT} {t c : Int} {A : Net} {T : Vt} {F : Int × Int} {V : Vt} {S : Se} {P : Vt} {R : Nat → Int} {H : Hs}
theorem X_draw {m : Int} {q : Int → VT → Prop} (hA : okNet A) (hm : 1 ≤ m ∧ m ≤ 1000) (hX : IX v A T F V S c P R H) (hq : ∀ v', IX v' A T F V S (nxc c) P R H → (∀ a, a ≠ 0 → v' a = v a) → q (nxc c / 64 % m) v') : P_X10_draw m v q := by
  unfold P_X10_draw
  have hr := nxc_r c
  obtain ⟨o1, o2, o3, o4, o5, o6⟩ := id hX.2.2
  have e17 : v 0 17 = c := o3.2.2.1
  rw [e17, draw_x]
  intro v17 e
  have f : ∀ a, a ≠ 0 → v17 a = v a := fun a ha => by rw [e]; exact upd2_off _ _ _ ha
  have n17 : v17 0 17 = nxc c := by rw [e, upd2_same]
  rw [n17, i_div_p (by omega) (by omega), i_rem_p (by omega) (by omega)]
  refine ⟨fun g => by omega, fun _ => ⟨by omega, hq v17 ?_ f⟩⟩
  exact IX_gen hA hX (fun a ha => f a (by omega)) (isTp_frame o1 (f 1 (by omega)) (f 2 (by omega))) (xF_fr o2 (by rw [f 3 (by omega)]) (by rw [f 3 (by omega)])) (by
    unfold xD
    rw [f 213 (by omega), f 214 (by omega), f 215 (by omega), e, upd2_j, upd2_j, upd2_j, if_neg (by decide), if_neg (by decide), if_pos rfl]
    exact ⟨o3.1, o3.2.1, rfl, o3.2.2.2⟩) (xP_fr o4 (f 205 (by omega)) (f 206 (by omega))) (xR_fr o5 (f 217 (by omega)))
theorem M_draw {m : Int} {q : Int → VT → Prop} (hm : 1 ≤ m ∧ m ≤ 1000) (hc : 0 ≤ c ∧ c ≤ 2147483647) (hM : IM v A T F V S c P R H) (hq : ∀ v', IM v' A T F V S (nxc c) P R H → (∀ a, a ≠ 218 → v' a = v a) → (∀ j, j ≠ 41 → v' 218 j = v 218 j) → q (nxc c / 64 % m) v') : P_X11_drawOf m v q := by
  unfold P_X11_drawOf
  have hr := nxc_r c
  obtain ⟨o1, o2, o3, o4, o5, o6⟩ := id hM.2.2
  have e41 : v 218 41 = c := o3.2.2.1
  rw [e41, l_rem_p (by omega) (by omega)]
  refine ⟨by omega, by omega, fun v17 e => ?_⟩
  have f : ∀ a, a ≠ 218 → v17 a = v a := fun a ha => by rw [e]; exact upd2_off _ _ _ ha
  have j' : ∀ j, j ≠ 41 → v17 218 j = v 218 j := fun j hj => by rw [e, upd2_j, if_neg hj]
  have n17 : v17 218 41 = nxc c := by rw [e, upd2_same]; rfl
  have m0 := Int.emod_nonneg (nxc c / 64) (show m ≠ 0 by omega)
  have m1 := Int.emod_lt_of_pos (nxc c / 64) (show 0 < m by omega)
  rw [n17, l_div_p (by omega) (by omega), l_rem_p (by omega) (by omega)]
  refine ⟨by omega, by omega, hq v17 ?_ f j'⟩
  exact IM_gen hM (fun a ha => f a (by omega)) (fun j hj => j' j (by omega)) (mT_fr o1 (j' 1 (by omega)) (f 219 (by omega))) (mFt_fr o2 (j' 7 (by omega)) (j' 8 (by omega))) (by
    unfold mD
    rw [f 236 (by omega), f 238 (by omega), j' 30 (by omega), j' 33 (by omega), n17]
    exact ⟨o3.1, o3.2.1, rfl, o3.2.2.2⟩) (mP_fr o4 (j' 43 (by omega)) (f 243 (by omega))) (mR_fr o5 (f 220 (by omega)))
theorem X_switch {a b : Int} {q : VT → Prop} (hA : okNet A) (hX : IX v A T F V S c P R H) (hq : ∀ v2, IX v2 (swl A a b) T F V S c P R H → q v2) : P_X10_switchLine a b v q := by
  unfold P_X10_switchLine
  unfold swl at hq
  refine S_findLine hA.2.1 hX.1.1 (fun hno => ⟨fun _ => ?_, fun g => absurd rfl g⟩) (fun k k0 k1 k2 => ⟨fun g => by omega, fun _ => ?_⟩)
  · rw [if_neg hno] at hq
    refine S_canJoin hA.2.1 hX.1.1 (fun hc => ⟨fun _ => ?_, fun g => absurd rfl g⟩) (fun hc => ⟨fun g => absurd g (by decide), fun _ => ?_⟩)
    · rw [if_neg hc] at hq; exact hq v hX
    · rw [if_pos hc] at hq; exact X_addLine hX hc.2.2.2.1 hq
  · rw [if_pos ⟨k, k0, k1, k2⟩, lnx_is hA.2.1 k0 k1 k2] at hq
    exact X_removeLine hA hX ⟨k0, k1⟩ hq
theorem X_act {q : VT → Prop} (hS : okSt A c) (hX : IX v A T F V S c P R H) (hq : ∀ v2, IX v2 (stir A c).1 T F V S (stir A c).2 P R H → q v2) : P_X10_actBySeed v q := by
  obtain ⟨hA, h1, -⟩ := hS
  have hn := hA.1
  have hkl : kc A.2.1 ≤ A.2.1.length := nr_le (by omega)
  have hk0 : 0 ≤ kc A.2.1 := nr_pos
  have hlen := hA.2.1.2.2
  unfold P_X10_actBySeed
  unfold stir at hq
  refine X_draw hA (by omega) hX (fun v2 x2 _ => ?_)
  refine ⟨fun g2 => ⟨fun gne => ?_, fun ge => ?_⟩, fun g2 => ?_⟩
  · rw [if_pos (by omega)] at hq
    refine S_sorted hA.2.1 hA.1 x2.1 (fun v3 f3 c3 _ _ _ o3 => ?_)
    have x3 := IX_XF x2 f3 c3
    have e1 : v3 191 1 = kc A.2.1 := o3.1
    rw [e1]
    refine X_draw hA (by omega) x3 (fun v4 x4 f4 => ⟨fun g => ?_, fun g => ?_⟩)
    · unfold prs at hq
      rw [if_neg (by omega)] at hq
      exact hq v4 x4
    · unfold prs at hq
      rw [if_pos g] at hq
      exact X_pressKind hA x4 (kOKx_frame o3 (fun a ha => f4 a (by omega))) hq
  · rw [if_neg (by omega), if_pos ge] at hq
    rw [x2.1.1.1]
    refine X_draw hA (by omega) x2 (fun v3 x3 _ => ?_)
    rw [x3.1.1.1]
    refine X_draw hA (by omega) x3 (fun v4 x4 _ => X_switch hA x4 hq)
  · rw [if_neg (by omega), if_neg (by omega)] at hq
    rw [x2.1.1.1]
    refine X_draw hA (by omega) x2 (fun v3 x3 _ => ?_)
    unfold grw at hq
    refine S_canGrow x3 (fun hc => ⟨fun _ => ?_, fun g => absurd rfl g⟩) (fun hc => ⟨fun g => absurd g (by decide), fun _ => ?_⟩)
    · rw [if_neg hc] at hq; exact hq v3 x3
    · rw [if_pos hc] at hq; exact X_addLeaf hA hc x3 hq
theorem M_act {q : VT → Prop} (hS : okSt A c) (hM : IM v A T F V S c P R H) (hq : ∀ v2, IM v2 (stir A c).1 T F V S (stir A c).2 P R H → q v2) : P_X11_stirs v q := by
  obtain ⟨hA, h1, hc⟩ := hS
  have hn := hA.1
  have hkl : kc A.2.1 ≤ A.2.1.length := nr_le (by omega)
  have hk0 : 0 ≤ kc A.2.1 := nr_pos
  have hlen := hA.2.1.2.2
  unfold P_X11_stirs
  unfold stir at hq
  refine M_draw (by omega) hc hM (fun v2 m2 _ _ => ?_)
  refine ⟨fun gne => ?_, fun ge => ?_⟩
  · rw [if_neg gne] at hq
    rw [m2.1.1.1]
    refine M_draw (by omega) (nxc_r _) m2 (fun v3 m3 _ _ => ⟨fun g2 => ?_, fun g2 => ?_⟩)
    · rw [if_pos (by omega)] at hq
      rw [m3.1.1.1]
      refine M_draw (by omega) (nxc_r _) m3 (fun v4 m4 _ _ => ?_)
      unfold swl at hq
      intro K108 hK108
      have nol : ¬ adj A.2.1 (nxc (nxc c) / 64 % A.1) (nxc (nxc (nxc c)) / 64 % A.1) → K108 (-1) := fun hno => by
        rw [if_neg hno] at hq
        apply hK108
        refine ⟨fun _ => ?_, fun g => absurd rfl g⟩
        refine S_canJoinM hA.1 hA.2.1 m4.1.1 (fun hcj => ⟨fun _ => ?_, fun g => absurd rfl g⟩) (fun hcj => ⟨fun g => absurd g (by decide), fun _ => ?_⟩)
        · rw [if_neg hcj] at hq; exact hq v4 m4
        · rw [if_pos hcj] at hq; exact M_joins hA m4 hcj.2.2.2.1 hq
      refine ⟨fun hne => S_lineOf hA.2.1 m4.1.1 nol (fun k k0 k1 k2 => ?_), fun he => nol (fun g => (adj_in hA.2.1 g).2.2.2.2 he)⟩
      rw [if_pos ⟨k, k0, k1, k2⟩, lnx_is hA.2.1 k0 k1 k2] at hq
      apply hK108
      exact ⟨fun g => by omega, fun _ => M_cuts hA m4 ⟨k0, k1⟩ hq⟩
    · rw [if_neg (by omega)] at hq
      unfold grw at hq
      refine S_canGrowM hA m3 (fun hcg => ⟨fun _ => ?_, fun g => absurd rfl g⟩) (fun hcg => ⟨fun g => absurd g (by decide), fun _ => ?_⟩)
      · rw [if_neg hcg] at hq; exact hq v3 m3
      · rw [if_pos hcg] at hq; exact M_grows hA hcg m3 hq
  · rw [if_pos ge] at hq
    refine S_lays hA.2.1 hA.1 m2.1 (fun v3 f3 c3 l3 => ?_)
    have m3 := IM_MF m2 f3 c3
    have e18 : v3 218 18 = kc A.2.1 := l3.2.1.1
    rw [e18]
    intro K31 hK31
    have go : K31 (max 1 (kc A.2.1)) := by
      apply hK31
      refine M_draw (by omega) (nxc_r _) m3 (fun v4 m4 f4 j4 => ?_)
      have e4 : v4 218 18 = kc A.2.1 := by rw [j4 18 (by omega)]; exact e18
      rw [e4]
      unfold prs at hq
      refine ⟨fun g => ?_, fun g => ?_⟩
      · rw [if_neg (by omega)] at hq; exact hq v4 m4
      · rw [if_pos g] at hq
        refine S_presses hA m4 ?_ hq
        have := l3.2.1
        unfold kOKm at this ⊢
        rw [j4 18 (by omega), f4 225 (by omega), f4 227 (by omega)]
        exact this
    refine ⟨fun g => ?_, fun g => ?_⟩
    · rw [show max 1 (kc A.2.1) = 1 by omega] at go; exact go
    · rw [show max 1 (kc A.2.1) = kc A.2.1 by omega] at go; exact go
noncomputable def stirs (A : Net) (c : Int) : Nat → Net × Int
  | 0 => (A, c)
  | k + 1 => stir (stirs A c k).1 (stirs A c k).2
theorem stirs_ok (h : okSt A c) : ∀ k : Nat, okSt (stirs A c k).1 (stirs A c k).2
  | 0 => h
  | k + 1 => stir_ok (stirs_ok h k)
theorem XS_chance {x : Int} (hx : 1 ≤ x ∧ x ≤ 40) (h1 : 1 ≤ A.1) (hA : okNet A) (hT : okT t V S c P R H) (hX : IX v A T F V S c P R H) : P_X10_chance x v (fun r v1 => r = (stirs A c x.toNat).1.1 ∧ IX v1 (stirs A c x.toNat).1 T F V S (stirs A c x.toNat).2 P R (push H A)) := by
  have hS : okSt A c := ⟨hA, h1, hT.2.2.2.1⟩
  unfold P_X10_chance
  rw [hX.1.1.1]
  refine ⟨fun g => by omega, fun _ => ⟨fun g => by omega, fun _ => ⟨fun _ => ?_, fun g => by omega⟩⟩⟩
  refine X_keep hA hT hX (fun v1 x1 _ => ?_)
  intro X40 hX40
  refine up2 (X := X40) x (fun i v40 => 0 ≤ i ∧ IX v40 (stirs A c i.toNat).1 T F V S (stirs A c i.toNat).2 P R (push H A)) ?_ (by omega) ⟨by omega, x1⟩
  intro i v40 hle ⟨i0, xi⟩ hnext
  apply hX40
  refine ⟨fun g => ?_, fun g => X_act (stirs_ok hS i.toNat) xi (fun v2 x2 => ⟨by omega, hnext g _ ⟨by omega, ?_⟩⟩)⟩
  · have e : i = x := by omega
    rw [e] at xi
    exact ⟨xi.1.1.1, xi⟩
  · rw [show (i + 1).toNat = i.toNat + 1 by omega]; exact x2
theorem MS_chance {x : Int} (hx : 1 ≤ x ∧ x ≤ 40) (h1 : 1 ≤ A.1) (hA : okNet A) (hT : okT t V S c P R H) (hM : IM v A T F V S c P R H) : P_X11_chance x v (fun r v1 => r = (stirs A c x.toNat).1.1 ∧ IM v1 (stirs A c x.toNat).1 T F V S (stirs A c x.toNat).2 P R (push H A)) := by
  have hS : okSt A c := ⟨hA, h1, hT.2.2.2.1⟩
  unfold P_X11_chance
  rw [hM.1.1.1]
  refine S_isIn (fun g => absurd hx g) (fun _ => ⟨fun g => absurd g (by decide), fun _ => ⟨fun _ => ?_, fun g => by omega⟩⟩)
  refine M_keep hA hT hM (fun v1 m1 _ _ => ?_)
  intro X33 hX33
  refine up2 (X := X33) x (fun i v33 => 0 ≤ i ∧ IM v33 (stirs A c i.toNat).1 T F V S (stirs A c i.toNat).2 P R (push H A)) ?_ (by omega) ⟨by omega, m1⟩
  intro i v33 hle ⟨i0, mi⟩ hnext
  apply hX33
  refine ⟨fun g => ?_, fun g => M_act (stirs_ok hS i.toNat) mi (fun v2 m2 => ⟨by omega, hnext g _ ⟨by omega, ?_⟩⟩)⟩
  · have e : i = x := by omega
    rw [e] at mi
    exact ⟨mi.1.1.1, mi⟩
  · rw [show (i + 1).toNat = i.toNat + 1 by omega]; exact m2
theorem Q_chance {x : Int} (ht : t < 1000000) (h : Inv t v) : P_X10_chance x v (fun r v1 => P_X11_chance x v1 (fun r' v2 => r = r' ∧ Inv (t + 1) v2)) := by
  obtain ⟨A, T, F, V, S, c, P, R, H, hA, hT, hX, hM⟩ := h
  have hn := hA.1
  by_cases hc : (1 ≤ x ∧ x ≤ 40) ∧ 1 ≤ A.1
  · have hS : okSt A c := ⟨hA, hc.2, hT.2.2.2.1⟩
    have hS2 := stirs_ok hS x.toNat
    have hT2 := okT_push hA hT
    exact N_X10_chance (F_X10_chance (XS_chance hc.1 hc.2 hA hT hX)) (fun r1 v1 h1 => N_X11_chance (F_X11_chance (MS_chance hc.1 hc.2 hA hT (IM_high hM (fun a ha => h1.2 a (by omega))))) (fun r2 v2 h2 => ⟨by rw [h1.1.1, h2.1.1], inv_mk hS2.1 ⟨hT2.1, hT2.2.1, hT2.2.2.1, hS2.2.2, hT2.2.2.2.2⟩ h1.1.2 (fun a ha => h2.2 a (by omega)) h2.1.2⟩))
  · have no : P_X10_refuse 3 v (fun r v1 => P_X11_chance x v1 (fun r' v2 => r = r' ∧ Inv (t + 1) v2)) := by
      refine ref_two (k := 3) (fM := fun v q => P_X11_chance x v q) hA hT ht hX hM (by omega) (fun v1 q m1 hr => ?_)
      unfold P_X11_chance
      rw [m1.1.1.1]
      exact S_isIn (fun _ => ⟨fun _ => hr, fun g => absurd rfl g⟩) (fun g1 => ⟨fun g => absurd g (by decide), fun _ => ⟨fun g2 => absurd ⟨g1, by omega⟩ hc, fun _ => hr⟩⟩)
    unfold P_X10_chance
    rw [hX.1.1.1]
    exact ⟨fun _ => no, fun g1 => ⟨fun _ => no, fun g2 => ⟨fun g3 => absurd ⟨⟨g1, g2⟩, by omega⟩ hc, fun _ => no⟩⟩⟩
end Chance

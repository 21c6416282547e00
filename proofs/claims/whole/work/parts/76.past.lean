/-! ===== the past: keep, undo ===== -/
theorem cpy_at (v : VT) (a b n j : Nat) : cpy v a b n b j = if j < n then v a j else v b j := by
  unfold cpy
  by_cases h : j < n
  · rw [if_pos ⟨rfl, h⟩, if_pos h]
  · rw [if_neg (fun g => h g.2), if_neg h]
theorem S_takeFrom {v : VT} {g o : Nat} {A : Net} {q : VT → Prop} (hA : okNet A) (h : xNet v o A) (hgo : g + 6 ≤ o ∨ o + 6 ≤ g)
    (hq : ∀ v', (∀ a, ¬ (g ≤ a ∧ a ≤ g + 4) → v' a = v a) → xNet v' g A → q v') : P_X0_takeFrom g o v q := by
  have hlen := hA.2.1.2.2
  unfold P_X0_takeFrom
  intro v5 e5 v13 e13
  have e50 : v5 o 1 = (A.2.1.length : Int) := by rw [e5, upd2_off _ _ _ (by omega)]; exact h.1.2.1
  have g0 : v13 g 0 = A.1 := by rw [e13, upd2_j, if_neg (by decide), e5, upd2_same]; exact h.1.1
  have g1 : v13 g 1 = (A.2.1.length : Int) := by rw [e13, upd2_same]; exact e50
  have f13 : ∀ a, a ≠ g → v13 a = v a := fun a ha => by rw [e13, upd2_off _ _ _ ha, e5, upd2_off _ _ _ ha]
  rw [g0]
  refine ⟨hA.1, fun v30 e30 => ?_⟩
  have f30 : ∀ a, a ≠ g + 1 → v30 a = v13 a := fun a ha => by rw [e30]; exact cpy_off _ _ _ ha
  rw [f30 g (by omega), g1]
  refine ⟨by omega, fun v47 e47 => ?_⟩
  have f47 : ∀ a, a ≠ g + 2 → v47 a = v30 a := fun a ha => by rw [e47]; exact cpy_off _ _ _ ha
  rw [f47 g (by omega), f30 g (by omega), g1]
  refine ⟨by omega, fun v64 e64 => ?_⟩
  have f64 : ∀ a, a ≠ g + 3 → v64 a = v47 a := fun a ha => by rw [e64]; exact cpy_off _ _ _ ha
  rw [f64 g (by omega), f47 g (by omega), f30 g (by omega), g1]
  refine ⟨by omega, fun v81 e81 => ?_⟩
  have f81 : ∀ a, a ≠ g + 4 → v81 a = v64 a := fun a ha => by rw [e81]; exact cpy_off _ _ _ ha
  refine hq v81 (fun a ha => ?_) ⟨⟨?_, ?_, fun k k0 k1 => ⟨?_, ?_, ?_⟩⟩, fun i i0 i1 => ?_⟩
  · rw [f81 a (by omega), f64 a (by omega), f47 a (by omega), f30 a (by omega), f13 a (by omega)]
  · rw [f81 g (by omega), f64 g (by omega), f47 g (by omega), f30 g (by omega)]; exact g0
  · rw [f81 g (by omega), f64 g (by omega), f47 g (by omega), f30 g (by omega)]; exact g1
  · rw [f81 _ (by omega), f64 _ (by omega), e47, cpy_at, if_pos (by omega), f30 _ (by omega), f13 _ (by omega)]; exact (h.1.2.2 k k0 k1).1
  · rw [f81 _ (by omega), e64, cpy_at, if_pos (by omega), f47 _ (by omega), f30 _ (by omega), f13 _ (by omega)]; exact (h.1.2.2 k k0 k1).2.1
  · rw [e81, cpy_at, if_pos (by omega), f64 _ (by omega), f47 _ (by omega), f30 _ (by omega), f13 _ (by omega)]; exact (h.1.2.2 k k0 k1).2.2
  · rw [f81 _ (by omega), f64 _ (by omega), f47 _ (by omega), e30, cpy_at, if_pos (by omega), f13 _ (by omega)]; exact h.2 i i0 i1
abbrev nil0 : Net := (0, [], fun _ => [])
def push (H : Hs) (A : Net) : Hs := ((H.1 + 1) % 20, (A :: H.2).take 20)
theorem getD_tk {l : List Net} {j k : Nat} (h : j < k) : (l.take k).getD j nil0 = l.getD j nil0 := by
  rw [List.getD_eq_getElem?_getD, List.getElem?_take_of_lt h, ← List.getD_eq_getElem?_getD]
theorem push_len (H : Hs) (A : Net) : (push H A).2.length = min 20 (H.2.length + 1) := by
  show ((A :: H.2).take 20).length = _
  rw [List.length_take, List.length_cons]
theorem push_0 (H : Hs) (A : Net) : (push H A).2.getD 0 nil0 = A := getD_tk (by omega)
theorem push_s {H : Hs} {A : Net} {j : Nat} (h : j + 1 < 20) : (push H A).2.getD (j + 1) nil0 = H.2.getD j nil0 := by
  show ((A :: H.2).take 20).getD (j + 1) nil0 = _
  rw [getD_tk h]
  rfl
theorem S_keep {v : VT} {A : Net} {H : Hs} {q : VT → Prop} (hA : okNet A) (h : xNet v 10 A) (hH : xH v H) (h1 : H.2.length ≤ 20 ∧ 0 ≤ H.1 ∧ H.1 < 20)
    (hq : ∀ v', (∀ a, ¬ (a = 16 ∨ (18 ≤ a ∧ a ≤ 137)) → v' a = v a) → xH v' (push H A) → q v') : P_X3_keep v q := by
  obtain ⟨c0, c1, c2⟩ := hH
  unfold P_X3_keep
  rw [c1]
  refine ⟨by omega, S_takeFrom hA h (by omega) (fun v10 f10 n10 => ?_)⟩
  have s0 : v10 16 0 = (H.2.length : Int) := by rw [f10 16 (by omega)]; exact c0
  have s1 : v10 16 1 = H.1 := by rw [f10 16 (by omega)]; exact c1
  rw [s1]
  refine ⟨by omega, fun v23 e23 => ?_⟩
  have s2 : v23 16 0 = (H.2.length : Int) := by rw [e23, upd2_j, if_neg (by decide)]; exact s0
  rw [s2]
  refine ⟨by omega, fun v38 e38 => ?_⟩
  have er : i_rem (H.1 + 1) 20 = (H.1 + 1) % 20 := i_rem_p (by omega) (by omega)
  have f38 : ∀ a, a ≠ 16 → v38 a = v10 a := fun a ha => by rw [e38, upd2_off _ _ _ ha, e23, upd2_off _ _ _ ha]
  refine hq v38 (fun a ha => by rw [f38 a (by omega), f10 a (by omega)]) ⟨?_, ?_, fun j hj => ?_⟩
  · rw [e38, upd2_same, push_len]; omega
  · rw [e38, upd2_j, if_neg (by decide), e23, upd2_same]; exact er
  · rw [push_len] at hj
    have hp1 : (push H A).1 = (H.1 + 1) % 20 := rfl
    rw [hp1]
    cases j with
    | zero =>
      rw [push_0, show (((H.1 + 1) % 20 - 1 - ((0 : Nat) : Int)) % 20).toNat = H.1.toNat by omega]
      exact xNet_fr n10 (fun a ha => f38 a (by omega))
    | succ j =>
      rw [push_s (by omega), show (((H.1 + 1) % 20 - 1 - ((j + 1 : Nat) : Int)) % 20).toNat = ((H.1 - 1 - (j : Int)) % 20).toNat by omega]
      refine xNet_fr (c2 j (by omega)) (fun a ha => ?_)
      rw [f38 a (by omega)]
      exact f10 a (by omega)
theorem mRow_cong {f f' : Nat → Int} {A : Net} (hA : okNet A) (h : mRow f A) (hf : ∀ k, k < 206 → f' k = f k) : mRow f' A := by
  have hlen := hA.2.1.2.2
  have hn := hA.1
  refine ⟨⟨by rw [hf 0 (by omega)]; exact h.1.1, by rw [hf 1 (by omega)]; exact h.1.2.1, fun k k0 k1 => ?_⟩, fun i i0 i1 => ?_⟩
  · rw [hf _ (by omega), hf _ (by omega), hf _ (by omega)]; exact h.1.2.2 k k0 k1
  · rw [hf _ (by omega)]; exact h.2 i i0 i1
theorem S_keeps {v : VT} {A : Net} {H : Hs} {q : VT → Prop} (hA : okNet A) (h : mRow (v 222) A) (hH : mH v H) (h1 : H.2.length ≤ 20 ∧ 0 ≤ H.1 ∧ H.1 < 20) (hO : ∀ A ∈ H.2, okNet A)
    (hq : ∀ v', (∀ a, a ≠ 218 → a ≠ 239 → v' a = v a) → (∀ j, j ≠ 36 → j ≠ 37 → v' 218 j = v 218 j) → mH v' (push H A) → q v') : P_X11_keeps v q := by
  obtain ⟨c0, c1, c2⟩ := hH
  have er : i_rem (H.1 + 1) 20 = (H.1 + 1) % 20 := i_rem_p (by omega) (by omega)
  unfold P_X11_keeps
  rw [c1, er]
  refine ⟨by omega, fun v10 e10 K49 hK49 X15 hX15 => ?_⟩
  refine up2 (X := X15) 206 (fun i v15 => 0 ≤ i ∧ (∀ a, a ≠ 218 → a ≠ 239 → v15 a = v a) ∧ (∀ j, j ≠ 37 → v15 218 j = v 218 j) ∧ v15 218 37 = (H.1 + 1) % 20 ∧ (∀ k : Nat, (k : Int) < i → v15 239 (206 * ((H.1 + 1) % 20).toNat + k) = v 222 k) ∧ ∀ k : Nat, ¬ (206 * ((H.1 + 1) % 20).toNat ≤ k ∧ k < 206 * ((H.1 + 1) % 20).toNat + 206) → v15 239 k = v 239 k) ?_ (by omega) ⟨by omega, fun a a1 a2 => by rw [e10]; exact upd2_off _ _ _ a1, fun j hj => by rw [e10, upd2_j, if_neg hj], by rw [e10, upd2_same], fun k hk => by omega, fun k hk => by rw [e10, upd2_off _ _ _ (by omega)]⟩
  intro i v15 hle ⟨i0, hf, hj, h37, hc, hd⟩ hnext
  apply hX15
  rw [h37]
  refine ⟨fun hge => ?_, fun hlt => ⟨by omega, by omega, by omega, by omega, fun v42 e42 => ⟨by omega, hnext hlt _ ⟨by omega, fun a a1 a2 => ?_, fun j hj' => ?_, ?_, fun k hk => ?_, fun k hk => ?_⟩⟩⟩⟩
  · have row : ∀ w : VT, w 239 = v15 239 → ∀ j : Nat, j < min 20 (H.2.length + 1) → mRow (fun k => w 239 (206 * (((push H A).1 - (j : Int)) % 20).toNat + k)) ((push H A).2.getD j nil0) := by
      intro w ew j hj20
      rw [ew]
      have hp1 : (push H A).1 = (H.1 + 1) % 20 := rfl
      rw [hp1]
      cases j with
      | zero =>
        rw [push_0, show (((H.1 + 1) % 20 - ((0 : Nat) : Int)) % 20).toNat = ((H.1 + 1) % 20).toNat by omega]
        exact mRow_cong hA h (fun k hk => hc k (by omega))
      | succ j =>
        rw [push_s (by omega), show (((H.1 + 1) % 20 - ((j + 1 : Nat) : Int)) % 20).toNat = ((H.1 - (j : Int)) % 20).toNat by omega]
        have hmem : okNet (H.2.getD j nil0) := hO _ (by
          rw [List.getD_eq_getElem?_getD, List.getElem?_eq_getElem (show j < H.2.length by omega)]
          exact List.getElem_mem _)
        exact mRow_cong hmem (c2 j (by omega)) (fun k hk => hd _ (by omega))
    apply hK49
    have n36 : v15 218 36 = (H.2.length : Int) := by rw [hj 36 (by omega)]; exact c0
    rw [n36]
    refine ⟨fun g => hq v15 hf (fun j j1 j2 => hj j j2) ⟨?_, h37, fun j hj' => ?_⟩, fun g => ⟨by omega, fun v65 e65 => hq v65 (fun a a1 a2 => ?_) (fun j j1 j2 => ?_) ⟨?_, ?_, fun j hj' => ?_⟩⟩⟩
    · rw [n36, push_len]; omega
    · rw [push_len] at hj'; exact row v15 rfl j hj'
    · rw [e65, upd2_off _ _ _ a1]; exact hf a a1 a2
    · rw [e65, upd2_j, if_neg j1]; exact hj j j2
    · rw [e65, upd2_same, push_len]; omega
    · rw [e65, upd2_j, if_neg (by decide)]; exact h37
    · rw [push_len] at hj'; exact row v65 (by rw [e65, upd2_off _ _ _ (by omega)]) j hj'
  · rw [e42, upd2_off _ _ _ a2]; exact hf a a1 a2
  · rw [e42, upd2_off _ _ _ (by omega)]; exact hj j hj'
  · rw [e42, upd2_off _ _ _ (by omega)]; exact h37
  · rw [e42, upd2_j]
    by_cases e : (k : Int) = i
    · rw [if_pos (by omega), hf 222 (by omega) (by omega), show i.toNat = k by omega]
    · rw [if_neg (by omega)]; exact hc k (by omega)
  · rw [e42, upd2_j, if_neg (by omega)]; exact hd k hk
theorem S_changed {v : VT} {q : VT → Prop} (hq : ∀ v', (∀ a, a ≠ 138 → a ≠ 191 → a ≠ 197 → v' a = v a) → v' 138 0 = 0 → v' 191 0 = 0 → v' 197 0 = 0 → q v') : P_X10_changed v q := by
  unfold P_X10_changed
  intro v5 e5 v13 e13 v21 e21
  refine hq v21 (fun a a1 a2 a3 => ?_) ?_ ?_ ?_
  · rw [e21, upd2_off _ _ _ a3, e13, upd2_off _ _ _ a2, e5, upd2_off _ _ _ a1]
  · rw [e21, upd2_off _ _ _ (by omega), e13, upd2_off _ _ _ (by omega), e5, upd2_same]
  · rw [e21, upd2_off _ _ _ (by omega), e13, upd2_same]
  · rw [e21, upd2_same]
section NetCh
variable {v v' : VT} {A A' : Net} {T : Vt} {F : Int × Int} {V : Vt} {S : Se} {c : Int} {P : Vt} {R : Nat → Int} {H H' : Hs} {t : Int}
theorem XC_new {n : Int} {L : List Ln} (h : xG v 10 n L) (h1 : v 138 0 = 0) (h2 : v 191 0 = 0) (h3 : v 197 0 = 0) : XC v n L := ⟨h, Or.inl h1, Or.inl h2, Or.inl h3⟩
theorem IX_net (h : IX v A T F V S c P R H) (hf : ∀ a, ¬ (10 ≤ a ∧ a ≤ 204) → v' a = v a) (hn : xNet v' 10 A') (h1 : v' 138 0 = 0) (h2 : v' 191 0 = 0) (h3 : v' 197 0 = 0) (hH : xH v' H') : IX v' A' T F V S c P R H' := by
  obtain ⟨o1, o2, o3, o4, o5, o6⟩ := h.2.2
  exact ⟨XC_new hn.1 h1 h2 h3, hn.2, isTp_frame o1 (hf 1 (by omega)) (hf 2 (by omega)), xF_fr o2 (by rw [hf 3 (by omega)]) (by rw [hf 3 (by omega)]), xD_fr o3 (hf 0 (by omega)) (hf 213 (by omega)) (hf 214 (by omega)) (hf 215 (by omega)), xP_fr o4 (hf 205 (by omega)) (hf 206 (by omega)), xR_fr o5 (hf 217 (by omega)), hH⟩
theorem IM_net (h : IM v A T F V S c P R H) (hf : ∀ a, a = 219 ∨ a = 220 ∨ a = 236 ∨ a = 238 ∨ a = 243 → v' a = v a) (hj : ∀ j, j = 1 ∨ j = 7 ∨ j = 8 ∨ j = 30 ∨ j = 33 ∨ j = 41 ∨ j = 43 → v' 218 j = v 218 j) (hm : mRow (v' 222) A') (h15 : v' 218 15 = 0) (hH : mH v' H') : IM v' A' T F V S c P R H' := by
  obtain ⟨o1, o2, o3, o4, o5, o6⟩ := h.2.2
  exact ⟨⟨hm.1, Or.inl h15⟩, hm.2, mT_fr o1 (hj 1 (by omega)) (hf 219 (by omega)), mFt_fr o2 (hj 7 (by omega)) (hj 8 (by omega)), mD_fr o3 (hj 30 (by omega)) (hj 33 (by omega)) (hj 41 (by omega)) (hf 236 (by omega)) (hf 238 (by omega)), mP_fr o4 (hj 43 (by omega)) (hf 243 (by omega)), mR_fr o5 (hf 220 (by omega)), hH⟩
theorem IM_row (h : IM v A T F V S c P R H) : mRow (v 222) A := ⟨h.1.1, h.2.1⟩
theorem IX_xn (h : IX v A T F V S c P R H) : xNet v 10 A := ⟨h.1.1, h.2.1⟩
theorem okT_push (hA : okNet A) (h : okT t V S c P R H) : okT (t + 1) V S c P R (push H A) := by
  have h' := okT_up h (t' := t + 1) (by omega)
  refine ⟨h'.1, h'.2.1, h'.2.2.1, h'.2.2.2.1, h'.2.2.2.2.1, h'.2.2.2.2.2.1, ⟨by rw [push_len]; omega, ?_, ?_⟩, fun B hB => ?_⟩
  · show 0 ≤ (H.1 + 1) % 20; omega
  · show (H.1 + 1) % 20 < 20; omega
  · have hB2 : B ∈ (A :: H.2).take 20 := hB
    rcases List.mem_cons.mp (List.mem_of_mem_take hB2) with e | e
    · rw [e]; exact hA
    · exact h.2.2.2.2.2.2.2 B e
theorem Q_undo (ht : t < 1000000) (h : Inv t v) : P_X10_undo v (fun r v1 => P_X11_undo v1 (fun r' v2 => r = r' ∧ Inv (t + 1) v2)) := by
  obtain ⟨A, T, F, V, S, c, P, R, H, hA, hT, hX, hM⟩ := h
  obtain ⟨c0, c1, c2⟩ := id hX.2.2.2.2.2.2.2
  have hH1 := hT.2.2.2.2.2.2.1
  have hO := hT.2.2.2.2.2.2.2
  unfold P_X10_undo
  rw [c0]
  refine ⟨fun hne => ?_, fun he => ?_⟩
  · obtain ⟨p, Hl⟩ := H
    cases Hl with
    | nil => exact absurd rfl hne
    | cons B Hl =>
      have hB : okNet B := hO B List.mem_cons_self
      have hlen : ((B :: Hl : List Net).length : Int) = (Hl.length : Int) + 1 := by rw [List.length_cons]; omega
      have h20 : Hl.length + 1 ≤ 20 := hH1.1
      have hp : 0 ≤ p ∧ p < 20 := hH1.2
      have er : i_rem (p + 20 - 1) 20 = (p + 19) % 20 := by rw [i_rem_p (by omega) (by omega), show p + 20 - 1 = p + 19 by omega]
      have c1' : v 16 1 = p := c1
      have c0' : v 16 0 = (Hl.length : Int) + 1 := by rw [c0]; exact hlen
      unfold P_X3_bringBack
      rw [c0', c1']
      refine ⟨fun g => by omega, fun _ => ⟨by omega, by omega, fun v20 e20 => ?_⟩⟩
      have n0 : v20 16 0 = (Hl.length : Int) + 1 := by rw [e20, upd2_j, if_neg (by decide)]; exact c0'
      rw [n0]
      refine ⟨by omega, fun v30 e30 => ?_⟩
      have f30 : ∀ a, a ≠ 16 → v30 a = v a := fun a ha => by rw [e30, upd2_off _ _ _ ha, e20, upd2_off _ _ _ ha]
      have n1 : v30 16 1 = (p + 19) % 20 := by rw [e30, upd2_j, if_neg (by decide), e20, upd2_same]; exact er
      rw [n1]
      have hsl : xNet v (18 + 6 * ((p + 19) % 20).toNat) B := by
        have := c2 0 (by rw [List.length_cons]; omega)
        rw [show ((p - 1 - ((0 : Nat) : Int)) % 20).toNat = ((p + 19) % 20).toNat by omega] at this
        exact this
      refine ⟨by omega, S_takeFrom hB (xNet_fr hsl (fun a ha => f30 a (by omega))) (by omega) (fun v43 f43 n43 => S_changed (fun v1 f1 z1 z2 z3 => ?_))⟩
      have fx : ∀ a, ¬ ((10 ≤ a ∧ a ≤ 14) ∨ a = 16 ∨ a = 138 ∨ a = 191 ∨ a = 197) → v1 a = v a := fun a ha => by rw [f1 a (by omega) (by omega) (by omega), f43 a (by omega), f30 a (by omega)]
      have m1 : IM v1 A T F V S c P R (p, B :: Hl) := IM_high hM (fun a ha => fx a (by omega))
      have x1 : IX v1 B T F V S c P R ((p + 19) % 20, Hl) := IX_net hX (fun a ha => fx a (by omega)) (xNet_fr n43 (fun a ha => f1 a (by omega) (by omega) (by omega))) z1 z2 z3 ⟨by rw [f1 16 (by omega) (by omega) (by omega), f43 16 (by omega), e30, upd2_same]; show (Hl.length : Int) + 1 - 1 = (Hl.length : Int); omega, by rw [f1 16 (by omega) (by omega) (by omega), f43 16 (by omega)]; exact n1, fun j hj => by
        have hj2 : j < Hl.length := hj
        have := c2 (j + 1) (by show j + 1 < (B :: Hl).length; rw [List.length_cons]; omega)
        show xNet v1 (18 + 6 * (((p + 19) % 20 - 1 - (j : Int)) % 20).toNat) (Hl.getD j nil0)
        rw [show ((p - 1 - ((j + 1 : Nat) : Int)) % 20).toNat = (((p + 19) % 20 - 1 - (j : Int)) % 20).toNat by omega] at this
        exact xNet_fr this (fun a ha => fx a (by omega))⟩
      obtain ⟨d0, d1, d2⟩ := id m1.2.2.2.2.2.2.2
      have d0' : v1 218 36 = (Hl.length : Int) + 1 := by rw [d0]; exact hlen
      have d1' : v1 218 37 = p := d1
      show P_X11_undo v1 (fun r' v2 => (1 : Int) = r' ∧ Inv (t + 1) v2)
      unfold P_X11_undo
      rw [d0']
      refine ⟨fun _ => ?_, fun g => by omega⟩
      intro K49 hK49 X15 hX15
      refine up2 (X := X15) 206 (fun i v15 => 0 ≤ i ∧ (∀ a, a ≠ 222 → v15 a = v1 a) ∧ ∀ k : Nat, (k : Int) < i → v15 222 k = v1 239 (206 * p.toNat + k)) ?_ (by omega) ⟨by omega, fun a _ => rfl, fun k hk => by omega⟩
      intro i v15 hle ⟨i0, hf, hc⟩ hnext
      apply hX15
      rw [hf 218 (by omega), d1']
      refine ⟨fun hge => ?_, fun hlt => ⟨by omega, by omega, by omega, by omega, fun v42 e42 => ⟨by omega, hnext hlt _ ⟨by omega, fun a ha => by rw [e42, upd2_off _ _ _ ha]; exact hf a ha, fun k hk => ?_⟩⟩⟩⟩
      · apply hK49
        rw [hf 218 (by omega), d1', er]
        refine ⟨by omega, by omega, fun v62 e62 => ?_⟩
        have k36 : v62 218 36 = (Hl.length : Int) + 1 := by rw [e62, upd2_j, if_neg (by decide), hf 218 (by omega)]; exact d0'
        rw [k36]
        refine ⟨by omega, fun v72 e72 v77 e77 => ?_⟩
        have f77 : ∀ a, a ≠ 218 → v77 a = v15 a := fun a ha => by rw [e77, upd2_off _ _ _ ha, e72, upd2_off _ _ _ ha, e62, upd2_off _ _ _ ha]
        have j77 : ∀ j, j ≠ 15 → j ≠ 36 → j ≠ 37 → v77 218 j = v1 218 j := fun j j1 j2 j3 => by rw [e77, upd2_j, if_neg j1, e72, upd2_j, if_neg j2, e62, upd2_j, if_neg j3, hf 218 (by omega)]
        have hrow : mRow (v77 222) B := by
          have := d2 0 (by show 0 < (B :: Hl).length; rw [List.length_cons]; omega)
          rw [show ((p - ((0 : Nat) : Int)) % 20).toNat = p.toNat by omega] at this
          exact mRow_cong hB this (fun k hk => by rw [f77 222 (by omega)]; exact hc k (by omega))
        refine ⟨rfl, B, T, F, V, S, c, P, R, ((p + 19) % 20, Hl), hB, ?_, IX_low hB x1 (fun a ha => by rw [f77 a (by omega), hf a (by omega)]), IM_net m1 (fun a ha => by rw [f77 a (by omega), hf a (by omega)]) (fun j hj => j77 j (by omega) (by omega) (by omega)) hrow (by rw [e77, upd2_same]) ⟨?_, ?_, fun j hj => ?_⟩⟩
        · have h' := okT_up hT (t' := t + 1) (by omega)
          exact ⟨h'.1, h'.2.1, h'.2.2.1, h'.2.2.2.1, h'.2.2.2.2.1, h'.2.2.2.2.2.1, ⟨by show Hl.length ≤ 20; omega, by show 0 ≤ (p + 19) % 20; omega, by show (p + 19) % 20 < 20; omega⟩, fun D hD => hO D (List.mem_cons_of_mem _ hD)⟩
        · rw [e77, upd2_j, if_neg (by decide), e72, upd2_same]; show (Hl.length : Int) + 1 - 1 = (Hl.length : Int); omega
        · rw [e77, upd2_j, if_neg (by decide), e72, upd2_j, if_neg (by decide), e62, upd2_same]
        · have hj2 : j < Hl.length := hj
          have := d2 (j + 1) (by show j + 1 < (B :: Hl).length; rw [List.length_cons]; omega)
          show mRow (fun k => v77 239 (206 * (((p + 19) % 20 - (j : Int)) % 20).toNat + k)) (Hl.getD j nil0)
          rw [show ((p - ((j + 1 : Nat) : Int)) % 20).toNat = (((p + 19) % 20 - (j : Int)) % 20).toNat by omega] at this
          rw [f77 239 (by omega), hf 239 (by omega)]
          exact this
      · rw [e42, upd2_j]
        by_cases e : (k : Int) = i
        · rw [if_pos (by omega), hf 239 (by omega), show (206 * p + i).toNat = 206 * p.toNat + k by omega]
        · rw [if_neg (by omega)]; exact hc k (by omega)
  · refine S_deny (k := 4) hT ht hX (by omega) ?_
    have x1 := IX_ref (k := 4) hA hX (by omega)
    have m1 : IM (upd2 v 217 4 (v 217 4 + 1)) A T F V S c P R H := IM_high hM (fun a ha => upd2_off _ _ _ (by omega))
    show P_X11_undo (upd2 v 217 4 (v 217 4 + 1)) (fun r' v2 => (0 : Int) = r' ∧ Inv (t + 1) v2)
    unfold P_X11_undo
    rw [m1.2.2.2.2.2.2.2.1]
    refine ⟨fun g => absurd he g, fun _ => S_isRefused (k := 4) hT ht m1 (by omega) ⟨rfl, A, T, F, V, S, c, P, rUp R 4, H, hA, okT_ref hT (by omega), IX_low hA x1 (fun a ha => upd2_off _ _ _ (by omega)), IM_ref m1 (by omega)⟩⟩
end NetCh

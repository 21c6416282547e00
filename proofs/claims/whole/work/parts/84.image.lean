/-! ===== images ===== -/
def chk (f : Int → Int) : Nat → Int
  | 0 => 167
  | k + 1 => (3 * chk f k + f (k : Int)) % 251
theorem chk_r (f : Int → Int) : ∀ k : Nat, 0 ≤ chk f k ∧ chk f k ≤ 250
  | 0 => by show (0 : Int) ≤ 167 ∧ (167 : Int) ≤ 250; omega
  | k + 1 => by show 0 ≤ (3 * chk f k + f (k : Int)) % 251 ∧ (3 * chk f k + f (k : Int)) % 251 ≤ 250; omega
theorem S_checkOf {v : VT} {a0 n0 : Nat} {x : Int} {f : Int → Int} {q : Int → Prop} (hx : 0 ≤ x ∧ x ≤ n0) (hn : n0 ≤ 1000) (h : ∀ i : Int, 0 ≤ i → i < x → v a0 i.toNat = f i ∧ 0 ≤ f i ∧ f i ≤ 255) (hq : q (chk f x.toNat)) : P_X4_checkOf a0 n0 x v q := by
  unfold P_X4_checkOf
  intro X6 hX6
  refine up2r (X := X6) x (fun i s => 0 ≤ i ∧ s = chk f i.toNat) ?_ hx.1 ⟨by omega, rfl⟩
  intro s i hle ⟨i0, hs⟩ hnext
  apply hX6
  have hr := chk_r f i.toNat
  refine ⟨fun hc => ?_, fun hc => ⟨fun g => by omega, fun _ => ?_⟩⟩
  · rw [hs, show i = x by omega]; exact hq
  · obtain ⟨e1, e2, e3⟩ := h i i0 hc
    rw [e1]
    refine ⟨by omega, by omega, by omega, fun l2 el => ⟨by omega, hnext hc _ ⟨by omega, ?_⟩⟩⟩
    rw [el, i_rem_p (by omega) (by omega), hs, show (i + 1).toNat = i.toNat + 1 by omega]
    show _ = (3 * chk f i.toNat + f ((i.toNat : Nat) : Int)) % 251
    rw [Int.toNat_of_nonneg i0]
theorem S_last {v : VT} {a0 n0 : Nat} {x : Int} {f : Int → Int} {q : Int → Prop} (hx : 0 ≤ x ∧ x ≤ n0) (hn : n0 ≤ 1000) (h : ∀ i : Int, 0 ≤ i → i < x → v a0 i.toNat = f i ∧ 0 ≤ f i ∧ f i ≤ 255) (hq : q (chk f x.toNat)) : P_X11_last a0 n0 x v q := by
  unfold P_X11_last
  intro X6 hX6
  refine up2r (X := X6) x (fun i s => 0 ≤ i ∧ s = chk f i.toNat) ?_ hx.1 ⟨by omega, rfl⟩
  intro s i hle ⟨i0, hs⟩ hnext
  apply hX6
  have hr := chk_r f i.toNat
  refine ⟨fun hc => ?_, fun hc => ?_⟩
  · rw [hs, show i = x by omega]; exact hq
  · obtain ⟨e1, e2, e3⟩ := h i i0 hc
    rw [e1]
    refine ⟨by omega, by omega, by omega, fun l2 el => ⟨by omega, hnext hc _ ⟨by omega, ?_⟩⟩⟩
    rw [el, i_rem_p (by omega) (by omega), hs, show (i + 1).toNat = i.toNat + 1 by omega]
    show _ = (3 * chk f i.toNat + f ((i.toNat : Nat) : Int)) % 251
    rw [Int.toNat_of_nonneg i0]
def pb (A : Net) (i : Int) : Int := if i = 0 then A.1 else if i = 1 then (A.2.1.length : Int) else if i % 2 = 0 then lo A.2.1 ((i - 2) / 2) else hi A.2.1 ((i - 2) / 2)
def pic (A : Net) (i : Int) : Int := if i = 2 + 2 * (A.2.1.length : Int) then chk (pb A) (2 + 2 * (A.2.1.length : Int)).toNat else pb A i
theorem pb_r {A : Net} (hA : okNet A) {i : Int} (i0 : 0 ≤ i) (i1 : i < 2 + 2 * (A.2.1.length : Int)) : 0 ≤ pb A i ∧ pb A i ≤ 255 := by
  have hn := hA.1
  have hlen := hA.2.1.2.2
  unfold pb
  split
  · omega
  · split
    · omega
    · have hw := hA.2.1.1 ((i - 2) / 2) (by omega) (by omega)
      split <;> omega
def isP (v : VT) (k : Int) (f : Int → Int) : Prop := v 205 1 = k ∧ ∀ i : Int, 0 ≤ i → i < k → v 206 i.toNat = f i
theorem S_padd {v : VT} {k x : Int} {f : Int → Int} {q : VT → Prop} (h : isP v k f) (hk : 0 ≤ k ∧ k < 123) (hx : x = f k) (hq : ∀ v' : VT, (∀ a, a ≠ 205 → a ≠ 206 → v' a = v a) → isP v' (k + 1) f → q v') : P_X4_add x v q := by
  unfold P_X4_add
  rw [h.1]
  refine ⟨fun g => by omega, fun _ => ⟨by omega, fun v21 e21 => ?_⟩⟩
  have n21 : v21 205 1 = k := by rw [e21, upd2_off _ _ _ (by omega)]; exact h.1
  rw [n21]
  refine ⟨by omega, fun v29 e29 => hq v29 (fun a a1 a2 => by rw [e29, upd2_off _ _ _ a1, e21, upd2_off _ _ _ a2]) ⟨by rw [e29, upd2_same], fun i i0 i1 => ?_⟩⟩
  rw [e29, upd2_off _ _ _ (by omega), e21, upd2_at _ _ _ hk.1 i0]
  by_cases e : i = k
  · rw [if_pos e, e]; exact hx
  · rw [if_neg e]; exact h.2 i i0 (by omega)
section Image
variable {v : VT} {t c : Int} {A : Net} {T : Vt} {F : Int × Int} {V : Vt} {S : Se} {P : Vt} {R : Nat → Int} {H : Hs}
theorem XS_image (hA : okNet A) (hX : IX v A T F V S c P R H) : P_X10_image v (fun r v1 => r = 2 * (A.2.1.length : Int) + 3 ∧ IX v1 A T F V S c (2 * (A.2.1.length : Int) + 3, pic A) R H) := by
  have hn := hA.1
  have hlen := hA.2.1.2.2
  unfold P_X10_image P_X4_write
  intro v2 e2
  have f2 : ∀ a, a ≠ 205 → v2 a = v a := fun a ha => by rw [e2]; exact upd2_off _ _ _ ha
  have p2 : isP v2 0 (pic A) := ⟨by rw [e2, upd2_same], fun i i0 i1 => by omega⟩
  have hg := hX.1.1
  have pcb : ∀ i : Int, i ≠ 2 + 2 * (A.2.1.length : Int) → pic A i = pb A i := fun i hi' => by unfold pic; rw [if_neg hi']
  refine S_padd p2 (by omega) (by rw [f2 10 (by omega), hg.1, pcb 0 (by omega)]; rfl) (fun v10 f10 p10 => ?_)
  refine S_padd p10 (by omega) (by rw [f10 10 (by omega) (by omega), f2 10 (by omega), hg.2.1, pcb _ (by omega)]; rfl) (fun v18 f18 p18 => ?_)
  have f18' : ∀ a, a ≠ 205 → a ≠ 206 → v18 a = v a := fun a a1 a2 => by rw [f18 a a1 a2, f10 a a1 a2, f2 a a1]
  intro X23 hX23
  refine up2 (X := X23) (A.2.1.length : Int) (fun i v23 => 0 ≤ i ∧ (∀ a, a ≠ 205 → a ≠ 206 → v23 a = v a) ∧ isP v23 (2 + 2 * i) (pic A)) ?_ (by omega) ⟨by omega, f18', by rw [show (2 : Int) + 2 * 0 = 0 + 1 + 1 by omega]; exact p18⟩
  intro i v23 hle ⟨i0, hf, hp⟩ hnext
  apply hX23
  have g23 : xG v23 10 A.1 A.2.1 := xG_frame hg (hf 10 (by omega) (by omega)) (hf 12 (by omega) (by omega)) (hf 13 (by omega) (by omega)) (hf 14 (by omega) (by omega))
  rw [g23.2.1]
  refine ⟨fun hc => ?_, fun hc => ⟨by omega, ?_⟩⟩
  · have ei : i = (A.2.1.length : Int) := by omega
    rw [hp.1]
    refine S_checkOf (f := pb A) (by omega) (by omega) (fun j j0 j1 => ⟨?_, pb_r hA j0 (by omega)⟩) ?_
    · rw [hp.2 j j0 j1, pcb j (by omega)]
    · refine S_padd hp (by omega) ?_ (fun v3 f3 p3 => ?_)
      · unfold pic
        rw [if_pos (by omega), ei]
      · have f : ∀ a, a ≠ 205 → a ≠ 206 → v3 a = v a := fun a a1 a2 => by rw [f3 a a1 a2]; exact hf a a1 a2
        obtain ⟨o1, o2, o3, o4, o5, o6⟩ := hX.2.2
        refine ⟨by rw [p3.1]; omega, IX_gen hA hX (fun a ha => f a (by omega) (by omega)) (isTp_frame o1 (f 1 (by omega) (by omega)) (f 2 (by omega) (by omega))) (xF_fr o2 (by rw [f 3 (by omega) (by omega)]) (by rw [f 3 (by omega) (by omega)])) (xD_fr o3 (f 0 (by omega) (by omega)) (f 213 (by omega) (by omega)) (f 214 (by omega) (by omega)) (f 215 (by omega) (by omega))) ⟨?_, fun j j0 j1 => ?_⟩ (xR_fr o5 (f 217 (by omega) (by omega)))⟩
        · rw [p3.1]; show 2 + 2 * i + 1 = 2 * (A.2.1.length : Int) + 3; omega
        · have j1' : j < 2 * (A.2.1.length : Int) + 3 := j1
          exact p3.2 j j0 (by omega)
  · have hk := g23.2.2 i i0 hc
    refine S_padd hp (by omega) ?_ (fun v38 f38 p38 => ⟨by omega, ?_⟩)
    · rw [pcb _ (by omega)]
      unfold pb
      rw [if_neg (by omega), if_neg (by omega), if_pos (by omega), show (2 + 2 * i - 2) / 2 = i by omega]
      exact hk.1
    · refine S_padd p38 (by omega) ?_ (fun v48 f48 p48 => ⟨by omega, hnext hc _ ⟨by omega, fun a a1 a2 => by rw [f48 a a1 a2, f38 a a1 a2]; exact hf a a1 a2, ?_⟩⟩)
      · rw [f38 13 (by omega) (by omega), pcb _ (by omega)]
        unfold pb
        rw [if_neg (by omega), if_neg (by omega), if_neg (by omega), show (2 + 2 * i + 1 - 2) / 2 = i by omega]
        exact hk.2.1
      · rw [show 2 + 2 * (i + 1) = 2 + 2 * i + 1 + 1 by omega]; exact p48
theorem MS_image (hA : okNet A) (hM : IM v A T F V S c P R H) : P_X11_image v (fun r v1 => r = 2 * (A.2.1.length : Int) + 3 ∧ IM v1 A T F V S c (2 * (A.2.1.length : Int) + 3, pic A) R H) := by
  have hn := hA.1
  have hlen := hA.2.1.2.2
  have hg := hM.1.1
  unfold P_X11_image
  intro v11 e11 v23 e23 K61 hK61 X26 hX26
  have f23 : ∀ a, a ≠ 243 → v23 a = v a := fun a ha => by rw [e23, upd2_off _ _ _ ha, e11, upd2_off _ _ _ ha]
  refine up2 (X := X26) (2 * (A.2.1.length : Int)) (fun i v26 => 0 ≤ i ∧ (∀ a, a ≠ 243 → v26 a = v a) ∧ ∀ j : Int, 0 ≤ j → j < 2 + i → v26 243 j.toNat = pb A j) ?_ (by omega) ⟨by omega, f23, fun j j0 j1 => ?_⟩
  · intro i v26 hle ⟨i0, hf, hp⟩ hnext
    apply hX26
    have g26 : mG v26 222 A.1 A.2.1 := mG_frame hg (hf 222 (by omega))
    rw [g26.2.1]
    refine ⟨by omega, fun hc => ?_, fun hc => ⟨by omega, by omega, by omega, by omega, fun v54 e54 => ⟨by omega, hnext hc _ ⟨by omega, fun a ha => by rw [e54, upd2_off _ _ _ ha]; exact hf a ha, fun j j0 j1 => ?_⟩⟩⟩⟩
    · apply hK61
      rw [g26.2.1]
      refine ⟨by omega, by omega, fun v72 e72 => ?_⟩
      have n72 : v72 218 43 = 2 + 2 * (A.2.1.length : Int) := by rw [e72, upd2_same]
      have f72 : ∀ a, a ≠ 218 → v72 a = v26 a := fun a ha => by rw [e72]; exact upd2_off _ _ _ ha
      rw [n72]
      refine S_last (f := pb A) (by omega) (by omega) (fun j j0 j1 => ⟨?_, pb_r hA j0 j1⟩) ⟨by omega, fun v94 e94 => ?_⟩
      · rw [f72 243 (by omega)]; exact hp j j0 (by omega)
      · have n94 : v94 218 43 = 2 + 2 * (A.2.1.length : Int) := by rw [e94, upd2_off _ _ _ (by omega)]; exact n72
        rw [n94]
        refine ⟨by omega, fun v102 e102 => ?_⟩
        have f : ∀ a, a ≠ 218 → a ≠ 243 → v102 a = v a := fun a a1 a2 => by rw [e102, upd2_off _ _ _ a1, e94, upd2_off _ _ _ a2, f72 a a1, hf a a2]
        have j' : ∀ j, j ≠ 43 → v102 218 j = v 218 j := fun j hj => by rw [e102, upd2_j, if_neg hj, e94, upd2_off _ _ _ (by omega), e72, upd2_j, if_neg hj, hf 218 (by omega)]
        obtain ⟨o1, o2, o3, o4, o5, o6⟩ := hM.2.2
        refine ⟨by rw [e102, upd2_same]; omega, IM_gen hM (fun a ha => f a (by omega) (by omega)) (fun j hj => j' j (by omega)) (mT_fr o1 (j' 1 (by omega)) (f 219 (by omega) (by omega))) (mFt_fr o2 (j' 7 (by omega)) (j' 8 (by omega))) (mD_fr o3 (j' 30 (by omega)) (j' 33 (by omega)) (j' 41 (by omega)) (f 236 (by omega) (by omega)) (f 238 (by omega) (by omega))) ⟨?_, fun j j0 j1 => ?_⟩ (mR_fr o5 (f 220 (by omega) (by omega)))⟩
        · rw [e102, upd2_same]; show 2 + 2 * (A.2.1.length : Int) + 1 = 2 * (A.2.1.length : Int) + 3; omega
        · have j1' : j < 2 * (A.2.1.length : Int) + 3 := j1
          show v102 243 j.toNat = pic A j
          rw [e102, upd2_off _ _ _ (by omega), e94, upd2_at _ _ _ (by omega) j0]
          unfold pic
          by_cases e : j = 2 + 2 * (A.2.1.length : Int)
          · rw [if_pos e, if_pos e]
          · rw [if_neg e, if_neg e, f72 243 (by omega)]; exact hp j j0 (by omega)
    · rw [e54, upd2_at _ _ _ (by omega) j0]
      by_cases e : j = 2 + i
      · rw [if_pos e]
        unfold pb
        rw [if_neg (by omega), if_neg (by omega)]
        have hk := g26.2.2 (i / 2) (by omega) (by omega)
        by_cases e2 : j % 2 = 0
        · rw [if_pos e2, show (j - 2) / 2 = i / 2 by omega, ← hk.1, show 26 + 2 * (i / 2) = 26 + i by omega]
        · rw [if_neg e2, show (j - 2) / 2 = i / 2 by omega, ← hk.2.1, show 26 + 2 * (i / 2) + 1 = 26 + i by omega]
      · rw [if_neg e]; exact hp j j0 (by omega)
  · unfold pb
    by_cases e : j = 0
    · rw [if_pos e, e, e23, upd2_j, if_neg (by decide), e11]
      show upd2 v 243 0 (v 222 0) 243 0 = A.1
      rw [upd2_same]; exact hg.1
    · rw [if_neg e, if_pos (by omega), show j = 1 by omega, e23]
      show upd2 v11 243 1 (v11 222 1) 243 1 = _
      rw [upd2_same, e11, upd2_off _ _ _ (by omega)]; exact hg.2.1
theorem Q_image (h : Inv t v) : P_X10_image v (fun r v1 => P_X11_image v1 (fun r' v2 => r = r' ∧ Inv (t + 1) v2)) := by
  obtain ⟨A, T, F, V, S, c, P, R, H, hA, hT, hX, hM⟩ := h
  have hlen := hA.2.1.2.2
  have hT' := okT_up hT (t' := t + 1) (by omega)
  exact N_X10_image (F_X10_image (XS_image hA hX)) (fun r1 v1 h1 => N_X11_image (F_X11_image (MS_image hA (IM_high hM (fun a ha => h1.2 a (by omega))))) (fun r2 v2 h2 => ⟨by rw [h1.1.1, h2.1.1], inv_mk hA ⟨hT'.1, hT'.2.1, hT'.2.2.1, hT'.2.2.2.1, by show 0 ≤ 2 * (A.2.1.length : Int) + 3 ∧ 2 * (A.2.1.length : Int) + 3 ≤ 123; omega, hT'.2.2.2.2.2⟩ h1.1.2 (fun a ha => h2.2 a (by omega)) h2.1.2⟩))
end Image

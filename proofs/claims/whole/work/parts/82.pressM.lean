/-! ===== the reference: presses ===== -/
section PressM
variable {v : VT} {t d : Int} {A : Net} {T : Vt} {F : Int × Int} {V : Vt} {S : Se} {c : Int} {P : Vt} {R : Nat → Int} {H : Hs}
/-- how much stands in the first places -/
def sm24 (f : Nat → Int) : Nat := fb_sm (fun k => (f k).toNat) 24
theorem sm24_lt {f f' : Nat → Int} {i : Nat} (hi' : i < 24) (h : ∀ k, k < 24 → (f' k).toNat ≤ (f k).toNat) (h2 : (f' i).toNat < (f i).toNat) : sm24 f' < sm24 f := by
  unfold sm24
  have e1 := fb_sm_upd (fun k => (f k).toNat) ((f' i).toNat) (i := i) (n := 24) hi'
  have e2 : fb_sm (fun k => (f' k).toNat) 24 ≤ fb_sm (fun k => if k = i then (f' i).toNat else (f k).toNat) 24 := fb_sm_le (fun k hk => by
    show (f' k).toNat ≤ if k = i then (f' i).toNat else (f k).toNat
    by_cases e : k = i
    · rw [if_pos e, e]; exact Nat.le_refl _
    · rw [if_neg e]; exact h k hk)
  have e3 : (fun k => (f k).toNat) i = (f i).toNat := rfl
  omega
theorem S_presses {q : VT → Prop} (hA : okNet A) (hM : IM v A T F V S c P R H) (hk : kOKm v A.2.1) (hq : ∀ v2, IM v2 (netQ A d) T F V S c P R H → q v2) : P_X11_presses d v q := by
  have hn := hA.1
  have w := hA.2.1
  have hlen := w.2.2
  have hR := RK_ok w d
  have hg := hM.1.1
  obtain ⟨hf, hs⟩ := kd_ok hn.1 hR
  have hnn : nr A.1 (RK A.2.1 d) A.1 ≤ A.1 := nr_le hn.1
  have hn0 : 0 ≤ nr A.1 (RK A.2.1 d) A.1 := nr_pos
  unfold P_X11_presses
  rw [hg.1]
  intro K27 hK27 X9 hX9
  have s1 : ∀ v27 : VT, (∀ a, a ≠ 241 → v27 a = v a) → (∀ a : Int, 0 ≤ a → a < A.1 → v27 241 a.toNat = a) → K27 v27 := by
    intro v27 f27 h27
    apply hK27
    intro K172 hK172 X29 hX29
    have s2 : ∀ v172 : VT, (∀ a, a ≠ 241 → v172 a = v a) → (∀ a : Int, 0 ≤ a → a < A.1 → v172 241 a.toNat = rt A.1 (RK A.2.1 d) a) → K172 v172 := by
      intro v172 f172 h172
      apply hK172
      intro X178 hX178
      refine up3m (X := X178) A.1 (fun i cnt v178 => 0 ≤ i ∧ cnt = nr A.1 (RK A.2.1 d) i ∧ (∀ a, a ≠ 240 → v178 a = v172 a) ∧ ∀ a : Int, 0 ≤ a → a < i → v178 240 a.toNat = kd A.1 (RK A.2.1 d) a) ?_ hn.1 ⟨by omega, rfl, fun a _ => rfl, fun a a0 a1 => by omega⟩
      intro cnt i v178 hle ⟨i0, hc, hfr, hz⟩ hnext
      apply hX178
      have hcl : nr A.1 (RK A.2.1 d) i ≤ i := nr_le i0
      have hc0 : 0 ≤ nr A.1 (RK A.2.1 d) i := nr_pos
      refine ⟨fun hge => ?_, fun hlt => ⟨by omega, ?_⟩⟩
      · have ei : i = A.1 := by omega
        rw [hc, ei]
        exact M_turns hA hM (fun a a1 a2 => by rw [hfr a a1, f172 a a2]) ⟨hn0, by omega⟩ (fun a a0 a1 => hz a a0 (by omega)) hf hs (fun v2 m2 => hq v2 m2)
      · intro K219 hK219
        have e241 : v178 241 i.toNat = rt A.1 (RK A.2.1 d) i := by rw [hfr 241 (by omega)]; exact h172 i i0 hlt
        have hrt := rt_le hR (i := i) ⟨i0, hlt⟩
        rw [e241]
        have go : K219 (kd A.1 (RK A.2.1 d) i) := by
          apply hK219
          refine ⟨by omega, fun v219 e219 => ?_⟩
          have f219 : ∀ a, a ≠ 240 → v219 a = v178 a := fun a ha => by rw [e219]; exact upd2_off _ _ _ ha
          have h219 : ∀ a : Int, 0 ≤ a → a < i + 1 → v219 240 a.toNat = kd A.1 (RK A.2.1 d) a := fun a a0 a1 => by
            rw [e219, upd2_at _ _ _ i0 a0]
            by_cases e : a = i
            · rw [if_pos e, e]
            · rw [if_neg e]; exact hz a a0 (by omega)
          rw [f219 241 (by omega), e241]
          unfold P_X11_flag
          refine ⟨by omega, fun hne => ⟨fun _ => ⟨by omega, by omega, hnext hlt _ _ ⟨by omega, by rw [hc, nr_out i0 hne]; omega, fun a ha => by rw [f219 a ha]; exact hfr a ha, h219⟩⟩, fun g => absurd rfl g⟩, fun he => ⟨fun g => absurd g (by decide), fun _ => ⟨by omega, by omega, hnext hlt _ _ ⟨by omega, by rw [hc, nr_in i0 he], fun a ha => by rw [f219 a ha]; exact hfr a ha, h219⟩⟩⟩⟩
        refine ⟨fun hne => ⟨by omega, by omega, ?_⟩, fun he => ?_⟩
        · rw [hz _ (by omega) (by omega)]
          have : kd A.1 (RK A.2.1 d) (rt A.1 (RK A.2.1 d) i) = kd A.1 (RK A.2.1 d) i := by unfold kd; rw [rt_rt hR ⟨i0, hlt⟩]
          rw [this]; exact go
        · have : kd A.1 (RK A.2.1 d) i = cnt := by unfold kd; rw [he, hc]
          rw [← this]; exact go
    refine wh2 (X := X29) (fun fl v29 => (fl = 0 ∨ fl = 1) ∧ (∀ a, a ≠ 241 → v29 a = v a) ∧ (∀ a : Int, 0 ≤ a → a < A.1 → 0 ≤ v29 241 a.toNat ∧ v29 241 a.toNat ≤ a ∧ cn (RK A.2.1 d) a (v29 241 a.toNat)) ∧ (fl = 0 → ∀ k : Int, 0 ≤ k → k < A.2.1.length → kd A.2.1.length (RA A.2.1) k = d → v29 241 (lo A.2.1 k).toNat = v29 241 (hi A.2.1 k).toNat)) (fun fl v29 => 2 * sm24 (v29 241) + fl.toNat) ?_ ⟨Or.inr rfl, f27, fun a a0 a1 => by rw [h27 a a0 a1]; exact ⟨a0, Int.le_refl _, cn_refl⟩, fun h => by omega⟩
    intro fl v29 ⟨hfl, hfr, hb, hfix⟩ hnext
    apply hX29
    refine ⟨fun h0 => s2 v29 hfr (fun a a0 a1 => ?_), fun h0 => ?_⟩
    · refine grp_rt (g := fun a => v29 241 a.toNat) hR hb (fun x y hxy => ?_) ⟨a0, a1⟩
      obtain ⟨k, k0, k1, k2, k3⟩ := hxy
      have := hfix h0 k k0 k1 k2
      show v29 241 x.toNat = v29 241 y.toNat
      rcases k3 with ⟨e1, e2⟩ | ⟨e1, e2⟩
      · rw [← e1, ← e2]; exact this
      · rw [← e1, ← e2]; exact this.symm
    · have hfl1 : fl = 1 := by omega
      intro X38 hX38
      refine up3m (X := X38) (A.2.1.length : Int) (fun i f2 v38 => 0 ≤ i ∧ (∀ a, a ≠ 241 → v38 a = v a) ∧ (∀ a : Int, 0 ≤ a → a < A.1 → 0 ≤ v38 241 a.toNat ∧ v38 241 a.toNat ≤ a ∧ cn (RK A.2.1 d) a (v38 241 a.toNat)) ∧ ((f2 = 0 ∧ v38 241 = v29 241 ∧ ∀ k : Int, 0 ≤ k → k < i → kd A.2.1.length (RA A.2.1) k = d → v38 241 (lo A.2.1 k).toNat = v38 241 (hi A.2.1 k).toNat) ∨ (f2 = 1 ∧ sm24 (v38 241) < sm24 (v29 241)))) ?_ (by omega) ⟨by omega, hfr, hb, Or.inl ⟨rfl, rfl, fun k k0 k1 => by omega⟩⟩
      intro f2 i v38 hle ⟨i0, hfr2, hb2, hst⟩ hnext2
      apply hX38
      have g38 : mG v38 222 A.1 A.2.1 := mG_frame hg (hfr2 222 (by omega))
      rw [g38.2.1]
      refine ⟨fun hge => ?_, fun hlt => ?_⟩
      · rcases hst with ⟨a1, a2, a3⟩ | ⟨a1, a2⟩
        · exact hnext _ _ ⟨Or.inl a1, hfr2, hb2, fun _ k k0 k1 k2 => a3 k k0 (by omega) k2⟩ (by rw [a2, a1, hfl1]; omega)
        · exact hnext _ _ ⟨Or.inr a1, hfr2, hb2, fun h => by omega⟩ (by rw [a1, hfl1]; omega)
      · have hw := w.1 i i0 hlt
        have e225 : v38 225 i.toNat = kd A.2.1.length (RA A.2.1) i := by rw [hfr2 225 (by omega)]; exact hk.2.1 i i0 hlt
        rw [e225]
        refine ⟨by omega, fun hne => ⟨by omega, hnext2 hlt _ _ ⟨by omega, hfr2, hb2, ?_⟩⟩, fun he => ?_⟩
        · rcases hst with ⟨a1, a2, a3⟩ | h
          · refine Or.inl ⟨a1, a2, fun k k0 k1 k2 => ?_⟩
            by_cases e : k = i
            · rw [e] at k2; exact absurd k2 hne
            · exact a3 k k0 (by omega) k2
          · exact Or.inr h
        · refine S_low w g38 ⟨i0, hlt⟩ ⟨by omega, S_high w g38 ⟨i0, hlt⟩ ⟨by omega, fun heq => ⟨by omega, hnext2 hlt _ _ ⟨by omega, hfr2, hb2, ?_⟩⟩, fun hneq => ?_⟩⟩
          · rcases hst with ⟨a1, a2, a3⟩ | h
            · refine Or.inl ⟨a1, a2, fun k k0 k1 k2 => ?_⟩
              by_cases e : k = i
              · rw [e]; exact heq
              · exact a3 k k0 (by omega) k2
            · exact Or.inr h
          · refine S_low w g38 ⟨i0, hlt⟩ ⟨by omega, fun l5 e5 => S_high w g38 ⟨i0, hlt⟩ ⟨by omega, fun l6 e6 => S_low w g38 ⟨i0, hlt⟩ ?_⟩⟩
            have hbl := hb2 (lo A.2.1 i) (by omega) (by omega)
            have hbh := hb2 (hi A.2.1 i) (by omega) (by omega)
            rw [← e5] at hbl
            rw [← e6] at hbh
            have hne56 : l5 ≠ l6 := by rw [e5, e6]; exact hneq
            have hlh : cn (RK A.2.1 d) (lo A.2.1 i) (hi A.2.1 i) := cn_one ⟨i, i0, hlt, he, Or.inl ⟨rfl, rfl⟩⟩
            have clm : cn (RK A.2.1 d) (lo A.2.1 i) (min l5 l6) := by
              rcases Int.le_total l5 l6 with h | h
              · rw [Int.min_eq_left h]; exact hbl.2.2
              · rw [Int.min_eq_right h]; exact cn_trans hlh hbh.2.2
            have chm : cn (RK A.2.1 d) (hi A.2.1 i) (min l5 l6) := cn_trans (cn_symm hR hlh) clm
            have fin : ∀ m : Int, m = min l5 l6 → ∀ v135 : VT, v135 = upd2 v38 241 (lo A.2.1 i).toNat m → ∀ v160 : VT, v160 = upd2 v135 241 (hi A.2.1 i).toNat m → X38 1 (i + 1) v160 := by
              intro m em v135 e135 v160 e160
              have val : ∀ a : Int, 0 ≤ a → v160 241 a.toNat = if a = hi A.2.1 i then m else if a = lo A.2.1 i then m else v38 241 a.toNat := fun a a0 => by
                rw [e160, upd2_at _ _ _ (by omega) a0, e135, upd2_at _ _ _ (by omega) a0]
              have hle' : ∀ k : Nat, k < 24 → (v160 241 k).toNat ≤ (v38 241 k).toNat := fun k _ => by
                have hv := val (k : Int) (by omega)
                rw [Int.toNat_natCast] at hv
                rw [hv]
                by_cases e1 : (k : Int) = hi A.2.1 i
                · rw [if_pos e1]
                  have : v38 241 k = l6 := by rw [e6, ← e1, Int.toNat_natCast]
                  omega
                · rw [if_neg e1]
                  by_cases e2 : (k : Int) = lo A.2.1 i
                  · rw [if_pos e2]
                    have : v38 241 k = l5 := by rw [e5, ← e2, Int.toNat_natCast]
                    omega
                  · rw [if_neg e2]; exact Nat.le_refl _
              have hdec : sm24 (v160 241) < sm24 (v38 241) := by
                rcases Int.lt_or_le l5 l6 with h | h
                · refine sm24_lt (i := (hi A.2.1 i).toNat) (by omega) hle' ?_
                  rw [val _ (by omega), if_pos rfl, ← e6]
                  omega
                · refine sm24_lt (i := (lo A.2.1 i).toNat) (by omega) hle' ?_
                  rw [val _ (by omega), if_neg (by omega), if_pos rfl, ← e5]
                  omega
              refine hnext2 hlt _ _ ⟨by omega, fun a ha => by rw [e160, upd2_off _ _ _ ha, e135, upd2_off _ _ _ ha]; exact hfr2 a ha, fun a a0 a1 => ?_, Or.inr ⟨rfl, ?_⟩⟩
              · rw [val a a0]
                by_cases e1 : a = hi A.2.1 i
                · rw [if_pos e1, em, e1]
                  exact ⟨by omega, by omega, chm⟩
                · rw [if_neg e1]
                  by_cases e2 : a = lo A.2.1 i
                  · rw [if_pos e2, em, e2]
                    exact ⟨by omega, by omega, clm⟩
                  · rw [if_neg e2]; exact hb2 a a0 a1
              · rcases hst with ⟨-, a2, -⟩ | ⟨-, a2⟩
                · rw [← a2]; exact hdec
                · omega
            have g135 : ∀ m (v135 : VT), v135 = upd2 v38 241 (lo A.2.1 i).toNat m → mG v135 222 A.1 A.2.1 := fun m v135 e135 => mG_frame g38 (by rw [e135]; exact upd2_off _ _ _ (by omega))
            intro K135 hK135
            refine ⟨fun h => hK135 _ ⟨by omega, fun v135 e135 => S_high w (g135 _ v135 e135) ⟨i0, hlt⟩ ⟨fun _ => ⟨by omega, fun v160 e160 => ⟨by omega, fin l6 (by omega) v135 e135 v160 e160⟩⟩, fun h2 => by omega⟩⟩, fun h => hK135 _ ⟨by omega, fun v135 e135 => S_high w (g135 _ v135 e135) ⟨i0, hlt⟩ ⟨fun h2 => by omega, fun _ => ⟨by omega, fun v160 e160 => ⟨by omega, fin l5 (by omega) v135 e135 v160 e160⟩⟩⟩⟩⟩
  refine up2 (X := X9) A.1 (fun i v9 => 0 ≤ i ∧ (∀ a, a ≠ 241 → v9 a = v a) ∧ ∀ a : Int, 0 ≤ a → a < i → v9 241 a.toNat = a) ?_ hn.1 ⟨by omega, fun a _ => rfl, fun a a0 a1 => by omega⟩
  intro i v9 hle ⟨i0, hfr, hz⟩ hnext
  apply hX9
  refine ⟨fun hge => s1 v9 hfr (fun a a0 a1 => hz a a0 (by omega)), fun hlt => ⟨by omega, fun v20 e20 => ⟨by omega, hnext hlt _ ⟨by omega, fun a ha => by rw [e20, upd2_off _ _ _ ha]; exact hfr a ha, fun a a0 a1 => ?_⟩⟩⟩⟩
  rw [e20, upd2_at _ _ _ i0 a0]
  by_cases e : a = i
  · rw [if_pos e, e]
  · rw [if_neg e]; exact hz a a0 (by omega)
/-! ===== press ===== -/
theorem XS_press (hd : 0 ≤ d ∧ d < kc A.2.1) (hA : okNet A) (hT : okT t V S c P R H) (hX : IX v A T F V S c P R H) : P_X10_press d v (fun r v1 => r = (netQ A d).1 ∧ IX v1 (netQ A d) T F V S c P R (push H A)) := by
  unfold P_X10_press P_X10_isKind
  refine ⟨fun g => by omega, fun _ => S_sorted hA.2.1 hA.1 hX.1 (fun v1 f1 c1 _ _ _ o1 => ?_)⟩
  have e1 : v1 191 1 = kc A.2.1 := o1.1
  rw [e1]
  refine ⟨fun g => by omega, fun _ => ⟨fun _ => ?_, fun g => absurd g (by decide)⟩⟩
  refine X_keep hA hT (IX_XF hX f1 c1) (fun v2 x2 f2 => X_pressKind (d := d) hA x2 (kOKx_frame o1 (fun a ha => f2 a (by omega))) (fun v3 x3 => ⟨x3.1.1.1, x3⟩))
theorem MS_press (hd : 0 ≤ d ∧ d < kc A.2.1) (hA : okNet A) (hT : okT t V S c P R H) (hM : IM v A T F V S c P R H) : P_X11_press d v (fun r v1 => r = (netQ A d).1 ∧ IM v1 (netQ A d) T F V S c P R (push H A)) := by
  have hkl : kc A.2.1 ≤ A.2.1.length := nr_le (by omega)
  have hlen := hA.2.1.2.2
  unfold P_X11_press
  refine S_lays hA.2.1 hA.1 hM.1 (fun v1 f1 c1 l1 => ?_)
  have e1 : v1 218 18 = kc A.2.1 := l1.2.1.1
  rw [e1]
  refine ⟨by omega, S_isIn (fun g => absurd (by omega) g) (fun _ => ⟨fun _ => ?_, fun g => absurd g (by decide)⟩)⟩
  refine M_keep hA hT (IM_MF hM f1 c1) (fun v2 m2 f2 j2 => S_presses (d := d) hA m2 ?_ (fun v3 m3 => ⟨m3.1.1.1, m3⟩))
  have := l1.2.1
  unfold kOKm at this ⊢
  rw [j2 18 (by omega) (by omega), f2 225 (by omega) (by omega), f2 227 (by omega) (by omega)]
  exact this
theorem Q_press (ht : t < 1000000) (h : Inv t v) : P_X10_press d v (fun r v1 => P_X11_press d v1 (fun r' v2 => r = r' ∧ Inv (t + 1) v2)) := by
  obtain ⟨A, T, F, V, S, c, P, R, H, hA, hT, hX, hM⟩ := h
  by_cases hd : 0 ≤ d ∧ d < kc A.2.1
  · exact N_X10_press (F_X10_press (XS_press hd hA hT hX)) (fun r1 v1 h1 => N_X11_press (F_X11_press (MS_press hd hA hT (IM_high hM (fun a ha => h1.2 a (by omega))))) (fun r2 v2 h2 => ⟨by rw [h1.1.1, h2.1.1], inv_mk (okNet_Q hA) (okT_push hA hT) h1.1.2 (fun a ha => h2.2 a (by omega)) h2.1.2⟩))
  · have hkl : kc A.2.1 ≤ A.2.1.length := nr_le (by omega)
    have hk0 : 0 ≤ kc A.2.1 := nr_pos
    have hlen := hA.2.1.2.2
    have no : ∀ v2, IX v2 A T F V S c P R H → IM v2 A T F V S c P R H → P_X10_refuse 3 v2 (fun r v1 => P_X11_press d v1 (fun r' v2 => r = r' ∧ Inv (t + 1) v2)) := by
      intro v2 x2 m2
      refine S_refuse (k := 3) hT ht x2 (by omega) ?_
      have x3 := IX_ref (k := 3) hA x2 (by omega)
      have m3 : IM (upd2 v2 217 3 (v2 217 3 + 1)) A T F V S c P R H := IM_high m2 (fun a ha => upd2_off _ _ _ (by omega))
      show P_X11_press d (upd2 v2 217 3 (v2 217 3 + 1)) (fun r' v2 => -1 = r' ∧ Inv (t + 1) v2)
      unfold P_X11_press
      refine S_lays hA.2.1 hA.1 m3.1 (fun v4 f4 c4 l4 => ?_)
      have m4 := IM_MF m3 f4 c4
      have e1 : v4 218 18 = kc A.2.1 := l4.2.1.1
      rw [e1]
      refine ⟨by omega, S_isIn (fun _ => ⟨fun g => absurd rfl g, fun _ => ?_⟩) (fun g => absurd (by omega) hd)⟩
      exact S_refuses (k := 3) hT ht m4 (by omega) ⟨rfl, A, T, F, V, S, c, P, rUp R 3, H, hA, okT_ref hT (by omega), IX_low hA (IX_low hA x3 (fun a ha => f4.1 a (by omega))) (fun a ha => upd2_off _ _ _ (by omega)), IM_ref m4 (by omega)⟩
    unfold P_X10_press P_X10_isKind
    refine ⟨fun _ => ⟨fun g => absurd rfl g, fun _ => no v hX hM⟩, fun h1 => S_sorted hA.2.1 hA.1 hX.1 (fun v1 f1 c1 _ _ _ o1 => ?_)⟩
    have e1 : v1 191 1 = kc A.2.1 := o1.1
    rw [e1]
    exact ⟨fun _ => ⟨fun g => absurd rfl g, fun _ => no v1 (IX_XF hX f1 c1) (IM_high hM (fun a ha => f1 a (by omega)))⟩, fun g => absurd ⟨h1, g⟩ hd⟩
end PressM

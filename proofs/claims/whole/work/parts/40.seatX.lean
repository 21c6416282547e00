/-! ===== the class: the seat ===== -/
theorem bs_0 (p : Int → Prop) : bs 0 p = 0 := rfl
theorem bs_yes {p : Int → Prop} {k : Int} (hk : 0 ≤ k) (h : p k) : bs (k + 1) p = i_or (bs k p) (i_shl 1 k) := by
  unfold bs
  rw [show (k + 1).toNat = k.toNat + 1 by omega]
  show (if _ then _ else _) = _
  rw [if_pos (by simp; rw [Int.max_eq_left hk]; exact h), Int.toNat_of_nonneg hk]
theorem bs_no {p : Int → Prop} {k : Int} (hk : 0 ≤ k) (h : ¬ p k) : bs (k + 1) p = bs k p := by
  unfold bs
  rw [show (k + 1).toNat = k.toNat + 1 by omega]
  show (if _ then _ else _) = _
  rw [if_neg (by simp; rw [Int.max_eq_left hk]; exact h)]
theorem S_part {n : Int} {L : List Ln} {d : Int} {a2 a3 : Nat} {v : VT} {q : VT → Prop} (hn : 0 ≤ n ∧ n ≤ 24) (h5 : v 197 5 = n) (hd : 0 ≤ d ∧ d < 60) (ha2 : a2 ≤ 164) (ha3 : a3 ≤ 164)
    (h2 : ∀ c : Int, 0 ≤ c → c < n → (v a2 c.toNat < v a3 c.toNat ↔ ¬ hs L d c))
    (hq : ∀ v', (∀ a, a ≠ 198 → a ≠ 199 → v' a = v a) → v' 199 d.toNat = bs n (hs L d) → (∀ k : Int, 0 ≤ k → k ≠ d → v' 199 k.toNat = v 199 k.toNat) →
      (∀ c : Int, 0 ≤ c → c < n → (hs L d c → v' 198 c.toNat = i_or (v 198 c.toNat) (i_shl 1 d)) ∧ (¬ hs L d c → v' 198 c.toNat = v 198 c.toNat)) → q v') : P_X8_part d a2 a3 v q := by
  unfold P_X8_part
  refine ⟨by omega, fun v6 e6 X10 hX10 => ?_⟩
  refine up2 (X := X10) n (fun i v10 => 0 ≤ i ∧ (∀ a, a ≠ 198 → a ≠ 199 → v10 a = v a) ∧ v10 199 d.toNat = bs i (hs L d) ∧ (∀ k : Int, 0 ≤ k → k ≠ d → v10 199 k.toNat = v 199 k.toNat) ∧ (∀ c : Int, 0 ≤ c → c < i → (hs L d c → v10 198 c.toNat = i_or (v 198 c.toNat) (i_shl 1 d)) ∧ (¬ hs L d c → v10 198 c.toNat = v 198 c.toNat)) ∧ (∀ c : Int, i ≤ c → v10 198 c.toNat = v 198 c.toNat)) ?_ (by omega) ⟨by omega, fun a h1 h2 => by rw [e6, upd2_off _ _ _ h2], by rw [e6, upd2_same, bs_0], fun k k0 k1 => by rw [e6, upd2_at _ _ _ hd.1 k0, if_neg k1], fun c c1 c2 => by omega, fun c _ => by rw [e6, upd2_off _ _ _ (by omega)]⟩
  intro i v10 hle ⟨i0, hf, h199, ho, hs1, hs2⟩ hnext
  apply hX10
  have e5 : v10 197 5 = n := by rw [hf 197 (by omega) (by omega)]; exact h5
  rw [e5, hf a2 (by omega) (by omega), hf a3 (by omega) (by omega)]
  refine ⟨fun hc => hq v10 hf (by rw [h199, show i = n by omega]) ho (fun c c1 c2 => hs1 c c1 (by omega)), fun hc => ⟨by omega, by omega, fun hc2 => ⟨by omega, hnext hc _ ⟨by omega, hf, ?_, ho, fun c c1 c2 => ?_, fun c c1 => hs2 c (by omega)⟩⟩, fun hc2 => ⟨by omega, by omega, fun v42 e42 => ⟨by omega, by omega, fun v55 e55 => ⟨by omega, hnext hc _ ⟨by omega, fun a b1 b2 => ?_, ?_, fun k k0 k1 => ?_, fun c c1 c2 => ?_, fun c c1 => ?_⟩⟩⟩⟩⟩⟩
  · rw [h199, bs_no i0 ((h2 i i0 hc).mp hc2)]
  · by_cases e : c = i
    · rw [e]; exact ⟨fun h => absurd h ((h2 i i0 hc).mp hc2), fun _ => hs2 i (by omega)⟩
    · exact hs1 c c1 (by omega)
  all_goals have hyes : hs L d i := Classical.byContradiction fun h => by have := (h2 i i0 hc).mpr h; omega
  · rw [e55, upd2_off _ _ _ b1, e42, upd2_off _ _ _ b2]; exact hf a b1 b2
  · rw [e55, upd2_off _ _ _ (by omega), e42, upd2_same, h199, bs_yes i0 hyes]
  · rw [e55, upd2_off _ _ _ (by omega), e42, upd2_at _ _ _ hd.1 k0, if_neg k1]; exact ho k k0 k1
  · rw [e55, upd2_at _ _ _ i0 c1, e42, upd2_off _ _ _ (by omega)]
    by_cases e : c = i
    · rw [if_pos e, e, hs2 i (by omega)]; exact ⟨fun _ => rfl, fun h => absurd hyes h⟩
    · rw [if_neg e]; exact hs1 c c1 (by omega)
  · rw [e55, upd2_at _ _ _ i0 (by omega), if_neg (by omega), e42, upd2_off _ _ _ (by omega)]; exact hs2 c (by omega)
def stX (v : VT) (n : Int) (L : List Ln) : Prop := v 197 5 = n ∧ rsn n L (v 197 2) (v 197 3) (v 197 4) ∧
  ((v 197 1 = 1 ∧ v 197 2 = 0 ∧ 0 < n ∧ v 197 6 = kc L ∧ (∀ c : Int, 0 ≤ c → c < n → v 198 c.toNat = sd L (kc L) c) ∧ (∀ d : Int, 0 ≤ d → d < kc L → v 199 d.toNat = bs n (hs L d))) ∨ (v 197 1 = 0 ∧ ¬ (v 197 2 = 0 ∧ 0 < n) ∧ v 197 6 = 0))
theorem S_settle {n : Int} {L : List Ln} {v : VT} {q : VT → Prop} (w : wfL n L) (hn : 0 ≤ n ∧ n ≤ 24) (hg : xG v 10 n L) (hm : mt v n L) (hk : kOKx v L)
    (hq : ∀ v', (∀ a, ¬ (197 ≤ a ∧ a ≤ 199) → v' a = v a) → v' 197 0 = 1 → stX v' n L → q v') : P_X8_settle v q := by
  obtain ⟨g0, g1, g2⟩ := xG_10 hg
  have hlen := w.2.2
  unfold P_X8_settle
  intro v5 e5
  have f5 : ∀ a, a ≠ 197 → v5 a = v a := fun a ha => by rw [e5, upd2_off _ _ _ ha]
  have tr : ∀ {v' : VT}, (∀ a, ¬ (197 ≤ a ∧ a ≤ 199) → v' a = v a) → xG v' 10 n L ∧ mt v' n L ∧ kOKx v' L := fun {v'} hz => ⟨xG_frame hg (hz 10 (by omega)) (hz 12 (by omega)) (hz 13 (by omega)) (hz 14 (by omega)), mt_frame hm (fun a ha => hz a (by omega)) hn.2, by unfold kOKx; rw [hz 191 (by omega), hz 192 (by omega), hz 193 (by omega), hz 194 (by omega)]; exact hk⟩
  have t5 := tr (v' := v5) (fun a ha => f5 a (by omega))
  refine S_findReason w hn t5.1 t5.2.1 t5.2.2 (by rw [e5, upd2_same, g0]) (fun v12 z12 hr => ?_)
  have f12 : ∀ a, a ≠ 197 → v12 a = v a := fun a ha => by rw [z12.1 a ha]; exact f5 a ha
  have e125 : v12 197 5 = n := by rw [z12.2 5 (by decide) (by decide) (by decide), e5, upd2_same, g0]
  intro K35 hK35 K34 hK34
  have body : ∀ s0 : Int, (s0 = 1 ∧ v12 197 2 = 0 ∧ 0 < n) ∨ (s0 = 0 ∧ ¬ (v12 197 2 = 0 ∧ 0 < n)) → K35 s0 := by
    intro s0 hs0
    apply hK35
    refine ⟨by omega, fun v35 e35 K54 hK54 => ?_⟩
    have f35 : ∀ a, a ≠ 197 → v35 a = v a := fun a ha => by rw [e35, upd2_off _ _ _ ha]; exact f12 a ha
    have j35 : ∀ j, j ≠ 1 → v35 197 j = v12 197 j := fun j hj => by rw [e35, upd2_j, if_neg hj]
    have s35 : v35 197 1 = s0 := by rw [e35, upd2_same]
    have hkc : 0 ≤ kc L := nr_pos
    have hkl : kc L ≤ L.length := nr_le (by omega)
    have body2 : ∀ D : Int, (s0 = 1 ∧ D = kc L) ∨ (s0 = 0 ∧ D = 0) → K54 D := by
      intro D hD
      apply hK54
      intro v54 e54 K83 hK83 X60 hX60
      have f54 : ∀ a, a ≠ 197 → v54 a = v a := fun a ha => by rw [e54, upd2_off _ _ _ ha]; exact f35 a ha
      have j54 : ∀ j, j ≠ 1 → j ≠ 6 → v54 197 j = v12 197 j := fun j h1 h2 => by rw [e54, upd2_j, if_neg h2]; exact j35 j h1
      have s54 : v54 197 1 = s0 := by rw [e54, upd2_j, if_neg (by decide)]; exact s35
      have d54 : v54 197 6 = D := by rw [e54, upd2_same]
      have s1 : ∀ v83 : VT, (∀ a, a ≠ 198 → v83 a = v54 a) → (∀ c : Int, 0 ≤ c → c < n → v83 198 c.toNat = 0) → K83 v83 := by
        intro v83 hf hz
        apply hK83
        intro X86 hX86
        refine up2 (X := X86) D (fun d v86 => 0 ≤ d ∧ (∀ a, a ≠ 198 → a ≠ 199 → v86 a = v54 a) ∧ (∀ c : Int, 0 ≤ c → c < n → v86 198 c.toNat = sd L d c) ∧ (∀ k : Int, 0 ≤ k → k < d → v86 199 k.toNat = bs n (hs L k))) ?_ (by omega) ⟨by omega, fun a h1 h2 => hf a h1, fun c c1 c2 => by rw [hz c c1 c2, sd_0], fun k k1 k2 => by omega⟩
        intro d v86 hle ⟨d0, hf8, hs8, ho8⟩ hnext
        apply hX86
        rw [hf8 197 (by omega) (by omega), d54]
        refine ⟨fun hc v143 e143 => ?_, fun hc => ?_⟩
        · have j143 : ∀ j, j ≠ 0 → v143 197 j = v54 197 j := fun j hj => by rw [e143, upd2_j, if_neg hj, hf8 197 (by omega) (by omega)]
          refine hq v143 (fun a ha => by rw [e143, upd2_off _ _ _ (by omega), hf8 a (by omega) (by omega)]; exact f54 a (by omega)) (by rw [e143, upd2_same]) ⟨by rw [j143 5 (by decide), j54 5 (by decide) (by decide)]; exact e125, ?_, ?_⟩
          · rw [j143 2 (by decide), j143 3 (by decide), j143 4 (by decide), j54 2 (by decide) (by decide), j54 3 (by decide) (by decide), j54 4 (by decide) (by decide)]; exact hr
          · rw [j143 1 (by decide), j143 2 (by decide), j143 6 (by decide), j54 2 (by decide) (by decide), s54, d54]
            rcases hD with ⟨h1, h2⟩ | ⟨h1, h2⟩
            · refine Or.inl ⟨h1, by omega, by omega, h2, fun c c1 c2 => ?_, fun k k1 k2 => ?_⟩
              · rw [e143, upd2_off _ _ _ (by omega), hs8 c c1 c2, show d = kc L by omega]
              · rw [e143, upd2_off _ _ _ (by omega)]; exact ho8 k k1 (by omega)
            · exact Or.inr ⟨h1, by omega, h2⟩
        · have hs1 : s0 = 1 ∧ D = kc L := by omega
          have hl := lr_spec (L := L) (d := d) ⟨d0, by have : D = kc L := hs1.2; unfold kc at this; omega⟩
          have hwl := w.1 _ hl.1 hl.2.1
          have e194 : v86 194 d.toNat = lr L d := by
            rw [hf8 194 (by omega) (by omega), f54 194 (by omega)]
            have := (hk.2.2 (lr L d) hl.1 hl.2.1 hl.2.2.1).1
            rwa [hl.2.2.2] at this
          have e12' : v86 12 (lr L d).toNat = lo L (lr L d) := by rw [hf8 12 (by omega) (by omega), f54 12 (by omega)]; exact (g2 _ hl.1 hl.2.1).1
          have e13' : v86 13 (lr L d).toNat = hi L (lr L d) := by rw [hf8 13 (by omega) (by omega), f54 13 (by omega)]; exact (g2 _ hl.1 hl.2.1).2.1
          rw [e194, e12', e13']
          refine ⟨by omega, by omega, by omega, by omega, by omega, by omega, ?_⟩
          have h197 : v86 197 5 = n := by rw [hf8 197 (by omega) (by omega), j54 5 (by decide) (by decide)]; exact e125
          refine S_part (L := L) hn h197 ⟨d0, by omega⟩ (by omega) (by omega) (fun c c1 c2 => ?_) (fun v' k1 k2 k3 k4 => ⟨by omega, hnext hc _ ⟨by omega, fun a b1 b2 => by rw [k1 a b1 b2]; exact hf8 a b1 b2, fun c c1 c2 => ?_, fun k k5 k6 => ?_⟩⟩)
          · rw [hf8 _ (by omega) (by omega), hf8 _ (by omega) (by omega), f54 _ (by omega), f54 _ (by omega), hm.2.2.1 _ c (by omega) (by omega) c1 c2, hm.2.2.1 _ c (by omega) (by omega) c1 c2]
            have hn2 : non2 L.length n (fun _ => 0) (p2 L) := by
              rcases hr with ⟨h, -⟩ | ⟨-, ⟨h, -⟩ | ⟨h, -⟩⟩
              · omega
              · omega
              · exact h
            have := hn2 _ c hl.1 hl.2.1 c1 c2
            unfold p2 at this
            unfold hs
            omega
          · by_cases h : hs L d c
            · rw [(k4 c c1 c2).1 h, hs8 c c1 c2, sd_yes d0 h]
            · rw [(k4 c c1 c2).2 h, hs8 c c1 c2, sd_no d0 h]
          · by_cases e : k = d
            · rw [e]; exact k2
            · rw [k3 k k5 e]; exact ho8 k k5 (by omega)
      refine up2 (X := X60) n (fun i v60 => 0 ≤ i ∧ (∀ a, a ≠ 198 → v60 a = v54 a) ∧ ∀ c : Int, 0 ≤ c → c < i → v60 198 c.toNat = 0) ?_ (by omega) ⟨by omega, fun a _ => rfl, fun c c1 c2 => by omega⟩
      intro i v60 hle ⟨i0, hf, hz⟩ hnext
      apply hX60
      have e605 : v60 197 5 = n := by rw [hf 197 (by omega), j54 5 (by decide) (by decide)]; exact e125
      rw [e605]
      refine ⟨fun hc => s1 v60 hf (fun c c1 c2 => hz c c1 (by omega)), fun hc => ⟨by omega, fun v76 e76 => ⟨by omega, hnext hc _ ⟨by omega, fun a ha => ?_, fun c c1 c2 => ?_⟩⟩⟩⟩
      · rw [e76, upd2_off _ _ _ ha]; exact hf a ha
      · rw [e76, upd2_at _ _ _ i0 c1]
        by_cases e : c = i
        · rw [if_pos e]
        · rw [if_neg e]; exact hz c c1 (by omega)
    rw [s35]
    refine ⟨fun h => body2 0 (Or.inr ⟨h, rfl⟩), fun h => body2 _ (Or.inl ⟨by omega, ?_⟩)⟩
    rw [f35 191 (by omega)]; exact hk.1
  rw [e125]
  refine ⟨fun h => hK34 (body 0 (Or.inr ⟨rfl, fun h' => h h'.1⟩)), fun h => ⟨fun h2 => hK34 (body 0 (Or.inr ⟨rfl, by omega⟩)), fun h2 => body 1 (Or.inl ⟨rfl, h, h2⟩)⟩⟩

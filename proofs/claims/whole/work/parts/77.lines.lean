/-! ===== lines that differ in prices alone ===== -/
section Shape
variable {L L' : List Ln} {n : Int} {v v' : VT}
def shp (L L' : List Ln) : Prop := lo L = lo L' ∧ hi L = hi L' ∧ L.length = L'.length
theorem shp_adj (h : shp L L') : adj L = adj L' := by
  funext a b
  unfold adj
  rw [h.1, h.2.1, h.2.2]
theorem shp_wk (h : shp L L') : ∀ k : Nat, wk L k = wk L' k
  | 0 => rfl
  | k + 1 => by
    funext a b
    show (∃ c, wk L k a c ∧ adj L c b) = (∃ c, wk L' k a c ∧ adj L' c b)
    rw [shp_wk h k, shp_adj h]
theorem shp_dd (h : shp L L') : dd L = dd L' := by
  funext a b
  rcases dd_spec L a b with ⟨h1, h2⟩ | ⟨k, h1, h2, h3⟩
  · rcases dd_spec L' a b with ⟨g1, g2⟩ | ⟨k, g1, g2, g3⟩
    · rw [h1, g1]
    · exact absurd (by rw [shp_wk h k]; exact g2) (h2 k)
  · rw [h1]
    symm
    exact dd_eq (by rw [← shp_wk h k]; exact h2) (fun j hj => by rw [← shp_wk h j]; exact h3 j hj)
theorem shp_alk (h : shp L L') : alk L = alk L' := by
  funext i j
  unfold alk
  rw [h.1, h.2.1, shp_dd h]
theorem shp_RA (h : shp L L') : RA L = RA L' := by
  funext i j
  unfold RA
  rw [h.2.2, shp_alk h]
theorem shp_kc (h : shp L L') : kc L = kc L' := by unfold kc; rw [h.2.2, shp_RA h]
theorem choose_cong {p p' : Int → Prop} (e : p = p') (h : ∃ r, p r) (h' : ∃ r, p' r) : Classical.choose h = Classical.choose h' := by subst e; rfl
theorem shp_lr (h : shp L L') : lr L = lr L' := by
  funext d
  unfold lr
  exact choose_cong (by funext r; rw [shp_RA h, h.2.2]) _ _
theorem shp_hs (h : shp L L') : hs L = hs L' := by
  funext d c
  unfold hs
  rw [h.1, h.2.1, shp_dd h, shp_lr h]
theorem shp_sd (h : shp L L') : sd L = sd L' := by
  funext D c
  unfold sd
  rw [shp_hs h]
theorem shp_rsn (h : shp L L') : rsn n L = rsn n L' := by
  have e1 : p1 L = p1 L' := by funext a b; unfold p1; rw [shp_dd h]
  have e2 : p2 L = p2 L' := by funext a b; unfold p2; rw [h.1, h.2.1, shp_dd h]
  have e3 : p3 L = p3 L' := by funext a b; unfold p3; rw [h.2.2, shp_RA h, shp_alk h]
  funext r x y
  unfold rsn
  rw [e1, e2, e3, h.2.2]
theorem XC_shp (h : shp L L') (hc : XC v n L) (hx : xG v' 10 n L') (hn : n ≤ 24) (hf : ∀ a, 138 ≤ a ∧ a ≤ 199 → v' a = v a) : XC v' n L' := by
  obtain ⟨h1, h2, h3, h4⟩ := hc
  refine ⟨hx, ?_, ?_, ?_⟩
  · rw [hf 138 (by omega)]
    rcases h2 with h2 | ⟨a1, a2, a3⟩
    · exact Or.inl h2
    · refine Or.inr ⟨a1, ?_, ?_⟩
      · have := mt_frame a2 (v' := v') (fun a ha => hf a (by omega)) hn
        unfold mt conn at this ⊢
        rw [← shp_dd h, ← shp_adj h]; exact this
      · have := md_frame hn a3 (v' := v') (fun a ha => hf a (by omega))
        unfold md am at this ⊢
        rw [← shp_dd h]; exact this
  · rw [hf 191 (by omega)]
    rcases h3 with h3 | ⟨a1, a2⟩
    · exact Or.inl h3
    · refine Or.inr ⟨a1, ?_⟩
      have := kOKx_frame a2 (v' := v') (fun a ha => hf a (by omega))
      unfold kOKx at this ⊢
      rw [← shp_RA h, ← h.2.2]; exact this
  · rw [hf 197 (by omega)]
    rcases h4 with h4 | ⟨a1, a2⟩
    · exact Or.inl h4
    · refine Or.inr ⟨a1, ?_⟩
      have := stX_frame a2 (v' := v') (fun a ha => hf a (by omega))
      unfold stX at this ⊢
      rw [← shp_rsn h, ← shp_kc h, ← shp_sd h, ← shp_hs h]; exact this
theorem MC_shp (h : shp L L') (hc : MC v n L) (hx : mG v' 222 n L') (hf : ∀ a, 224 ≤ a ∧ a ≤ 228 → v' a = v a) (hj : ∀ j, j = 15 ∨ j = 18 ∨ j = 19 → v' 218 j = v 218 j) : MC v' n L' := by
  refine ⟨hx, ?_⟩
  rw [hj 15 (by omega)]
  rcases hc.2 with h3 | ⟨a1, a2, a3, a4, a5⟩
  · exact Or.inl h3
  · refine Or.inr ⟨a1, ?_, ?_, ?_, ?_⟩
    · unfold frOK at a2 ⊢; rw [hf 224 (by omega), ← shp_dd h]; exact a2
    · unfold kOKm at a3 ⊢; rw [hj 18 (by omega), hf 225 (by omega), hf 227 (by omega), ← shp_RA h, ← h.2.2]; exact a3
    · rw [hj 19 (by omega), hf 226 (by omega), ← shp_rsn h]; exact a4
    · unfold sOKm at a5 ⊢; rw [hj 19 (by omega), hf 228 (by omega), ← shp_kc h, ← shp_sd h]; exact a5
end Shape
/-! ===== lines put behind, taken out, changed ===== -/
section Lines
variable {L : List Ln} {n : Int} {v : VT}
theorem ln_app {x : Ln} {k : Int} (h0 : 0 ≤ k) (h1 : k < L.length) : lo (L ++ [x]) k = lo L k ∧ hi (L ++ [x]) k = hi L k ∧ pr (L ++ [x]) k = pr L k := by
  unfold lo hi pr
  have e : (L ++ [x]).getD k.toNat (0, 0, 0) = L.getD k.toNat (0, 0, 0) := by
    rw [List.getD_eq_getElem?_getD, List.getD_eq_getElem?_getD, List.getElem?_append_left (by omega)]
  rw [e]
  exact ⟨rfl, rfl, rfl⟩
theorem ln_last {x : Ln} {k : Int} (h : k = L.length) : lo (L ++ [x]) k = x.1 ∧ hi (L ++ [x]) k = x.2.1 ∧ pr (L ++ [x]) k = x.2.2 := by
  unfold lo hi pr
  have e : (L ++ [x]).getD k.toNat (0, 0, 0) = x := by
    rw [h, Int.toNat_natCast, List.getD_eq_getElem?_getD, List.getElem?_append_right (Nat.le_refl _), Nat.sub_self]
    rfl
  rw [e]
  exact ⟨rfl, rfl, rfl⟩
def addL (L : List Ln) (a b p : Int) : List Ln := L ++ [(min a b, max a b, p)]
theorem addL_len (L : List Ln) (a b p : Int) : (addL L a b p).length = L.length + 1 := by unfold addL; rw [List.length_append]; rfl
theorem adj_addL {a b p x y : Int} : adj (addL L a b p) x y ↔ adj L x y ∨ (a = x ∧ b = y) ∨ (a = y ∧ b = x) := by
  rw [adj_mem, adj_mem]
  unfold addL
  constructor
  · rintro ⟨l, hl, h⟩
    rcases List.mem_append.mp hl with g | g
    · exact Or.inl ⟨l, g, h⟩
    · rw [List.mem_singleton.mp g] at h
      right
      dsimp only at h
      omega
  · rintro (⟨l, hl, h⟩ | h)
    · exact ⟨l, List.mem_append_left _ hl, h⟩
    · refine ⟨(min a b, max a b, p), List.mem_append_right _ (List.mem_singleton.mpr rfl), ?_⟩
      dsimp only
      omega
theorem wfL_add {a b p : Int} (w : wfL n L) (h60 : L.length < 60) (ha : 0 ≤ a ∧ a < n) (hb : 0 ≤ b ∧ b < n) (hne : a ≠ b) (hp : 1 ≤ p ∧ p ≤ 9) (hno : ¬ adj L a b) : wfL n (addL L a b p) := by
  rw [wfL_iff] at w ⊢
  refine ⟨fun l hl => ?_, ?_, by rw [addL_len]; omega⟩
  · rcases List.mem_append.mp hl with g | g
    · exact w.1 l g
    · rw [List.mem_singleton.mp g]
      dsimp only
      omega
  · unfold addL
    rw [List.pairwise_append]
    refine ⟨w.2.1, List.pairwise_singleton _ _, fun l hl l' hl' => ?_⟩
    rw [List.mem_singleton.mp hl']
    rintro ⟨h1, h2⟩
    dsimp only at h1 h2
    refine hno (adj_mem.mpr ⟨l, hl, ?_⟩)
    omega
theorem wfL_up {n' : Int} (w : wfL n L) (h : n ≤ n') : wfL n' L := ⟨fun k k0 k1 => by have := w.1 k k0 k1; omega, w.2⟩
def cj (n : Int) (L : List Ln) (a b : Int) : Prop := (0 ≤ a ∧ a < n) ∧ (0 ≤ b ∧ b < n) ∧ a ≠ b ∧ L.length < 60 ∧ ¬ adj L a b
theorem S_findLine {x y : Int} {g : Nat} {q : Int → Prop} (w : wfL n L) (hg : xG v g n L) (h0 : ¬ adj L x y → q (-1)) (h1 : ∀ k : Int, 0 ≤ k → k < L.length → ((lo L k = x ∧ hi L k = y) ∨ (lo L k = y ∧ hi L k = x)) → q k) : P_X0_findLine g x y v q := by
  have hlen := w.2.2
  unfold P_X0_findLine
  rw [hg.2.1]
  intro X16 hX16
  refine up1 (X := X16) (L.length : Int) (fun i => 0 ≤ i ∧ ∀ k : Int, 0 ≤ k → k < i → ¬ (lo L k = min x y ∧ hi L k = max x y)) ?_ (by omega) ⟨by omega, fun k k0 k1 => by omega⟩
  intro i hle ⟨i0, hb⟩ hnext
  apply hX16
  have step : ¬ (lo L i = min x y ∧ hi L i = max x y) → ∀ k : Int, 0 ≤ k → k < i + 1 → ¬ (lo L k = min x y ∧ hi L k = max x y) := fun hno k k0 k1 => by
    by_cases e : k = i
    · rw [e]; exact hno
    · exact hb k k0 (by omega)
  refine ⟨fun hc => h0 ?_, fun hc => ?_⟩
  · rintro ⟨k, k0, k1, k2⟩
    have hw := w.1 k k0 k1
    have := hb k k0 (by omega)
    omega
  · obtain ⟨e1, e2, -⟩ := hg.2.2 i i0 hc
    rw [e1, e2]
    refine ⟨by omega, fun hne => ⟨by omega, hnext hc ⟨by omega, step (fun g => hne g.1)⟩⟩, fun he => ⟨by omega, fun hne => ⟨by omega, hnext hc ⟨by omega, step (fun g => hne g.2)⟩⟩, fun he2 => h1 i i0 hc ?_⟩⟩
    omega
theorem S_canJoin {a b : Int} {g : Nat} {q : Int → Prop} (w : wfL n L) (hg : xG v g n L) (h0 : ¬ cj n L a b → q 0) (h1 : cj n L a b → q 1) : P_X0_canJoin g a b v q := by
  unfold P_X0_canJoin P_X0_isNode
  rw [hg.1, hg.2.1]
  have no : ¬ cj n L a b → ((0 : Int) = 0 → q 0) := fun h _ => h0 h
  refine ⟨fun h => ⟨fun _ => h0 (fun g => by have := g.1; omega), fun g => absurd rfl g⟩, fun h => ⟨fun h2 => ⟨fun _ => h0 (fun g => by have := g.1; omega), fun g => absurd rfl g⟩, fun h2 => ⟨fun g => absurd g (by decide), fun _ => ?_⟩⟩⟩
  refine ⟨fun h3 => ⟨fun _ => h0 (fun g => by have := g.2.1; omega), fun g => absurd rfl g⟩, fun h3 => ⟨fun h4 => ⟨fun _ => h0 (fun g => by have := g.2.1; omega), fun g => absurd rfl g⟩, fun h4 => ⟨fun g => absurd g (by decide), fun _ => ?_⟩⟩⟩
  refine ⟨fun h5 => h0 (fun g => g.2.2.1 h5), fun h5 => ⟨fun h6 => h0 (fun g => by have := g.2.2.2.1; omega), fun h6 => ?_⟩⟩
  refine S_findLine w hg (fun h7 => ⟨fun g => absurd rfl g, fun _ => h1 ⟨⟨h, h2⟩, ⟨h3, h4⟩, h5, by omega, h7⟩⟩) (fun k k0 k1 k2 => ⟨fun _ => h0 (fun g => g.2.2.2.2 ⟨k, k0, k1, k2⟩), fun g => by omega⟩)
theorem S_canJoinM {a b : Int} {q : Int → Prop} (hn : 0 ≤ n ∧ n ≤ 24) (w : wfL n L) (hg : mG v 222 n L) (h0 : ¬ cj n L a b → q 0) (h1 : cj n L a b → q 1) : P_X11_canJoin a b v q := by
  unfold P_X11_canJoin
  rw [hg.2.1]
  refine S_isNodeM hn hg (fun h => ⟨fun _ => h0 (fun g => h g.1), fun g => absurd rfl g⟩) (fun h => ⟨fun g => absurd g (by decide), fun _ => ?_⟩)
  refine S_isNodeM hn hg (fun h2 => ⟨fun _ => h0 (fun g => h2 g.2.1), fun g => absurd rfl g⟩) (fun h2 => ⟨fun g => absurd g (by decide), fun _ => ?_⟩)
  refine ⟨fun h5 => h0 (fun g => g.2.2.1 h5), fun h5 => ⟨fun h6 => h0 (fun g => by have := g.2.2.2.1; omega), fun h6 => ?_⟩⟩
  refine S_lineOf w hg (fun h7 => ⟨fun g => absurd rfl g, fun _ => h1 ⟨h, h2, h5, by omega, h7⟩⟩) (fun k k0 k1 k2 => ⟨fun _ => h0 (fun g => g.2.2.2.2 ⟨k, k0, k1, k2⟩), fun g => by omega⟩)
/-- a line is put behind; cells behind the new one stay -/
theorem S_addLine {a b p : Int} {g : Nat} {q : VT → Prop} (hg : xG v g n L) (h60 : L.length < 60)
    (hq : ∀ v' : VT, (∀ c, c ≠ g → c ≠ g + 2 → c ≠ g + 3 → c ≠ g + 4 → v' c = v c) → (∀ j, j ≠ 1 → v' g j = v g j) → xG v' g n (addL L a b p) → (∀ k : Nat, L.length < k → v' (g + 2) k = v (g + 2) k ∧ v' (g + 3) k = v (g + 3) k ∧ v' (g + 4) k = v (g + 4) k) → q v') : P_X0_addLine g a b p v q := by
  unfold P_X0_addLine
  rw [hg.2.1]
  refine ⟨fun h => by omega, fun _ => ⟨by omega, fun v22 e22 => ?_⟩⟩
  have n22 : v22 g 1 = (L.length : Int) := by rw [e22, upd2_off _ _ _ (by omega)]; exact hg.2.1
  rw [n22]
  refine ⟨by omega, fun v36 e36 => ?_⟩
  have n36 : v36 g 1 = (L.length : Int) := by rw [e36, upd2_off _ _ _ (by omega)]; exact n22
  rw [n36]
  refine ⟨by omega, fun v46 e46 => ?_⟩
  have n46 : v46 g 1 = (L.length : Int) := by rw [e46, upd2_off _ _ _ (by omega)]; exact n36
  rw [n46]
  refine ⟨by omega, fun v54 e54 => ?_⟩
  rw [Int.toNat_natCast] at e22 e36 e46
  have c2 : ∀ k, v54 (g + 2) k = if k = L.length then min a b else v (g + 2) k := fun k => by
    rw [e54, upd2_off _ _ _ (by omega), e46, upd2_off _ _ _ (by omega), e36, upd2_off _ _ _ (by omega), e22, upd2_j]
  have c3 : ∀ k, v54 (g + 3) k = if k = L.length then max a b else v (g + 3) k := fun k => by
    rw [e54, upd2_off _ _ _ (by omega), e46, upd2_off _ _ _ (by omega), e36, upd2_j, e22, upd2_off _ _ _ (by omega)]
  have c4 : ∀ k, v54 (g + 4) k = if k = L.length then p else v (g + 4) k := fun k => by
    rw [e54, upd2_off _ _ _ (by omega), e46, upd2_j, e36, upd2_off _ _ _ (by omega), e22, upd2_off _ _ _ (by omega)]
  have c0 : ∀ j, j ≠ 1 → v54 g j = v g j := fun j hj => by
    rw [e54, upd2_j, if_neg hj, e46, upd2_off _ _ _ (by omega), e36, upd2_off _ _ _ (by omega), e22, upd2_off _ _ _ (by omega)]
  refine hq v54 (fun c d0 d2 d3 d4 => ?_) c0 ⟨by rw [c0 0 (by decide)]; exact hg.1, ?_, fun k k0 k1 => ?_⟩ (fun k hk => ⟨by rw [c2, if_neg (by omega)], by rw [c3, if_neg (by omega)], by rw [c4, if_neg (by omega)]⟩)
  · rw [e54, upd2_off _ _ _ d0, e46, upd2_off _ _ _ d4, e36, upd2_off _ _ _ d3, e22, upd2_off _ _ _ d2]
  · rw [e54, upd2_same, addL_len]; omega
  · rw [addL_len] at k1
    rw [c2, c3, c4]
    unfold addL
    by_cases e : k = (L.length : Int)
    · obtain ⟨l1, l2, l3⟩ := ln_last (L := L) (x := (min a b, max a b, p)) e
      rw [if_pos (by omega), if_pos (by omega), if_pos (by omega), l1, l2, l3]
      exact ⟨rfl, rfl, rfl⟩
    · obtain ⟨l1, l2, l3⟩ := ln_app (L := L) (x := (min a b, max a b, p)) k0 (by omega)
      rw [if_neg (by omega), if_neg (by omega), if_neg (by omega), l1, l2, l3]
      exact hg.2.2 k k0 (by omega)
theorem S_adds {a b p : Int} {g : Nat} {q : VT → Prop} (hg : mG v g n L) (h60 : L.length < 60)
    (hq : ∀ v' : VT, (∀ c, c ≠ g → v' c = v c) → (∀ j, j ≠ 1 → j < 26 → v' g j = v g j) → mG v' g n (addL L a b p) → q v') : P_X11_adds g a b p v q := by
  unfold P_X11_adds
  rw [hg.2.1]
  refine ⟨by omega, by omega, fun l4 e4 => ⟨by omega, by omega, fun v19 e19 => ?_⟩⟩
  have n19 : v19 g 1 = (L.length : Int) := by rw [e19, upd2_j, if_neg (by omega)]; exact hg.2.1
  have key : ∀ s0 s1 : Int, s0 = min a b → s1 = max a b → ∀ v33 : VT, v33 = upd2 v19 g l4.toNat s0 → ∀ v49 : VT, v49 = upd2 v33 g (l4 + 1).toNat s1 → (-2147483648 ≤ v49 g 1 + 1 ∧ v49 g 1 + 1 ≤ 2147483647) ∧ ∀ v56 : VT, v56 = upd2 v49 g 1 (v49 g 1 + 1) → q v56 := by
    intro s0 s1 h0 h1 v33 e33 v49 e49
    have n49 : v49 g 1 = (L.length : Int) := by rw [e49, upd2_j, if_neg (by omega), e33, upd2_j, if_neg (by omega)]; exact n19
    rw [n49]
    refine ⟨by omega, fun v56 e56 => ?_⟩
    have c : ∀ j, v56 g j = if j = 1 then (L.length : Int) + 1 else if j = (l4 + 1).toNat then s1 else if j = l4.toNat then s0 else if j = (146 + (L.length : Int)).toNat then p else v g j := fun j => by
      rw [e56, upd2_j, e49, upd2_j, e33, upd2_j, e19, upd2_j]
    refine hq v56 (fun d hd => ?_) (fun j j1 j2 => ?_) ⟨?_, ?_, fun k k0 k1 => ?_⟩
    · rw [e56, upd2_off _ _ _ hd, e49, upd2_off _ _ _ hd, e33, upd2_off _ _ _ hd, e19, upd2_off _ _ _ hd]
    · rw [c, if_neg j1, if_neg (by omega), if_neg (by omega), if_neg (by omega)]
    · rw [c, if_neg (by decide), if_neg (by omega), if_neg (by omega), if_neg (by omega)]; exact hg.1
    · rw [c, if_pos rfl, addL_len]; omega
    · rw [addL_len] at k1
      unfold addL
      by_cases e : k = (L.length : Int)
      · obtain ⟨l1, l2, l3⟩ := ln_last (L := L) (x := (min a b, max a b, p)) e
        rw [l1, l2, l3]
        refine ⟨?_, ?_, ?_⟩
        · rw [c, if_neg (by omega), if_neg (by omega), if_pos (by omega)]; exact h0
        · rw [c, if_neg (by omega), if_pos (by omega)]; exact h1
        · rw [c, if_neg (by omega), if_neg (by omega), if_neg (by omega), if_pos (by omega)]
      · obtain ⟨l1, l2, l3⟩ := ln_app (L := L) (x := (min a b, max a b, p)) k0 (by omega)
        have hk := hg.2.2 k k0 (by omega)
        rw [l1, l2, l3]
        refine ⟨?_, ?_, ?_⟩
        · rw [c, if_neg (by omega), if_neg (by omega), if_neg (by omega), if_neg (by omega)]; exact hk.1
        · rw [c, if_neg (by omega), if_neg (by omega), if_neg (by omega), if_neg (by omega)]; exact hk.2.1
        · rw [c, if_neg (by omega), if_neg (by omega), if_neg (by omega), if_neg (by omega)]; exact hk.2.2
  intro K33 hK33
  refine ⟨fun h => hK33 _ ⟨by omega, fun v33 e33 => ⟨by omega, fun _ => ⟨by omega, fun v49 e49 => key b a (by omega) (by omega) v33 e33 v49 e49⟩, fun h2 => by omega⟩⟩, fun h => hK33 _ ⟨by omega, fun v33 e33 => ⟨by omega, fun h2 => by omega, fun _ => ⟨by omega, fun v49 e49 => key a b (by omega) (by omega) v33 e33 v49 e49⟩⟩⟩⟩
end Lines

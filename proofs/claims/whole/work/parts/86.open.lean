/-! ===== a network opened along two sets ===== -/
def sec (n : Int) (B : Nat → Bool) (a : Int) : Int := n + (fb_ct B a.toNat : Int)
def ex1 (n : Int) (B Z : Nat → Bool) (a b : Int) : Int := if B a.toNat = true ∧ Z b.toNat = true then sec n B a else a
def o1 (n : Int) (B Z : Nat → Bool) (L : List Ln) : Nat → List Ln
  | 0 => []
  | k + 1 => addL (o1 n B Z L k) (ex1 n B Z (lo L (k : Int)) (hi L (k : Int))) (ex1 n B Z (hi L (k : Int)) (lo L (k : Int))) (pr L (k : Int))
def inB (B : Nat → Bool) (L : List Ln) (k : Nat) : Bool := B (lo L (k : Int)).toNat && B (hi L (k : Int)).toNat
def dl (n : Int) (B : Nat → Bool) (L : List Ln) : Nat → List Ln
  | 0 => []
  | k + 1 => if inB B L k = true then addL (dl n B L k) (sec n B (lo L (k : Int))) (sec n B (hi L (k : Int))) (pr L (k : Int)) else dl n B L k
def tlo (n : Int) (B : Nat → Bool) : Nat → List Ln
  | 0 => []
  | k + 1 => if B k = true then addL (tlo n B k) (k : Int) (sec n B (k : Int)) 1 else tlo n B k
def netO (A : Net) (B Z : Nat → Bool) : Net := (A.1 + (fb_ct B A.1.toNat : Int), o1 A.1 B Z A.2.1 A.2.1.length ++ dl A.1 B A.2.1 A.2.1.length ++ tlo A.1 B A.1.toNat, fun i => if i < A.1 then A.2.2 i else [])
section Open
variable {n : Int} {B Z : Nat → Bool} {L : List Ln} {v : VT}
theorem addL_app (M D : List Ln) (a b p : Int) : addL (M ++ D) a b p = M ++ addL D a b p := by unfold addL; rw [List.append_assoc]
theorem o1_len : ∀ k : Nat, (o1 n B Z L k).length = k
  | 0 => rfl
  | k + 1 => by show (addL _ _ _ _).length = _; rw [addL_len, o1_len k]
theorem dl_len : ∀ k : Nat, (dl n B L k).length = fb_ct (inB B L) k
  | 0 => rfl
  | k + 1 => by
    have ih := dl_len k
    rw [fb_ct_succ]
    show (if inB B L k = true then _ else _ : List Ln).length = _
    by_cases e : inB B L k = true
    · rw [if_pos e, if_pos e, addL_len, ih]
    · rw [if_neg e, if_neg e, ih]; rfl
theorem tlo_len : ∀ k : Nat, (tlo n B k).length = fb_ct B k
  | 0 => rfl
  | k + 1 => by
    have ih := tlo_len k
    rw [fb_ct_succ]
    show (if B k = true then _ else _ : List Ln).length = _
    by_cases e : B k = true
    · rw [if_pos e, if_pos e, addL_len, ih]
    · rw [if_neg e, if_neg e, ih]; rfl
theorem sec_r {a : Int} (ha : 0 ≤ a ∧ a < n) (hB : B a.toNat = true) : n ≤ sec n B a ∧ sec n B a < n + (fb_ct B n.toNat : Int) := by
  unfold sec
  have h1 := fb_ct_mono B (show a.toNat + 1 ≤ n.toNat by omega)
  rw [fb_ct_succ, if_pos hB] at h1
  omega
theorem sec_inj {a b : Int} (ha : 0 ≤ a) (hb : 0 ≤ b) (h1 : B a.toNat = true) (h2 : B b.toNat = true) (e : sec n B a = sec n B b) : a = b := by
  unfold sec at e
  have := fb_ct_kth_one h1 h2 (by omega)
  omega
/-- a value that is a node, or its second -/
def isE (n : Int) (B : Nat → Bool) (a u : Int) : Prop := u = a ∨ (B a.toNat = true ∧ u = sec n B a)
theorem isE_one {a b u : Int} (ha : 0 ≤ a ∧ a < n) (hb : 0 ≤ b ∧ b < n) (h1 : isE n B a u) (h2 : isE n B b u) : a = b := by
  rcases h1 with h1 | ⟨g1, h1⟩
  · rcases h2 with h2 | ⟨g2, h2⟩
    · omega
    · have := sec_r hb g2; omega
  · rcases h2 with h2 | ⟨g2, h2⟩
    · have := sec_r ha g1; omega
    · exact sec_inj ha.1 hb.1 g1 g2 (by rw [← h1, ← h2])
theorem ex1_E {a b : Int} : isE n B a (ex1 n B Z a b) := by
  unfold ex1 isE
  split
  · rename_i h; exact Or.inr ⟨h.1, rfl⟩
  · exact Or.inl rfl
theorem isE_r {a u : Int} (ha : 0 ≤ a ∧ a < n) (h : isE n B a u) : 0 ≤ u ∧ u < n + (fb_ct B n.toNat : Int) := by
  rcases h with h | ⟨g, h⟩
  · omega
  · have := sec_r ha g; omega
theorem o1_adj {x y : Int} : ∀ k : Nat, adj (o1 n B Z L k) x y → ∃ j : Nat, j < k ∧ ((ex1 n B Z (lo L (j : Int)) (hi L (j : Int)) = x ∧ ex1 n B Z (hi L (j : Int)) (lo L (j : Int)) = y) ∨ (ex1 n B Z (lo L (j : Int)) (hi L (j : Int)) = y ∧ ex1 n B Z (hi L (j : Int)) (lo L (j : Int)) = x))
  | 0, h => by obtain ⟨j, j0, j1, -⟩ := h; have : j < 0 := j1; omega
  | k + 1, h => by
    have h' : adj (addL (o1 n B Z L k) (ex1 n B Z (lo L (k : Int)) (hi L (k : Int))) (ex1 n B Z (hi L (k : Int)) (lo L (k : Int))) (pr L (k : Int))) x y := h
    rw [adj_addL] at h'
    rcases h' with h' | h'
    · obtain ⟨j, j1, j2⟩ := o1_adj k h'
      exact ⟨j, by omega, j2⟩
    · exact ⟨k, by omega, h'⟩
theorem o1_wf (w : wfL n L) : ∀ k : Nat, k ≤ L.length → wfL (n + (fb_ct B n.toNat : Int)) (o1 n B Z L k)
  | 0, _ => ⟨fun j j0 j1 => by have : j < 0 := j1; omega, fun i j i0 i1 => by have : i < 0 := i1; omega, Nat.zero_le _⟩
  | k + 1, hk => by
    have hlen := w.2.2
    have hw := w.1 (k : Int) (by omega) (by omega)
    have ea := ex1_E (n := n) (B := B) (Z := Z) (a := lo L (k : Int)) (b := hi L (k : Int))
    have eb := ex1_E (n := n) (B := B) (Z := Z) (a := hi L (k : Int)) (b := lo L (k : Int))
    refine wfL_add (o1_wf w k (by omega)) (by rw [o1_len]; omega) (isE_r (by omega) ea) (isE_r (by omega) eb) (fun e => ?_) (by omega) (fun h => ?_)
    · rw [← e] at eb
      have := isE_one (by omega) (by omega) ea eb
      omega
    · obtain ⟨j, j1, j2⟩ := o1_adj k h
      have hwj := w.1 (j : Int) (by omega) (by omega)
      have ja := ex1_E (n := n) (B := B) (Z := Z) (a := lo L (j : Int)) (b := hi L (j : Int))
      have jb := ex1_E (n := n) (B := B) (Z := Z) (a := hi L (j : Int)) (b := lo L (j : Int))
      have : lo L (j : Int) = lo L (k : Int) ∧ hi L (j : Int) = hi L (k : Int) := by
        rcases j2 with ⟨e1, e2⟩ | ⟨e1, e2⟩
        · rw [e1] at ja; rw [e2] at jb
          exact ⟨isE_one (by omega) (by omega) ja ea, isE_one (by omega) (by omega) jb eb⟩
        · rw [e1] at ja; rw [e2] at jb
          have := isE_one (by omega) (by omega) ja eb
          have := isE_one (by omega) (by omega) jb ea
          omega
      have := w.2.1 (j : Int) (k : Int) (by omega) (by omega) (by omega) (by omega) this.1 this.2
      omega
theorem dl_adj {M : List Ln} {x y : Int} : ∀ k : Nat, adj (M ++ dl n B L k) x y → adj M x y ∨ ∃ j : Nat, j < k ∧ inB B L j = true ∧ ((sec n B (lo L (j : Int)) = x ∧ sec n B (hi L (j : Int)) = y) ∨ (sec n B (lo L (j : Int)) = y ∧ sec n B (hi L (j : Int)) = x))
  | 0, h => Or.inl (by
    have e : dl n B L 0 = [] := rfl
    rw [e, List.append_nil] at h; exact h)
  | k + 1, h => by
    by_cases e : inB B L k = true
    · have e2 : dl n B L (k + 1) = addL (dl n B L k) (sec n B (lo L (k : Int))) (sec n B (hi L (k : Int))) (pr L (k : Int)) := if_pos e
      rw [e2, ← addL_app, adj_addL] at h
      rcases h with h | h
      · rcases dl_adj k h with g | ⟨j, j1, j2⟩
        · exact Or.inl g
        · exact Or.inr ⟨j, by omega, j2⟩
      · exact Or.inr ⟨k, by omega, e, h⟩
    · have e2 : dl n B L (k + 1) = dl n B L k := if_neg e
      rw [e2] at h
      rcases dl_adj k h with g | ⟨j, j1, j2⟩
      · exact Or.inl g
      · exact Or.inr ⟨j, by omega, j2⟩
theorem tl_adj {M : List Ln} {x y : Int} : ∀ k : Nat, adj (M ++ tlo n B k) x y → adj M x y ∨ ∃ j : Nat, j < k ∧ B j = true ∧ (((j : Int) = x ∧ sec n B (j : Int) = y) ∨ ((j : Int) = y ∧ sec n B (j : Int) = x))
  | 0, h => Or.inl (by
    have e : tlo n B 0 = [] := rfl
    rw [e, List.append_nil] at h; exact h)
  | k + 1, h => by
    by_cases e : B k = true
    · have e2 : tlo n B (k + 1) = addL (tlo n B k) (k : Int) (sec n B (k : Int)) 1 := if_pos e
      rw [e2, ← addL_app, adj_addL] at h
      rcases h with h | h
      · rcases tl_adj k h with g | ⟨j, j1, j2⟩
        · exact Or.inl g
        · exact Or.inr ⟨j, by omega, j2⟩
      · exact Or.inr ⟨k, by omega, e, h⟩
    · have e2 : tlo n B (k + 1) = tlo n B k := if_neg e
      rw [e2] at h
      rcases tl_adj k h with g | ⟨j, j1, j2⟩
      · exact Or.inl g
      · exact Or.inr ⟨j, by omega, j2⟩
theorem inB_and {k : Nat} : inB B L k = true ↔ B (lo L (k : Int)).toNat = true ∧ B (hi L (k : Int)).toNat = true := by unfold inB; rw [Bool.and_eq_true]
theorem dl_wf (w : wfL n L) (hBZ : ∀ a, ¬ (B a = true ∧ Z a = true)) (h60 : L.length + fb_ct (inB B L) L.length ≤ 60) : ∀ k : Nat, k ≤ L.length → wfL (n + (fb_ct B n.toNat : Int)) (o1 n B Z L L.length ++ dl n B L k)
  | 0, _ => by
    have e : dl n B L 0 = [] := rfl
    rw [e, List.append_nil]; exact o1_wf w _ (Nat.le_refl _)
  | k + 1, hk => by
    have ih := dl_wf w hBZ h60 k (by omega)
    by_cases e : inB B L k = true
    · have e2 : dl n B L (k + 1) = addL (dl n B L k) (sec n B (lo L (k : Int))) (sec n B (hi L (k : Int))) (pr L (k : Int)) := if_pos e
      obtain ⟨b1, b2⟩ := inB_and.mp e
      have hw := w.1 (k : Int) (by omega) (by omega)
      have r1 := sec_r (n := n) (B := B) (a := lo L (k : Int)) (by omega) b1
      have r2 := sec_r (n := n) (B := B) (a := hi L (k : Int)) (by omega) b2
      have hc := fb_ct_mono (inB B L) hk
      rw [fb_ct_succ, if_pos e] at hc
      rw [e2, ← addL_app]
      refine wfL_add ih (by rw [List.length_append, o1_len, dl_len]; omega) (by omega) (by omega) (fun g => ?_) (by omega) (fun g => ?_)
      · have := sec_inj (by omega) (by omega) b1 b2 g
        omega
      · rcases dl_adj k g with g | ⟨j, j1, j2, j3⟩
        · obtain ⟨j, j1, j2⟩ := o1_adj _ g
          have hwj := w.1 (j : Int) (by omega) (by omega)
          have both : ex1 n B Z (lo L (j : Int)) (hi L (j : Int)) < n ∨ ex1 n B Z (hi L (j : Int)) (lo L (j : Int)) < n := by
            by_cases q1 : B (lo L (j : Int)).toNat = true ∧ Z (hi L (j : Int)).toNat = true
            · right
              unfold ex1
              rw [if_neg (fun q2 => hBZ _ ⟨q2.1, q1.2⟩)]
              omega
            · left
              unfold ex1
              rw [if_neg q1]
              omega
          omega
        · obtain ⟨c1, c2⟩ := inB_and.mp j2
          have hwj := w.1 (j : Int) (by omega) (by omega)
          have : lo L (j : Int) = lo L (k : Int) ∧ hi L (j : Int) = hi L (k : Int) := by
            rcases j3 with ⟨g1, g2⟩ | ⟨g1, g2⟩
            · exact ⟨sec_inj (by omega) (by omega) c1 b1 g1, sec_inj (by omega) (by omega) c2 b2 g2⟩
            · have := sec_inj (by omega) (by omega) c1 b2 g1
              have := sec_inj (by omega) (by omega) c2 b1 g2
              omega
          have := w.2.1 (j : Int) (k : Int) (by omega) (by omega) (by omega) (by omega) this.1 this.2
          omega
    · have e2 : dl n B L (k + 1) = dl n B L k := if_neg e
      rw [e2]; exact ih
theorem tl_wf (w : wfL n L) (hBZ : ∀ a, ¬ (B a = true ∧ Z a = true)) (h60 : L.length + fb_ct (inB B L) L.length + fb_ct B n.toNat ≤ 60) : ∀ k : Nat, (k : Int) ≤ n → wfL (n + (fb_ct B n.toNat : Int)) (o1 n B Z L L.length ++ dl n B L L.length ++ tlo n B k)
  | 0, _ => by
    have e : tlo n B 0 = [] := rfl
    rw [e, List.append_nil]; exact dl_wf w hBZ (by omega) _ (Nat.le_refl _)
  | k + 1, hk => by
    have ih := tl_wf w hBZ h60 k (by omega)
    by_cases e : B k = true
    · have e2 : tlo n B (k + 1) = addL (tlo n B k) (k : Int) (sec n B (k : Int)) 1 := if_pos e
      have r1 := sec_r (n := n) (B := B) (a := (k : Int)) (by omega) (by rw [Int.toNat_natCast]; exact e)
      have hc := fb_ct_mono B (show k + 1 ≤ n.toNat by omega)
      rw [fb_ct_succ, if_pos e] at hc
      rw [e2, ← addL_app]
      refine wfL_add ih (by rw [List.length_append, List.length_append, o1_len, dl_len, tlo_len]; omega) (by omega) (by omega) (by omega) (by omega) (fun g => ?_)
      rcases tl_adj k g with g | ⟨j, j1, j2, j3⟩
      · rcases dl_adj _ g with g | ⟨j, j1, j2, j3⟩
        · obtain ⟨j, j1, j2⟩ := o1_adj _ g
          have hwj := w.1 (j : Int) (by omega) (by omega)
          have ja := ex1_E (n := n) (B := B) (Z := Z) (a := lo L (j : Int)) (b := hi L (j : Int))
          have jb := ex1_E (n := n) (B := B) (Z := Z) (a := hi L (j : Int)) (b := lo L (j : Int))
          have k1 : isE n B (k : Int) (k : Int) := Or.inl rfl
          have k2 : isE n B (k : Int) (sec n B (k : Int)) := Or.inr ⟨by rw [Int.toNat_natCast]; exact e, rfl⟩
          rcases j2 with ⟨g1, g2⟩ | ⟨g1, g2⟩
          · rw [g1] at ja; rw [g2] at jb
            have := isE_one (by omega) (by omega) ja k1
            have := isE_one (by omega) (by omega) jb k2
            omega
          · rw [g1] at ja; rw [g2] at jb
            have := isE_one (by omega) (by omega) ja k2
            have := isE_one (by omega) (by omega) jb k1
            omega
        · obtain ⟨c1, c2⟩ := inB_and.mp j2
          have hwj := w.1 (j : Int) (by omega) (by omega)
          have s1 := sec_r (n := n) (B := B) (a := lo L (j : Int)) (by omega) c1
          have s2 := sec_r (n := n) (B := B) (a := hi L (j : Int)) (by omega) c2
          omega
      · have rj := sec_r (n := n) (B := B) (a := (j : Int)) (by omega) (by rw [Int.toNat_natCast]; exact j2)
        omega
    · have e2 : tlo n B (k + 1) = tlo n B k := if_neg e
      rw [e2]; exact ih
theorem o1_at : ∀ (m k : Nat), k < m → lo (o1 n B Z L m) (k : Int) = min (ex1 n B Z (lo L (k : Int)) (hi L (k : Int))) (ex1 n B Z (hi L (k : Int)) (lo L (k : Int))) ∧ hi (o1 n B Z L m) (k : Int) = max (ex1 n B Z (lo L (k : Int)) (hi L (k : Int))) (ex1 n B Z (hi L (k : Int)) (lo L (k : Int))) ∧ pr (o1 n B Z L m) (k : Int) = pr L (k : Int)
  | 0, k, h => by omega
  | m + 1, k, h => by
    have el := o1_len (n := n) (B := B) (Z := Z) (L := L) m
    show lo (addL (o1 n B Z L m) _ _ _) (k : Int) = _ ∧ hi (addL (o1 n B Z L m) _ _ _) (k : Int) = _ ∧ pr (addL (o1 n B Z L m) _ _ _) (k : Int) = _
    unfold addL
    by_cases e : k = m
    · obtain ⟨l1, l2, l3⟩ := ln_last (L := o1 n B Z L m) (x := (min (ex1 n B Z (lo L (m : Int)) (hi L (m : Int))) (ex1 n B Z (hi L (m : Int)) (lo L (m : Int))), max (ex1 n B Z (lo L (m : Int)) (hi L (m : Int))) (ex1 n B Z (hi L (m : Int)) (lo L (m : Int))), pr L (m : Int))) (k := (k : Int)) (by rw [el, e])
      rw [l1, l2, l3, e]
      exact ⟨rfl, rfl, rfl⟩
    · obtain ⟨l1, l2, l3⟩ := ln_app (L := o1 n B Z L m) (x := (min (ex1 n B Z (lo L (m : Int)) (hi L (m : Int))) (ex1 n B Z (hi L (m : Int)) (lo L (m : Int))), max (ex1 n B Z (lo L (m : Int)) (hi L (m : Int))) (ex1 n B Z (hi L (m : Int)) (lo L (m : Int))), pr L (m : Int))) (k := (k : Int)) (by omega) (by omega)
      rw [l1, l2, l3]
      exact o1_at m k (by omega)
theorem ln_app2 {M M' D : List Ln} (hl : M.length = M'.length) {k : Int} (k0 : (M.length : Int) ≤ k) : lo (M ++ D) k = lo (M' ++ D) k ∧ hi (M ++ D) k = hi (M' ++ D) k ∧ pr (M ++ D) k = pr (M' ++ D) k := by
  unfold lo hi pr
  have e : (M ++ D).getD k.toNat (0, 0, 0) = (M' ++ D).getD k.toNat (0, 0, 0) := by
    rw [List.getD_eq_getElem?_getD, List.getD_eq_getElem?_getD, List.getElem?_append_right (by omega), List.getElem?_append_right (by omega), hl]
  rw [e]
  exact ⟨rfl, rfl, rfl⟩
theorem ln_app1 {M D : List Ln} {k : Int} (k0 : 0 ≤ k) (k1 : k < M.length) : lo (M ++ D) k = lo M k ∧ hi (M ++ D) k = hi M k ∧ pr (M ++ D) k = pr M k := by
  unfold lo hi pr
  have e : (M ++ D).getD k.toNat (0, 0, 0) = M.getD k.toNat (0, 0, 0) := by
    rw [List.getD_eq_getElem?_getD, List.getD_eq_getElem?_getD, List.getElem?_append_left (by omega)]
  rw [e]
  exact ⟨rfl, rfl, rfl⟩
end Open

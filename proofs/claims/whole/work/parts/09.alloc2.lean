/-! ===== rules of n_T: arrays of references ===== -/
section AllocRules2
variable {G : GT} {d rc rs : Nat} {M : MT} {pc : Nat} {ls st : List Vl} {sh : List Sh} {v : VT} {Q : Option Vl → List Sh → VT → Prop}
theorem T_anew {n idx : Nat} (hd : decode M.2.1 pc = .ok (.anewarray idx, 3)) (hcl : Cond.classLink M.1.cls idx "CubeNets$Graph" ∈ wsAll) (hn : n ≤ 100000) (K : n_T G d rc rs M (pc + 3) ls (vR sh.length :: st) (sh ++ [.inr (4, n, List.replicate n 0)]) (setv v sh.length (fun _ => 0)) Q) : n_T G d (rc + 1) (rs + n) M pc ls (vI (n : Int) :: st) sh v Q := by
  intro p e R s m args below meth c H locs cells slots mc ms la hx hb hml hr hlk hown hnm hts hKx hdf hdl hcm hsm hmc hms hRel hS hls hst hl
  refine W.anew hx hb hown (hts _ hcl) (va_AO.use hKx.2.2.1) rfl hd rfl (n_nlt (by omega)) (by rw [n_clampN (by omega)]; omega) (by omega) (by rw [n_clampN (by omega)]; omega) fun cA kA comp f1 f2 f3 f4 => ?_
  rw [n_clampN (n := n) (by omega)]
  have hcA : cA = g_cA G 4 := by
    obtain ⟨_, _, _, _, _, g4⟩ := (hKx.1.2 4 (g_cA G 4, .object "CubeNets$Graph") rfl).2
    exact Option.some.inj (f1.symm.trans g4)
  subst hcA
  generalize hH1 : H.push ({ cls := g_cA G 4, slots := Array.replicate n .null, vm := .none } : Cell) = H1
  have z1 : H1.size = H.size + 1 := by rw [← hH1, Array.size_push]
  have e1 : H1[H.size]? = some (arrV (g_cA G 4) n (fun _ => .null)) := by rw [← hH1, Array.getElem?_push_size, ← arrV_new]
  have o1 : ∀ q : Nat, q < H.size → H1[q]? = H[q]? := fun q hq => by rw [← hH1, Array.getElem?_push, if_neg (Nat.ne_of_lt hq)]
  have hat : va_at (g_D G) vwCl (g_base G + sh.length, n_ent G (.inr (4, n, List.replicate n 0)) (fun _ => 0)) H1 := by
    show H1[g_base G + sh.length]? = some (arrV (g_cA G 4) n (fun j => va_rf (n_rf G ((List.replicate n 0).getD j 0))))
    rw [← hRel.2.1, e1]
    congr 2
    funext j
    have : (List.replicate n 0).getD j 0 = 0 := by
      simp only [List.getD]
      by_cases hj : j < n
      · simp [hj]
      · simp [hj]
    rw [this]
    rfl
  refine W.eq (g2 := F0 m (pc + 3) la ((vR sh.length :: st).map (n_gv G))) (by rw [hRel.2.1]; rfl) ?_
  exact K p e R s m args below meth c H1 locs (cells + 1) (slots + n) mc ms la hx hb hml hr hlk hown hnm hts hKx hdf hdl (by omega) (by omega) hmc hms (n_push hRel z1 o1 hat (fun j => r32_slot0 _ j)) (n_S_new hS (by omega) o1) hls (okc trivial (ok1 hst).2) hl
theorem T_aast {a n q : Nat} {r rs' : List Nat} {i : Int} (hd : decode M.2.1 pc = .ok (.aastore, 1)) (hs : sh[a]? = some (.inr (4, n, r))) (hlen : r.length = n) (hi : 0 ≤ i ∧ i < n) (hq : sh[q]? = some (.inl (0, rs'))) (K : n_T G d rc rs M (pc + 1) ls st (sh.set a (.inr (4, n, r.set i.toNat (q + 1)))) v Q) : n_T G d rc rs M pc ls (vR q :: vI i :: vR a :: st) sh v Q := by
  intro p e R s m args below meth c H locs cells slots mc ms la hx hb hml hr hlk hown hnm hts hKx hdf hdl hcm hsm hmc hms hRel hS hls hst hl
  have h0 : r32 i := (ok1 (ok1 hst).2).1
  have hin := i32_in h0 hi
  have hP := hRel.1
  have hK := hKx.1
  have hlt : (Int32.ofInt i).toNatClampNeg < n := Nat.not_le.mp fun q => hin (Or.inr q)
  have hn0 : ¬ Int32.ofInt i < 0 := fun q => hin (Or.inl q)
  obtain ⟨r', hr', cellV, g1, g2, g3, -⟩ := hP q _ (n_ws_get hq)
  have hcls := (hK.1 0 (RX0, TX0, 7) rfl).2
  obtain ⟨kA, comp, k1, k2, k3, -⟩ := (hK.2 4 (g_cA G 4, .object "CubeNets$Graph") rfl).2
  have hcomp : comp = (g_D G).1 0 := Option.some.inj (k3.symm.trans hcls.1)
  subst hcomp
  obtain ⟨kC, hkC, -⟩ := hcls.2
  have hc : H[g_base G + a]? = some (arrV (g_cA G 4) n (fun j => va_rf (n_rf G (r.getD j 0)))) := hRel.1 a _ (n_ws_get hs)
  refine W.aast hx hb hc (fun q h => by cases h) (fun h => by cases h) k1 k2 rfl hkC ⟨hn0, by show _ < (arrV _ _ _).slots.size; rw [arrV_size]; exact hlt⟩ g1 (fun q h => by rw [g3] at h; cases h) (by rw [g2]; exact hkC) (by rw [g2]; exact va_assign hcls) rfl rfl hd fun H1 e1 z oq => ?_
  have hla : a < sh.length := (List.getElem?_eq_some_iff.mp hs).1
  have hat : va_at (g_D G) vwCl (g_base G + a, n_ent G (.inr (4, n, r.set i.toNat (q + 1))) (v a)) H1 := by
    show H1[g_base G + a]? = some (arrV (g_cA G 4) n (fun j => va_rf (n_rf G ((r.set i.toNat (q + 1)).getD j 0))))
    rw [e1, i32_clamp h0, arrV_store]
    congr 2
    funext j
    by_cases hj : j = i.toNat
    · subst hj
      have : i.toNat < r.length := by omega
      simp [updV, List.getD, this, n_rf, va_rf]
    · simp [updV, hj, List.getD, List.getElem?_set_ne (Ne.symm hj)]
  have hP2 := hP.set (n_ws_D G sh v) (n_ws_get hs) hat oq
  have hws : (n_ws G sh v).set a (g_base G + a, n_ent G (.inr (4, n, r.set i.toNat (q + 1))) (v a)) = n_ws G (sh.set a (.inr (4, n, r.set i.toNat (q + 1)))) v := by
    apply List.ext_getElem?
    intro k
    by_cases hka : k = a
    · subst hka
      have hl9 : k < (n_ws G sh v).length := (List.getElem?_eq_some_iff.mp (n_ws_get hs)).1
      rw [List.getElem?_set_self hl9, n_ws_get (List.getElem?_set_self hla)]
    · rw [List.getElem?_set_ne (Ne.symm hka)]
      cases hs2 : sh[k]? with
      | none => unfold n_ws; rw [List.getElem?_mapIdx, List.getElem?_mapIdx, List.getElem?_set_ne (Ne.symm hka), hs2]
      | some s2 => rw [n_ws_get hs2, n_ws_get (by rw [List.getElem?_set_ne (Ne.symm hka)]; exact hs2)]
  rw [hws] at hP2
  refine K p e R s m args below meth c H1 _ cells slots mc ms la hx hb hml hr hlk hown hnm hts hKx hdf hdl hcm hsm hmc hms ⟨hP2, by rw [z, hRel.2.1, List.length_set], fun a' s' j' hs' => ?_⟩ (hS.put z oq (Nat.le_add_right _ _)) hls (ok1 (ok1 (ok1 hst).2).2).2 hl
  by_cases hia : a' = a
  · subst hia
    rw [List.getElem?_set_self hla] at hs'
    cases hs'
    have h9 := hRel.2.2 a' _ j' hs
    exact h9
  · rw [List.getElem?_set_ne (Ne.symm hia)] at hs'
    exact hRel.2.2 a' _ j' hs'
theorem n_outer (c : ClassId) (N h0 : Nat) : ∀ i : Nat, Jvm.Free.Multi.outerC c N h0 i = arrV c N (fun j => va_rf (if j < i then some (h0 + 1 + j) else none))
  | 0 => by
    show ({ cls := c, slots := Array.replicate N .null, vm := .none } : Cell) = _
    rw [arrV_new]
    refine congrArg (arrV c N) (funext fun j => ?_)
    simp [va_rf]
  | i + 1 => by
    show (Jvm.Free.Multi.outerC c N h0 i).setSlot i (.ref (h0 + 1 + i)) = _
    rw [n_outer c N h0 i, arrV_store]
    refine congrArg (arrV c N) (funext fun j => ?_)
    by_cases e : j = i
    · subst e
      simp [updV, va_rf]
    · by_cases h : j < i
      · simp [updV, e, h, Nat.lt_succ_of_lt h]
      · simp [updV, e, h, show ¬ j < i + 1 by omega]
/-- n + 1 cells at once: what stands behind the old ones -/
theorem n_pushes {G : GT} {sh : List Sh} {v : VT} {H H1 : Heap} {ss : List Sh} {v' : VT} (hRel : n_Rel G sh v H) (z : H1.size = H.size + ss.length) (oq : ∀ q : Nat, q < H.size → H1[q]? = H[q]?) (hv : ∀ a, a < sh.length → v' a = v a) (hat : ∀ (k : Nat) (s : Sh), ss[k]? = some s → va_at (g_D G) vwCl (g_base G + (sh.length + k), n_ent G s (v' (sh.length + k))) H1) (hok : ∀ (k : Nat) (s : Sh) (j : Nat), ss[k]? = some s → n_slot s j (v' (sh.length + k) j)) : n_Rel G (sh ++ ss) v' H1 := by
  obtain ⟨h1, h2, h3⟩ := hRel
  refine ⟨fun k q hk => ?_, by rw [z, h2, List.length_append]; omega, fun a s j hs => ?_⟩
  · obtain ⟨s, hs, rfl⟩ := n_ws_inv hk
    by_cases hl : k < sh.length
    · rw [List.getElem?_append_left hl] at hs
      rw [hv k hl]
      have h9 := h1 k _ (n_ws_get hs)
      exact h9.kept (oq _ (by show g_base G + k < H.size; omega))
    · rw [List.getElem?_append_right (by omega)] at hs
      have h9 := hat _ _ hs
      rw [show sh.length + (k - sh.length) = k by omega] at h9
      exact h9
  · by_cases hl : a < sh.length
    · rw [List.getElem?_append_left hl] at hs
      rw [hv a hl]
      exact h3 a s j hs
    · rw [List.getElem?_append_right (by omega)] at hs
      have h9 := hok _ _ j hs
      rw [show sh.length + (a - sh.length) = a by omega] at h9
      exact h9
def n_mshape (a n k : Nat) : List Sh := .inr (3, n, (List.range n).map (fun i => a + 1 + i + 1)) :: List.replicate n (.inr (0, k, []))
theorem T_mna {n k idx : Nat} (hd : decode M.2.1 pc = .ok (.multianewarray idx 2, 4)) (hcl : Cond.classLink M.1.cls idx ("[" ++ (FieldType.array .int).toString) ∈ wsAll) (hw : Cond.arrayClass .int ∈ wsAll) (hn : n ≤ 1000) (hk : k ≤ 1000) (K : n_T G d rc rs M (pc + 4) ls (vR sh.length :: st) (sh ++ n_mshape sh.length n k) (fun a => if a < sh.length then v a else fun _ => 0) Q) : n_T G d (rc + 1 + n) (rs + n + n * k) M pc ls (vI (k : Int) :: vI (n : Int) :: st) sh v Q := by
  intro p e R s m args below meth c H locs cells slots mc ms la hx hb hml hr hlk hown hnm hts hKx hdf hdl hcm hsm hmc hms hRel hS hls hst hl
  intro T hT Xs
  have cn : (Int32.ofInt (n : Int)).toNatClampNeg = n := n_clampN (by omega)
  have ck : (Int32.ofInt (k : Int)).toNatClampNeg = k := n_clampN (by omega)
  obtain ⟨vm₁, cA, comp, -, fA, fC, hO, -, X', step⟩ := Xs.multianewarray2F hx hown (hts _ hcl) (show (Cond.arrayOver (.array .int)).before args s = true from hKx.2.2.2.1) (hts _ hw) (g := F0 m pc la ((vI (k : Int) :: vI (n : Int) :: st).map (n_gv G))) rfl (by rw [hb]; exact hd) rfl (n_nlt (by omega)) (n_nlt (by omega)) (by rw [cn]; omega) (by rw [ck]; show k * 4 ≤ _; omega) (by rw [ck]; omega) rfl rfl (by rw [cn]; omega) (by rw [cn, ck]; omega)
  rw [cn, ck] at X' step
  have ecA : cA = g_cA G 3 := by
    have h9 : s.vm.findClass ("[" ++ (FieldType.array .int).toString) = some (g_cA G 3) := (hKx.1.2 3 (g_cA G 3, .array .int) rfl).2
    exact Option.some.inj (fA.symm.trans h9)
  have ecI : comp = g_cA G 0 := by
    have h9 : s.vm.findClass ("[" ++ FieldType.int.toString) = some (g_cA G 0) := (hKx.1.2 0 (g_cA G 0, .int) rfl).2
    exact Option.some.inj (fC.symm.trans h9)
  subst ecA
  subst ecI
  generalize hF : Jvm.Free.Multi.fill (T.setVm vm₁) (g_cA G 3) (g_cA G 0) n k (defaultValue .int) n = F at X' step
  have hTh : (T.setVm vm₁).heap = H := hT
  obtain ⟨f1, f2, -, -⟩ := Jvm.Free.Multi.fill_facts (T.setVm vm₁) (g_cA G 3) (g_cA G 0) n k (defaultValue .int) n
  rw [hF, hTh] at f1 f2
  have hold : ∀ x : Nat, x < H.size → F.heap[x]? = H[x]? := fun x hx => by
    have := Jvm.Free.Multi.fill_old (T.setVm vm₁) (g_cA G 3) (g_cA G 0) n k (defaultValue .int) (a := x) (by rw [hTh]; exact hx) n
    rw [hF, hTh] at this
    exact this
  have hrow : ∀ j : Nat, j < n → F.heap[H.size + 1 + j]? = some (Jvm.Free.Multi.innerC (g_cA G 0) k (defaultValue .int)) := fun j hj => by
    have := Jvm.Free.Multi.fill_inner (T.setVm vm₁) (g_cA G 3) (g_cA G 0) n k (defaultValue .int) n j hj
    rw [hF, hTh] at this
    exact this
  rw [n_outer] at f2
  have hRel2 : n_Rel G (sh ++ n_mshape sh.length n k) (fun a => if a < sh.length then v a else fun _ => 0) F.heap := by
    refine n_pushes hRel (by rw [f1]; simp [n_mshape]; omega) hold (fun a ha => if_pos ha) (fun q s9 hq => ?_) (fun q s9 j hq => ?_)
    · have hv0 : (if sh.length + q < sh.length then v (sh.length + q) else fun _ => 0) = (fun _ => 0 : Nat → Int) := if_neg (by omega)
      rw [hv0]
      unfold n_mshape at hq
      cases q with
      | zero =>
        cases hq
        show F.heap[g_base G + (sh.length + 0)]? = some (arrV (g_cA G 3) n (fun j => va_rf (n_rf G (((List.range n).map (fun i => sh.length + 1 + i + 1)).getD j 0))))
        rw [Nat.add_zero, ← hRel.2.1, f2]
        congr 2
        funext j
        by_cases hj : j < n
        · rw [if_pos hj]
          have e1 : ((List.range n).map (fun i => sh.length + 1 + i + 1)).getD j 0 = (sh.length + 1 + j) + 1 := by simp [List.getD, hj]
          have e2 : H.size + 1 + j = g_base G + (sh.length + 1 + j) := by have := hRel.2.1; omega
          rw [e1, e2]
          rfl
        · rw [if_neg hj]
          simp [List.getD, hj, n_rf, va_rf]
      | succ q =>
        rw [List.getElem?_cons_succ] at hq
        have hql : q < n := by
          have := (List.getElem?_eq_some_iff.mp hq).1
          simpa using this
        have hs9 : s9 = .inr (0, k, []) := by
          have := List.mem_of_getElem? hq
          exact (List.mem_replicate.mp this).2
        subst hs9
        show F.heap[g_base G + (sh.length + (q + 1))]? = some (arrV (g_cA G 0) k (fun _ => .int (Int32.ofInt 0)))
        have h9 := hrow q hql
        rw [show g_base G + (sh.length + (q + 1)) = H.size + 1 + q by rw [hRel.2.1]; omega, h9]
        show some ({ cls := g_cA G 0, slots := Array.replicate k (defaultValue .int), vm := .none } : Cell) = _
        rw [arrV_new]
        rfl
    · have hv0 : (if sh.length + q < sh.length then v (sh.length + q) else fun _ => 0) = (fun _ => 0 : Nat → Int) := if_neg (by omega)
      rw [hv0]
      exact r32_slot0 _ j
  obtain ⟨t, a1, b1⟩ := K p e R s m args below meth c F.heap locs (cells + 1 + n) (slots + n + n * k) mc ms la hx hb hml hr hlk hown hnm hts hKx hdf hdl (by omega) (by omega) hmc hms hRel2 (n_S_new hS (by rw [f1]; omega) hold) hls (okc trivial (ok1 (ok1 hst).2).2) hl F rfl X'
  refine ⟨t, step t ?_, b1⟩
  have e9 : T.heap.size = g_base G + sh.length := by rw [hT]; exact hRel.2.1
  rw [e9]
  exact a1
end AllocRules2

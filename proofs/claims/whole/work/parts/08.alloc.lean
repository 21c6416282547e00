/-! ===== rules of n_T: new cells (constructors) ===== -/
def setv (v : VT) (a : Nat) (f : Nat → Int) : VT := fun a' => if a' = a then f else v a'
theorem setv_same (v : VT) (a : Nat) (f : Nat → Int) : setv v a f a = f := by simp [setv]
theorem setv_ne (v : VT) {a a' : Nat} (f : Nat → Int) (h : a' ≠ a) : setv v a f a' = v a' := by simp [setv, h]
theorem n_push {G : GT} {sh : List Sh} {v : VT} {H H1 : Heap} {s0 : Sh} {f : Nat → Int} (hRel : n_Rel G sh v H) (z : H1.size = H.size + 1) (oq : ∀ q : Nat, q < H.size → H1[q]? = H[q]?) (hat : va_at (g_D G) vwCl (g_base G + sh.length, n_ent G s0 f) H1) (hok : ∀ j, n_slot s0 j (f j)) : n_Rel G (sh ++ [s0]) (setv v sh.length f) H1 := by
  obtain ⟨h1, h2, h3⟩ := hRel
  refine ⟨fun k q hk => ?_, by rw [z, h2, List.length_append]; rfl, fun a s j hs => ?_⟩
  · obtain ⟨s, hs, rfl⟩ := n_ws_inv hk
    by_cases hl : k < sh.length
    · rw [List.getElem?_append_left hl] at hs
      rw [setv_ne _ _ (Nat.ne_of_lt hl)]
      have h9 := h1 k _ (n_ws_get hs)
      exact h9.kept (oq _ (by show g_base G + k < H.size; omega))
    · rw [List.getElem?_append_right (by omega)] at hs
      have hz : k - sh.length < 1 := (List.getElem?_eq_some_iff.mp hs).1
      have hk0 : k = sh.length := by omega
      subst hk0
      rw [Nat.sub_self] at hs
      cases hs
      rw [setv_same]
      exact hat
  · by_cases hl : a < sh.length
    · rw [List.getElem?_append_left hl] at hs
      rw [setv_ne _ _ (Nat.ne_of_lt hl)]
      exact h3 a s j hs
    · rw [List.getElem?_append_right (by omega)] at hs
      have hz : a - sh.length < 1 := (List.getElem?_eq_some_iff.mp hs).1
      have hk0 : a = sh.length := by omega
      subst hk0
      rw [Nat.sub_self] at hs
      cases hs
      rw [setv_same]
      exact hok j
theorem n_S_new {G : GT} {s : State} {H H1 : Heap} {locs : List Loc} (hS : va_S (n_A G) s.heap H locs) (z : H.size ≤ H1.size) (oq : ∀ q : Nat, q < H.size → H1[q]? = H[q]?) : va_S (n_A G) s.heap H1 locs :=
  ⟨Nat.le_trans hS.1 z, fun x h1 h2 => (oq x (Nat.lt_of_lt_of_le h1 hS.1)).trans (hS.2.1 x h1 h2), hS.2.2⟩
theorem r32_slot0 (s : Sh) (j : Nat) : n_slot s j 0 := by
  have a0 : r32 0 := r32_0
  have b0 : r64 0 := by unfold r64; omega
  unfold n_slot
  split
  · split
    · exact b0
    · exact a0
  · exact b0
  · exact a0
theorem n_dflt (G : GT) (ty : FieldType) (h : ty = .int ∨ ty = .boolean ∨ ty = .long ∨ n_isA ty = true) : defaultValue ty = n_val G ty 0 0 := by
  rcases h with rfl | rfl | rfl | h
  · rfl
  · rfl
  · rfl
  · cases ty <;> first | rfl | cases h
def n_okTy (ci : Nat) : Prop := ∀ k, k < c_nf ci → c_ft ci k = .int ∨ c_ft ci k = .boolean ∨ c_ft ci k = .long ∨ n_isA (c_ft ci k) = true
section AllocRules
variable {G : GT} {d rc rs : Nat} {M : MT} {pc : Nat} {ls st : List Vl} {sh : List Sh} {v : VT} {Q : Option Vl → List Sh → VT → Prop}
theorem T_new {ci idx : Nat} (hd : decode M.2.1 pc = .ok (.new idx, 3)) (C : n_clsOk ci) (hty : n_okTy ci) (hcl : Cond.classLink M.1.cls idx (n_cls ci).1 ∈ wsAll) (hinst : Cond.instantiable (n_cls ci).1 (c_nf ci) ∈ wsAll) (hini : Cond.initialized (n_cls ci).1 ∈ wsAll)
    (K : n_T G d rc rs M (pc + 3) ls (vR sh.length :: st) (sh ++ [.inl (ci, List.replicate (c_nf ci) 0)]) (setv v sh.length (fun _ => 0)) Q) : n_T G d (rc + 1) (rs + c_nf ci) M pc ls st sh v Q := by
  intro p e R s m args below meth c H locs cells slots mc ms la hx hb hml hr hlk hown hnm hts hKx hdf hdl hcm hsm hmc hms hRel hS hls hst hl
  obtain ⟨c1, c2, c3, c4, c5⟩ := C
  have hc : vwCl[ci]? = some ((n_cls ci).1, (n_cls ci).2.1, c_nf ci) := by rw [c1, ← c2]
  have hKn := hKx.1.1 ci _ hc
  refine W.newcK hx hb hown (hts _ hcl) (hts _ hinst) (hts _ hini) rfl hd (by omega) (by omega) hKn.2.1 rfl fun H1 kC hkC e1 z1 o1 => ?_
  have hat : va_at (g_D G) vwCl (g_base G + sh.length, n_ent G (.inl (ci, List.replicate (c_nf ci) 0)) (fun _ => 0)) H1 := by
    refine ⟨_, hc, ?_⟩
    have h1 := u_born (c_ft ci) hts c3 hKn hkC e1 c4
    rw [hRel.2.1] at h1
    refine h1.to (fun j hj => ?_)
    show defaultValue (c_ft ci j) = vp_V (n_fs G ci _ _) j
    rw [n_dflt G _ (hty j hj)]
    unfold vp_V
    rw [List.getD, n_fs_get hj]
    simp [List.getD, hj]
  refine W.eq (g2 := F0 m (pc + 3) la ((vR sh.length :: st).map (n_gv G))) (by rw [hRel.2.1]; rfl) ?_
  exact K p e R s m args below meth c H1 locs (cells + 1) (slots + c_nf ci) mc ms la hx hb hml hr hlk hown hnm hts hKx hdf hdl (by omega) (by omega) hmc hms (n_push hRel z1 o1 hat (fun j => r32_slot0 _ j)) (n_S_new hS (by omega) o1) hls (okc trivial hst) hl
theorem T_objI {a idx : Nat} (hd : decode M.2.1 pc = .ok (.invokespecial idx, 3)) (hlk9 : Cond.methodLink M.1.cls idx Lib.objectInit ∈ wsAll) (hin9 : Cond.instanceMethod Lib.objectInit ∈ wsAll) (hco : Cond.code Lib.objectInit ⟨#[0xb1]⟩ 1 none ∈ wsAll) (hd1 : 1 ≤ d) (h8 : (st.map n_ctg).sum ≤ 8) (K : n_T G d rc rs M (pc + 3) ls st sh v Q) : n_T G d rc rs M pc ls (vR a :: st) sh v Q := by
  intro p e R s m args below meth c H locs cells slots mc ms la hx hb hml hr hlk hown hnm hts hKx hdf hdl hcm hsm hmc hms hRel hS hls hst hl
  refine W.objInit hx hb hown (hts _ hlk9) (hts _ hin9) (hts _ hco) rfl (by rw [hml]; exact hl.1) rfl hd (by omega) ?_ ?_
  · have := lv_room (m := m) (pc := pc) (ls := la) (rest := (vR a :: st).map (n_gv G)) (st := st.map (n_gv G)) (by rw [n_ctg_eq]; exact h8)
    omega
  · exact K p e R s m args below meth c H locs cells slots mc ms la hx hb hml hr hlk hown hnm hts hKx hdf hdl hcm hsm hmc hms hRel hS hls (ok1 hst).2 hl
/-- a final reference, in its constructor -/
theorem T_putF {a ci j idx r : Nat} {rs' : List Nat} (hd : decode M.2.1 pc = .ok (.putfield idx, 3)) (F : n_F M.1.cls idx ci j) (hfin : ((n_cls ci).2.1 j).2.2.2 = true) (hnm9 : M.1.name = "<init>") (hcl : (n_cls ci).1 = M.1.cls) (hA : n_isA (c_ft ci j) = true) (hs : sh[a]? = some (.inl (ci, rs'))) (hlen : rs'.length = c_nf ci) (K : n_T G d rc rs M (pc + 3) ls st (sh.set a (.inl (ci, rs'.set j (r + 1)))) v Q) : n_T G d rc rs M pc ls (vR r :: vR a :: st) sh v Q := by
  intro p e R s m args below meth c H locs cells slots mc ms la hx hb hml hr hlk hown hnm hts hKx hdf hdl hcm hsm hmc hms hRel hS hls hst hl
  obtain ⟨⟨c1, c2, c3, c4, c5⟩, hj, hlk9, hsm9⟩ := F
  have hc : vwCl[ci]? = some ((n_cls ci).1, (n_cls ci).2.1, c_nf ci) := by rw [c1, ← c2]
  have hP := hRel.1
  have hK := hKx.1
  have hD := n_ws_D G sh v
  have he := n_ws_get (G := G) (v := v) hs
  have hap := va_apart (own := M.1.cls) hts c3 (c_ft ci) c4 c5 hK hc
  obtain ⟨r9, h1, cell, q1, q2, q3, q4⟩ := hP a _ he
  have hr9 : r9 = ((n_cls ci).1, (n_cls ci).2.1, c_nf ci) := Option.some.inj (h1.symm.trans hc)
  subst hr9
  obtain ⟨hS2, hfc, kC, hkC, hkind⟩ := hK.1 ci _ hc
  obtain ⟨cf, kf, fi, f, hi, hsl⟩ := hS2 j hj
  have hlay := hts _ (c3 _ (u_in_lay hj))
  unfold u_lay at hlay
  rw [if_pos hfin] at hlay
  have hst9 := (u_facts hfc hkC (u_lays hts c3 hj) hi).1
  have hcf : m.cls = cf := by
    obtain ⟨_, _, c', _, _, _, -, -, hf', -, -, -, hown2, -⟩ := Cond.laysFinal_spec hlay
    have e1 : c' = cf := by have := hi.symm.trans hf'; simp at this; exact this.1.symm
    rw [hsm9, hcl] at hown2
    rw [← e1]; exact Option.some.inj (hown.symm.trans hown2)
  have h6 := u_fits (v := .ref (g_base G + r)) hfc hkC hkind (Or.inr hlay) hi (c4 j hj) (by cases hh : c_ft ci j <;> first | rfl | (rw [hh] at hA; cases hA)) (by cases hh : c_ft ci j <;> first | rfl | (rw [hh] at hA; cases hA))
  refine W.putFinK (ref := (n_cls ci).1) hx hb hown (hts _ hlk9) (by rw [← hsm9]; exact hi) hst9 hcf (hnm.trans hnm9) (by rw [q2]; exact h6) q1 q3 (by rw [hsl]; exact k2_hasslot (q4 j hj)) rfl rfl hd fun H' e1 e2 e3 => ?_
  rw [hsl] at e1
  have hP2 := hP.set hD he (e := .inr (ci, (n_fs G ci rs' (v a)).set j (.ref (g_base G + r)))) ⟨_, hc, t_OB.to (V := updV (vp_V (n_fs G ci rs' (v a))) j (.ref (g_base G + r))) ⟨_, e1, q2, q3, t_set q4 hap hj _⟩ (fun i _ => vp_updV_set (by rw [n_fs_len]; exact hj) _ i)⟩ e3
  have hws : (n_ws G sh v).set a (g_base G + a, .inr (ci, (n_fs G ci rs' (v a)).set j (.ref (g_base G + r)))) = n_ws G (sh.set a (.inl (ci, rs'.set j (r + 1)))) v := by
    have hla : a < sh.length := (List.getElem?_eq_some_iff.mp hs).1
    apply List.ext_getElem?
    intro i
    by_cases hia : i = a
    · subst hia
      have hl9 : i < (n_ws G sh v).length := (List.getElem?_eq_some_iff.mp (n_ws_get hs)).1
      rw [List.getElem?_set_self hl9, n_ws_get (List.getElem?_set_self hla)]
      congr 2
      show Sum.inr (ci, _) = Sum.inr (ci, n_fs G ci (rs'.set j (r + 1)) (v i))
      rw [n_fs_set (f' := v i) (rs' := rs'.set j (r + 1))]
      · rw [n_valA hA]
        simp [List.getD, hlen, hj, n_rf, va_rf]
      · intro k hk
        exact ⟨rfl, by simp [List.getD, List.getElem?_set_ne (Ne.symm hk)]⟩
    · rw [List.getElem?_set_ne (Ne.symm hia)]
      cases hs2 : sh[i]? with
      | none => unfold n_ws; rw [List.getElem?_mapIdx, List.getElem?_mapIdx, List.getElem?_set_ne (Ne.symm hia), hs2]
      | some s2 => rw [n_ws_get hs2, n_ws_get (by rw [List.getElem?_set_ne (Ne.symm hia)]; exact hs2)]
  rw [hws] at hP2
  refine K p e R s m args below meth c H' _ cells slots mc ms la hx hb hml hr hlk hown hnm hts hKx hdf hdl hcm hsm hmc hms ⟨hP2, by rw [e2, hRel.2.1, List.length_set], fun a' s' j' hs' => ?_⟩ (hS.put e2 e3 (hD.2 a _ he)) hls (ok1 (ok1 hst).2).2 hl
  by_cases hia : a' = a
  · subst hia
    have hla : a' < sh.length := (List.getElem?_eq_some_iff.mp hs).1
    rw [List.getElem?_set_self hla] at hs'
    cases hs'
    have h9 := hRel.2.2 a' _ j' hs
    exact h9
  · rw [List.getElem?_set_ne (Ne.symm hia)] at hs'
    exact hRel.2.2 a' _ j' hs'
theorem n_nlt {n : Nat} (h : n < 2147483648) : ¬ Int32.ofInt (n : Int) < 0 := by
  rw [i32_0, i32_lt (by unfold r32; omega) r32_0]; omega
theorem n_clampN {n : Nat} (h : n < 2147483648) : (Int32.ofInt (n : Int)).toNatClampNeg = n := by
  rw [i32_clamp (by unfold r32; omega)]; omega
theorem n_newaW {p : Program} {l : Launch} {e : Env} {R : Room} {s : State} {m : MethodId} {args : Array Value} {below : List Frame} {meth : Method} {c : Code} {H : Heap} {locs : List Loc} {cells slots : Nat} {Qf : State → Prop} {cc : ByteArray} {la : Array Slot} {rest : List Value} {k n : Nat} {atype : ArrayType} {ty : FieldType} (hty : newarray.typeOf atype = ty) (hk : (n_tys G)[k]? = some (g_cA G k, ty)) (hno : ∀ C, ty ≠ .object C) (hz : ∀ cA : ClassId, va_at (g_D G) vwCl (H.size, .inl (cA, n, .inl (fun _ => Int32.ofInt 0))) = va_at (g_D G) vwCl (H.size, .inl (cA, n, .inl (fun _ => Int32.ofInt 0)))) (hx : p.tables.exec = Jvm.exec) (hb : c.code = cc) (hts : ∀ w ∈ wsAll, w.before args s = true) (hK : va_K (g_D G) vwCl (n_tys G) s) (hw : Cond.arrayClass ty ∈ wsAll) (hn : n < 2147483648) (hbytes : n * componentBytes ty ≤ 536870912) (hcells : cells + 1 ≤ R.cells) (hslots : slots + n ≤ R.slots) (hd : decode cc pc = .ok (.newarray atype, 2))
    (kk : ∀ H1 : Heap, H1[H.size]? = some (arrV (g_cA G k) n (fun _ => defaultValue ty)) → H1.size = H.size + 1 → (∀ q, q < H.size → H1[q]? = H[q]?) → W p l e R s m args below meth c H1 locs (cells + 1) (slots + n) Qf (F0 m (pc + 2) la (.ref H.size :: rest))) : W p l e R s m args below meth c H locs cells slots Qf (F0 m pc la (.int (Int32.ofInt (n : Int)) :: rest)) := by
  subst hty
  refine va_newaK hx hb (hts _ hw) rfl hd rfl (n_nlt hn) (n_clampN hn) hbytes hcells hslots rfl fun H1 cA e1 z1 o1 hAr hNm => ?_
  have hRA := (hK.2 k _ hk).2
  have hc : cA = g_cA G k := by
    have h1 : s.vm.findClass ("[" ++ (newarray.typeOf atype).toString) = some (g_cA G k) := by
      cases atype <;> exact hRA
    exact Option.some.inj (hNm.symm.trans h1)
  subst hc
  exact kk H1 e1 z1 o1
theorem T_newa0 {n : Nat} (hd : decode M.2.1 pc = .ok (.newarray .int, 2)) (hw : Cond.arrayClass .int ∈ wsAll) (hn : n ≤ 100000) (K : n_T G d rc rs M (pc + 2) ls (vR sh.length :: st) (sh ++ [.inr (0, n, [])]) (setv v sh.length (fun _ => 0)) Q) : n_T G d (rc + 1) (rs + n) M pc ls (vI (n : Int) :: st) sh v Q := by
  intro p e R s m args below meth c H locs cells slots mc ms la hx hb hml hr hlk hown hnm hts hKx hdf hdl hcm hsm hmc hms hRel hS hls hst hl
  refine n_newaW (G := G) (k := 0) (ty := .int) rfl rfl (fun _ h => by cases h) (fun _ => rfl) hx hb hts hKx.1 hw (by omega) (by show n * 4 ≤ _; omega) (by omega) (by omega) hd fun H1 e1 z1 o1 => ?_
  have hat : va_at (g_D G) vwCl (g_base G + sh.length, n_ent G (.inr (0, n, [])) (fun _ => 0)) H1 := by
    show H1[g_base G + sh.length]? = some (arrV (g_cA G 0) n (fun _ => .int (Int32.ofInt 0)))
    rw [← hRel.2.1]; exact e1
  refine W.eq (g2 := F0 m (pc + 2) la ((vR sh.length :: st).map (n_gv G))) (by rw [hRel.2.1]; rfl) ?_
  exact K p e R s m args below meth c H1 locs (cells + 1) (slots + n) mc ms la hx hb hml hr hlk hown hnm hts hKx hdf hdl (by omega) (by omega) hmc hms (n_push hRel z1 o1 hat (fun j => r32_slot0 _ j)) (n_S_new hS (by omega) o1) hls (okc trivial (ok1 hst).2) hl
theorem T_newa1 {n : Nat} (hd : decode M.2.1 pc = .ok (.newarray .long, 2)) (hw : Cond.arrayClass .long ∈ wsAll) (hn : n ≤ 100000) (K : n_T G d rc rs M (pc + 2) ls (vR sh.length :: st) (sh ++ [.inr (1, n, [])]) (setv v sh.length (fun _ => 0)) Q) : n_T G d (rc + 1) (rs + n) M pc ls (vI (n : Int) :: st) sh v Q := by
  intro p e R s m args below meth c H locs cells slots mc ms la hx hb hml hr hlk hown hnm hts hKx hdf hdl hcm hsm hmc hms hRel hS hls hst hl
  refine n_newaW (G := G) (k := 1) (ty := .long) rfl rfl (fun _ h => by cases h) (fun _ => rfl) hx hb hts hKx.1 hw (by omega) (by show n * 8 ≤ _; omega) (by omega) (by omega) hd fun H1 e1 z1 o1 => ?_
  have hat : va_at (g_D G) vwCl (g_base G + sh.length, n_ent G (.inr (1, n, [])) (fun _ => 0)) H1 := by
    show H1[g_base G + sh.length]? = some (arrV (g_cA G 1) n (fun _ => .long (Int64.ofInt 0)))
    rw [← hRel.2.1]; exact e1
  refine W.eq (g2 := F0 m (pc + 2) la ((vR sh.length :: st).map (n_gv G))) (by rw [hRel.2.1]; rfl) ?_
  exact K p e R s m args below meth c H1 locs (cells + 1) (slots + n) mc ms la hx hb hml hr hlk hown hnm hts hKx hdf hdl (by omega) (by omega) hmc hms (n_push hRel z1 o1 hat (fun j => r32_slot0 _ j)) (n_S_new hS (by omega) o1) hls (okc trivial (ok1 hst).2) hl
theorem T_newa2 {n : Nat} (hd : decode M.2.1 pc = .ok (.newarray .byte, 2)) (hw : Cond.arrayClass .byte ∈ wsAll) (hn : n ≤ 100000) (K : n_T G d rc rs M (pc + 2) ls (vR sh.length :: st) (sh ++ [.inr (2, n, [])]) (setv v sh.length (fun _ => 0)) Q) : n_T G d (rc + 1) (rs + n) M pc ls (vI (n : Int) :: st) sh v Q := by
  intro p e R s m args below meth c H locs cells slots mc ms la hx hb hml hr hlk hown hnm hts hKx hdf hdl hcm hsm hmc hms hRel hS hls hst hl
  refine n_newaW (G := G) (k := 2) (ty := .byte) rfl rfl (fun _ h => by cases h) (fun _ => rfl) hx hb hts hKx.1 hw (by omega) (by show n * 1 ≤ _; omega) (by omega) (by omega) hd fun H1 e1 z1 o1 => ?_
  have hat : va_at (g_D G) vwCl (g_base G + sh.length, n_ent G (.inr (2, n, [])) (fun _ => 0)) H1 := by
    show H1[g_base G + sh.length]? = some (arrV (g_cA G 2) n (fun _ => .int (Int32.ofInt 0)))
    rw [← hRel.2.1]; exact e1
  refine W.eq (g2 := F0 m (pc + 2) la ((vR sh.length :: st).map (n_gv G))) (by rw [hRel.2.1]; rfl) ?_
  exact K p e R s m args below meth c H1 locs (cells + 1) (slots + n) mc ms la hx hb hml hr hlk hown hnm hts hKx hdf hdl (by omega) (by omega) hmc hms (n_push hRel z1 o1 hat (fun j => r32_slot0 _ j)) (n_S_new hS (by omega) o1) hls (okc trivial (ok1 hst).2) hl
end AllocRules

/-! ===== rules of n_T: fields, arrays ===== -/
def n_cls (ci : Nat) : vw_C := vwCl.getD ci (RX0, TX0, 7)
def n_clsOk (ci : Nat) : Prop := vwCl[ci]? = some (n_cls ci) ∧ (n_cls ci).2.2 = c_nf ci ∧ (∀ w ∈ u_ws (n_cls ci).1 (n_cls ci).2.1 (c_nf ci), w ∈ wsAll) ∧ (∀ k, k < c_nf ci → parseFieldDescriptor ((n_cls ci).2.1 k).2.2.1 = some (c_ft ci k)) ∧ ∀ a, a < c_nf ci → ∀ b, b < c_nf ci → a ≠ b → ((n_cls ci).2.1 a).2.1 ≠ ((n_cls ci).2.1 b).2.1
theorem wsAll_sub {ws : List Cond} (ps : List Nat) (hp : ws = ps.filterMap (fun i => lw_tbl[i]?)) (h : ws.all goodWord = true) : ∀ w ∈ ws, w ∈ wsAll := by
  intro w hw
  have h1 := List.all_eq_true.mp h w hw
  rw [hp] at hw
  obtain ⟨i, -, hi⟩ := List.mem_filterMap.mp hw
  exact wsAll_place i hi h1
/-- the link 'index' of class 'own' is field j of class ci -/
def n_F (own : String) (idx ci j : Nat) : Prop := n_clsOk ci ∧ j < c_nf ci ∧ Cond.fieldLink own idx (n_cls ci).1 ((n_cls ci).2.1 j).2.1 ((n_cls ci).2.1 j).2.2.1 ∈ wsAll ∧ ((n_cls ci).2.1 j).1 = (n_cls ci).1
def n_isI : FieldType → Bool
  | .int => true
  | .boolean => true
  | _ => false
def n_isA : FieldType → Bool
  | .object _ => true
  | .array _ => true
  | _ => false
theorem n_fs_get {G : GT} {ci k : Nat} {rs : List Nat} {f : Nat → Int} (h : k < c_nf ci) : (n_fs G ci rs f)[k]? = some (n_val G (c_ft ci k) (f k) (rs.getD k 0)) := by
  unfold n_fs
  rw [List.getElem?_map, List.getElem?_range h]
  rfl
theorem n_fs_len {G : GT} {ci : Nat} {rs : List Nat} {f : Nat → Int} : (n_fs G ci rs f).length = c_nf ci := by simp [n_fs]
theorem n_fs_set {G : GT} {ci j : Nat} {rs rs' : List Nat} {f f' : Nat → Int} {x : Value} (hx : x = n_val G (c_ft ci j) (f' j) (rs'.getD j 0)) (h : ∀ k, k ≠ j → f' k = f k ∧ rs'.getD k 0 = rs.getD k 0) : (n_fs G ci rs f).set j x = n_fs G ci rs' f' := by
  apply List.ext_getElem?
  intro i
  by_cases hl : i < c_nf ci
  · by_cases hi : i = j
    · subst hi
      rw [List.getElem?_set_self (by rw [n_fs_len]; exact hl), n_fs_get hl, hx]
    · rw [List.getElem?_set_ne (Ne.symm hi), n_fs_get hl, n_fs_get hl, (h i hi).1, (h i hi).2]
  · rw [List.getElem?_eq_none (by rw [List.length_set, n_fs_len]; omega), List.getElem?_eq_none (by rw [n_fs_len]; omega)]
theorem n_valI {G : GT} {ty : FieldType} (h : n_isI ty = true) (x : Int) (r : Nat) : n_val G ty x r = .int (Int32.ofInt x) := by
  cases ty <;> first | rfl | cases h
theorem n_valA {G : GT} {ty : FieldType} (h : n_isA ty = true) (x : Int) (r : Nat) : n_val G ty x r = va_rf (n_rf G r) := by
  cases ty <;> first | rfl | cases h
theorem n_slotI {ci j : Nat} {rs : List Nat} {x : Int} (h : n_isI (c_ft ci j) = true) : n_slot (.inl (ci, rs)) j x ↔ r32 x := by
  show (match c_ft ci j with | .long => r64 x | _ => r32 x) ↔ r32 x
  cases hc : c_ft ci j <;> first | exact Iff.rfl | (rw [hc] at h; cases h)
theorem n_slotJ {ci j : Nat} {rs : List Nat} {x : Int} (h : c_ft ci j = .long) : n_slot (.inl (ci, rs)) j x ↔ r64 x := by
  show (match c_ft ci j with | .long => r64 x | _ => r32 x) ↔ r64 x
  rw [h]
theorem n_ok_upd {sh : List Sh} {v : VT} {a j : Nat} {x : Int} {s : Sh} (h : ∀ (a : Nat) (s : Sh) (j : Nat), sh[a]? = some s → n_slot s j (v a j)) (hs : sh[a]? = some s) (hx : n_slot s j x) : ∀ (a' : Nat) (s : Sh) (j' : Nat), sh[a']? = some s → n_slot s j' (upd2 v a j x a' j') := by
  intro a' s' j' hs'
  by_cases hq : a' = a ∧ j' = j
  · obtain ⟨rfl, rfl⟩ := hq
    rw [upd2_same]
    rw [hs] at hs'
    cases hs'
    exact hx
  · rw [upd2_ne _ _ hq]
    exact h a' s' j' hs'
section HeapRules
variable {G : GT} {d rc rs : Nat} {M : MT} {pc : Nat} {ls st : List Vl} {sh : List Sh} {v : VT} {Q : Option Vl → List Sh → VT → Prop}
theorem n_getW {p : Program} {l : Launch} {e : Env} {R : Room} {s : State} {m : MethodId} {args : Array Value} {below : List Frame} {meth : Method} {c : Code} {H : Heap} {locs : List Loc} {cells slots : Nat} {Qf : State → Prop} {cc : ByteArray} {la : Array Slot} {rest : List Value} {own : String} {idx ci j a : Nat} {rs' : List Nat} (F : n_F own idx ci j) (hx : p.tables.exec = Jvm.exec) (hb : c.code = cc) (hts : ∀ w ∈ wsAll, w.before args s = true) (hown : s.vm.findClass own = some m.cls) (hK : va_K (g_D G) vwCl (n_tys G) s) (hP : va_P (g_D G) vwCl (n_ws G sh v) H) (hs : sh[a]? = some (.inl (ci, rs'))) (hd : decode cc pc = .ok (.getfield idx, 3))
    (kk : W p l e R s m args below meth c H locs cells slots Qf (F0 m (pc + 3) la (n_val G (c_ft ci j) (v a j) (rs'.getD j 0) :: rest))) : W p l e R s m args below meth c H locs cells slots Qf (F0 m pc la (.ref (g_base G + a) :: rest)) := by
  obtain ⟨⟨c1, c2, c3, c4, c5⟩, hj, hlk, hsm⟩ := F
  have hc : vwCl[ci]? = some ((n_cls ci).1, (n_cls ci).2.1, c_nf ci) := by rw [c1, ← c2]
  exact va_get (ref := (n_cls ci).1) hx hb hts c3 hown hK hP a (n_ws_get hs) hc j hj (hts _ hlk) (fun x h => by rw [hsm] at h; exact h) (n_fs_get hj) hd kk
theorem T_getI {a ci j idx : Nat} {rs' : List Nat} (hd : decode M.2.1 pc = .ok (.getfield idx, 3)) (F : n_F M.1.cls idx ci j) (hi : n_isI (c_ft ci j) = true) (hs : sh[a]? = some (.inl (ci, rs'))) (K : n_T G d rc rs M (pc + 3) ls (vI (v a j) :: st) sh v Q) : n_T G d rc rs M pc ls (vR a :: st) sh v Q := by
  intro p e R s m args below meth c H locs cells slots mc ms la hx hb hml hr hlk hown hnm hts hKx hdf hdl hcm hsm hmc hms hRel hS hls hst hl
  refine n_getW F hx hb hts hown hKx.1 hRel.1 hs hd ?_
  rw [n_valI hi]
  exact K p e R s m args below meth c H locs cells slots mc ms la hx hb hml hr hlk hown hnm hts hKx hdf hdl hcm hsm hmc hms hRel hS hls (okc ((n_slotI hi).mp (hRel.2.2 a _ j hs)) (ok1 hst).2) hl
theorem T_getJ {a ci j idx : Nat} {rs' : List Nat} (hd : decode M.2.1 pc = .ok (.getfield idx, 3)) (F : n_F M.1.cls idx ci j) (hi : c_ft ci j = .long) (hs : sh[a]? = some (.inl (ci, rs'))) (K : n_T G d rc rs M (pc + 3) ls (vJ (v a j) :: st) sh v Q) : n_T G d rc rs M pc ls (vR a :: st) sh v Q := by
  intro p e R s m args below meth c H locs cells slots mc ms la hx hb hml hr hlk hown hnm hts hKx hdf hdl hcm hsm hmc hms hRel hS hls hst hl
  refine n_getW F hx hb hts hown hKx.1 hRel.1 hs hd ?_
  rw [hi]
  exact K p e R s m args below meth c H locs cells slots mc ms la hx hb hml hr hlk hown hnm hts hKx hdf hdl hcm hsm hmc hms hRel hS hls (okc ((n_slotJ hi).mp (hRel.2.2 a _ j hs)) (ok1 hst).2) hl
theorem T_getR {a ci j idx r : Nat} {rs' : List Nat} (hd : decode M.2.1 pc = .ok (.getfield idx, 3)) (F : n_F M.1.cls idx ci j) (hi : n_isA (c_ft ci j) = true) (hs : sh[a]? = some (.inl (ci, rs'))) (hr9 : rs'.getD j 0 = r + 1) (K : n_T G d rc rs M (pc + 3) ls (vR r :: st) sh v Q) : n_T G d rc rs M pc ls (vR a :: st) sh v Q := by
  intro p e R s m args below meth c H locs cells slots mc ms la hx hb hml hr hlk hown hnm hts hKx hdf hdl hcm hsm hmc hms hRel hS hls hst hl
  refine n_getW F hx hb hts hown hKx.1 hRel.1 hs hd ?_
  rw [n_valA hi, hr9]
  exact K p e R s m args below meth c H locs cells slots mc ms la hx hb hml hr hlk hown hnm hts hKx hdf hdl hcm hsm hmc hms hRel hS hls (okc trivial (ok1 hst).2) hl
/-- a store into a field that is not final -/
theorem n_putW {p : Program} {l : Launch} {e : Env} {R : Room} {s : State} {m : MethodId} {args : Array Value} {below : List Frame} {meth : Method} {c : Code} {H : Heap} {locs : List Loc} {cells slots : Nat} {Qf : State → Prop} {cc : ByteArray} {la : Array Slot} {rest : List Value} {own : String} {idx ci j a : Nat} {rs' : List Nat} {x : Value} (F : n_F own idx ci j) (hx : p.tables.exec = Jvm.exec) (hb : c.code = cc) (hts : ∀ w ∈ wsAll, w.before args s = true) (hown : s.vm.findClass own = some m.cls) (hK : va_K (g_D G) vwCl (n_tys G) s) (hP : va_P (g_D G) vwCl (n_ws G sh v) H) (hS : va_S (n_A G) s.heap H locs) (hs : sh[a]? = some (.inl (ci, rs'))) (hfin : ((n_cls ci).2.1 j).2.2.2 = false) (hn : narrow (c_ft ci j) x = x) (hfit : fits (c_ft ci j) x = true) (hd : decode cc pc = .ok (.putfield idx, 3))
    (kk : ∀ (H1 : Heap) (locs1 : List Loc), va_P (g_D G) vwCl ((n_ws G sh v).set a (g_base G + a, .inr (ci, (n_fs G ci rs' (v a)).set j x))) H1 → H1.size = H.size → va_S (n_A G) s.heap H1 locs1 → W p l e R s m args below meth c H1 locs1 cells slots Qf (F0 m (pc + 3) la rest)) : W p l e R s m args below meth c H locs cells slots Qf (F0 m pc la (x :: .ref (g_base G + a) :: rest)) := by
  obtain ⟨⟨c1, c2, c3, c4, c5⟩, hj, hlk, hsm⟩ := F
  have hc : vwCl[ci]? = some ((n_cls ci).1, (n_cls ci).2.1, c_nf ci) := by rw [c1, ← c2]
  have hD := n_ws_D G sh v
  have he := n_ws_get (G := G) (v := v) hs
  have hap := va_apart (own := own) hts c3 (c_ft ci) c4 c5 hK hc
  obtain ⟨r, h1, cell, q1, q2, q3, q4⟩ := hP a _ he
  have hr : r = ((n_cls ci).1, (n_cls ci).2.1, c_nf ci) := Option.some.inj (h1.symm.trans hc)
  subst hr
  obtain ⟨hS2, hfc, kC, hkC, hkind⟩ := hK.1 ci _ hc
  obtain ⟨cf, kf, fi, f, hi, hsl⟩ := hS2 j hj
  have hlay := hts _ (c3 _ (u_in_lay hj))
  unfold u_lay at hlay
  rw [if_neg (by rw [hfin]; decide)] at hlay
  have hst := (u_facts hfc hkC (u_lays hts c3 hj) hi).1
  have h6 := u_store hfc hkC hkind hlay hi (c4 j hj) hn hfit
  refine W.putK hx hb (f := f) (ref := (n_cls ci).1) ⟨hown, hts _ hlk, ⟨_, _, _, by rw [← hsm]; exact hi⟩, hst⟩ (by rw [q2]; exact h6) q1 q3 (by rw [hsl]; exact k2_hasslot (q4 j hj)) rfl rfl hd fun H' e1 e2 e3 => ?_
  rw [hsl] at e1 ⊢
  exact kk H' _ (hP.set hD he ⟨_, hc, t_OB.to (V := updV (vp_V (n_fs G ci rs' (v a))) j x) ⟨_, e1, q2, q3, t_set q4 hap hj x⟩ (fun i _ => vp_updV_set (by rw [n_fs_len]; exact hj) x i)⟩ e3) e2 (hS.put e2 e3 (hD.2 a _ he))
theorem n_putN {x : Int} {y : Value} {ci a j : Nat} {rs' : List Nat} {H : Heap} (hs : sh[a]? = some (.inl (ci, rs'))) (hA : n_isA (c_ft ci j) = false) (hy : y = n_val G (c_ft ci j) x 0) (hok : n_slot (.inl (ci, rs')) j x) (hz : H.size = g_base G + sh.length) (h3 : ∀ (a : Nat) (s : Sh) (j : Nat), sh[a]? = some s → n_slot s j (v a j)) (hP : va_P (g_D G) vwCl ((n_ws G sh v).set a (g_base G + a, .inr (ci, (n_fs G ci rs' (v a)).set j y))) H) : n_Rel G sh (upd2 v a j x) H := by
  refine ⟨?_, hz, n_ok_upd h3 hs hok⟩
  rw [n_ws_set (v' := upd2 v a j x) hs (fun a' h => upd2_off v j x h)] at hP
  · exact hP
  · show Sum.inr (ci, _) = Sum.inr (ci, n_fs G ci rs' (upd2 v a j x a))
    rw [n_fs_set (f' := upd2 v a j x a) (rs' := rs')]
    · rw [upd2_same, hy]
      cases hc : c_ft ci j <;> first | rfl | (rw [hc] at hA; cases hA)
    · intro k hk
      exact ⟨upd2_ne v x (fun h => hk h.2), rfl⟩
theorem T_putI {a ci j idx : Nat} {x : Int} {rs' : List Nat} (hd : decode M.2.1 pc = .ok (.putfield idx, 3)) (F : n_F M.1.cls idx ci j) (hfin : ((n_cls ci).2.1 j).2.2.2 = false) (hi : c_ft ci j = .int) (hs : sh[a]? = some (.inl (ci, rs'))) (K : n_T G d rc rs M (pc + 3) ls st sh (upd2 v a j x) Q) : n_T G d rc rs M pc ls (vI x :: vR a :: st) sh v Q := by
  intro p e R s m args below meth c H locs cells slots mc ms la hx hb hml hr hlk hown hnm hts hKx hdf hdl hcm hsm hmc hms hRel hS hls hst hl
  have h0 : r32 x := (ok1 hst).1
  refine n_putW (x := .int (Int32.ofInt x)) F hx hb hts hown hKx.1 hRel.1 hS hs hfin (by rw [hi]; rfl) (by rw [hi]; rfl) hd (fun H1 locs1 hP1 hz hS1 => ?_)
  exact K p e R s m args below meth c H1 locs1 cells slots mc ms la hx hb hml hr hlk hown hnm hts hKx hdf hdl hcm hsm hmc hms (n_putN (x := x) hs (by rw [hi]; rfl) (by rw [hi]; rfl) ((n_slotI (by rw [hi]; rfl)).mpr h0) (hz.trans hRel.2.1) hRel.2.2 hP1) hS1 hls (ok1 (ok1 hst).2).2 hl
theorem T_putZ {a ci j idx : Nat} {x : Int} {rs' : List Nat} (hd : decode M.2.1 pc = .ok (.putfield idx, 3)) (F : n_F M.1.cls idx ci j) (hfin : ((n_cls ci).2.1 j).2.2.2 = false) (hi : c_ft ci j = .boolean) (hs : sh[a]? = some (.inl (ci, rs'))) (h01 : x = 0 ∨ x = 1) (K : n_T G d rc rs M (pc + 3) ls st sh (upd2 v a j x) Q) : n_T G d rc rs M pc ls (vI x :: vR a :: st) sh v Q := by
  intro p e R s m args below meth c H locs cells slots mc ms la hx hb hml hr hlk hown hnm hts hKx hdf hdl hcm hsm hmc hms hRel hS hls hst hl
  have h0 : r32 x := (ok1 hst).1
  refine n_putW (x := .int (Int32.ofInt x)) F hx hb hts hown hKx.1 hRel.1 hS hs hfin (by rw [hi]; rcases h01 with rfl | rfl <;> decide) (by rw [hi]; rcases h01 with rfl | rfl <;> decide) hd (fun H1 locs1 hP1 hz hS1 => ?_)
  exact K p e R s m args below meth c H1 locs1 cells slots mc ms la hx hb hml hr hlk hown hnm hts hKx hdf hdl hcm hsm hmc hms (n_putN (x := x) hs (by rw [hi]; rfl) (by rw [hi]; rfl) ((n_slotI (by rw [hi]; rfl)).mpr h0) (hz.trans hRel.2.1) hRel.2.2 hP1) hS1 hls (ok1 (ok1 hst).2).2 hl
theorem T_putJ {a ci j idx : Nat} {x : Int} {rs' : List Nat} (hd : decode M.2.1 pc = .ok (.putfield idx, 3)) (F : n_F M.1.cls idx ci j) (hfin : ((n_cls ci).2.1 j).2.2.2 = false) (hi : c_ft ci j = .long) (hs : sh[a]? = some (.inl (ci, rs'))) (K : n_T G d rc rs M (pc + 3) ls st sh (upd2 v a j x) Q) : n_T G d rc rs M pc ls (vJ x :: vR a :: st) sh v Q := by
  intro p e R s m args below meth c H locs cells slots mc ms la hx hb hml hr hlk hown hnm hts hKx hdf hdl hcm hsm hmc hms hRel hS hls hst hl
  have h0 : r64 x := (ok1 hst).1
  refine n_putW (x := .long (Int64.ofInt x)) F hx hb hts hown hKx.1 hRel.1 hS hs hfin (by rw [hi]; rfl) (by rw [hi]; rfl) hd (fun H1 locs1 hP1 hz hS1 => ?_)
  exact K p e R s m args below meth c H1 locs1 cells slots mc ms la hx hb hml hr hlk hown hnm hts hKx hdf hdl hcm hsm hmc hms (n_putN (x := x) hs (by rw [hi]; rfl) (by rw [hi]; rfl) ((n_slotJ hi).mpr h0) (hz.trans hRel.2.1) hRel.2.2 hP1) hS1 hls (ok1 (ok1 hst).2).2 hl
/-! arrays -/
theorem n_slotA {k n j : Nat} {r : List Nat} {x : Int} (h : k ≠ 1) : n_slot (.inr (k, n, r)) j x ↔ r32 x := by
  match k, h with
  | 0, _ => exact Iff.rfl
  | 1, h => exact absurd rfl h
  | k + 2, _ => exact Iff.rfl
theorem T_iald {a n : Nat} {r : List Nat} {i : Int} (hd : decode M.2.1 pc = .ok (.iaload, 1)) (hs : sh[a]? = some (.inr (0, n, r))) (hi : 0 ≤ i ∧ i < n) (K : n_T G d rc rs M (pc + 1) ls (vI (v a i.toNat) :: st) sh v Q) : n_T G d rc rs M pc ls (vI i :: vR a :: st) sh v Q := by
  intro p e R s m args below meth c H locs cells slots mc ms la hx hb hml hr hlk hown hnm hts hKx hdf hdl hcm hsm hmc hms hRel hS hls hst hl
  have h0 : r32 i := (ok1 hst).1
  refine va_iald hx hb hKx.1 hRel.1 a 0 (n_ws_get hs) rfl (i32_in h0 hi) hd ?_
  rw [i32_clamp h0]
  exact K p e R s m args below meth c H locs cells slots mc ms la hx hb hml hr hlk hown hnm hts hKx hdf hdl hcm hsm hmc hms hRel hS hls (okc ((n_slotA (by decide)).mp (hRel.2.2 a _ i.toNat hs)) (ok1 (ok1 hst).2).2) hl
theorem T_bald {a n : Nat} {r : List Nat} {i : Int} (hd : decode M.2.1 pc = .ok (.baload, 1)) (hs : sh[a]? = some (.inr (2, n, r))) (hi : 0 ≤ i ∧ i < n) (K : n_T G d rc rs M (pc + 1) ls (vI (v a i.toNat) :: st) sh v Q) : n_T G d rc rs M pc ls (vI i :: vR a :: st) sh v Q := by
  intro p e R s m args below meth c H locs cells slots mc ms la hx hb hml hr hlk hown hnm hts hKx hdf hdl hcm hsm hmc hms hRel hS hls hst hl
  have h0 : r32 i := (ok1 hst).1
  refine va_bald hx hb hKx.1 hRel.1 a 2 (n_ws_get hs) rfl (i32_in h0 hi) hd ?_
  rw [i32_clamp h0]
  exact K p e R s m args below meth c H locs cells slots mc ms la hx hb hml hr hlk hown hnm hts hKx hdf hdl hcm hsm hmc hms hRel hS hls (okc ((n_slotA (by decide)).mp (hRel.2.2 a _ i.toNat hs)) (ok1 (ok1 hst).2).2) hl
theorem T_lald {a n : Nat} {r : List Nat} {i : Int} (hd : decode M.2.1 pc = .ok (.laload, 1)) (hs : sh[a]? = some (.inr (1, n, r))) (hi : 0 ≤ i ∧ i < n) (K : n_T G d rc rs M (pc + 1) ls (vJ (v a i.toNat) :: st) sh v Q) : n_T G d rc rs M pc ls (vI i :: vR a :: st) sh v Q := by
  intro p e R s m args below meth c H locs cells slots mc ms la hx hb hml hr hlk hown hnm hts hKx hdf hdl hcm hsm hmc hms hRel hS hls hst hl
  have h0 : r32 i := (ok1 hst).1
  refine va_lald hx hb hKx.1 hRel.1 a 1 (n_ws_get hs) rfl (i32_in h0 hi) hd ?_
  rw [i32_clamp h0]
  exact K p e R s m args below meth c H locs cells slots mc ms la hx hb hml hr hlk hown hnm hts hKx hdf hdl hcm hsm hmc hms hRel hS hls (okc (show r64 _ from hRel.2.2 a _ i.toNat hs) (ok1 (ok1 hst).2).2) hl
/-- a row of int[][] -/
theorem T_aald3 {a n q : Nat} {r : List Nat} {i : Int} (hd : decode M.2.1 pc = .ok (.aaload, 1)) (hs : sh[a]? = some (.inr (3, n, r))) (hi : 0 ≤ i ∧ i < n) (hq : r.getD i.toNat 0 = q + 1) (K : n_T G d rc rs M (pc + 1) ls (vR q :: st) sh v Q) : n_T G d rc rs M pc ls (vI i :: vR a :: st) sh v Q := by
  intro p e R s m args below meth c H locs cells slots mc ms la hx hb hml hr hlk hown hnm hts hKx hdf hdl hcm hsm hmc hms hRel hS hls hst hl
  have h0 : r32 i := (ok1 hst).1
  have hin := i32_in h0 hi
  have hlt : (Int32.ofInt i).toNatClampNeg < n := Nat.not_le.mp fun q => hin (Or.inr q)
  have hc : H[g_base G + a]? = some (arrV (g_cA G 3) n (fun j => va_rf (n_rf G (r.getD j 0)))) := hRel.1 a _ (n_ws_get hs)
  refine W.aald (v := va_rf (n_rf G (r.getD (Int32.ofInt i).toNatClampNeg 0))) (ty := .array .int) hx hb hc ((hKx.1.2 3 (g_cA G 3, .array .int) rfl).1 n _) rfl (fun q => by cases q) (by rw [arrV_size]; exact hin) (by rw [arrV_read _ _ hlt]) rfl rfl hd ?_
  rw [i32_clamp h0, hq]
  exact K p e R s m args below meth c H locs cells slots mc ms la hx hb hml hr hlk hown hnm hts hKx hdf hdl hcm hsm hmc hms hRel hS hls (okc trivial (ok1 (ok1 hst).2).2) hl
theorem T_aald4 {a n q : Nat} {r : List Nat} {i : Int} (hd : decode M.2.1 pc = .ok (.aaload, 1)) (hs : sh[a]? = some (.inr (4, n, r))) (hi : 0 ≤ i ∧ i < n) (hq : r.getD i.toNat 0 = q + 1) (K : n_T G d rc rs M (pc + 1) ls (vR q :: st) sh v Q) : n_T G d rc rs M pc ls (vI i :: vR a :: st) sh v Q := by
  intro p e R s m args below meth c H locs cells slots mc ms la hx hb hml hr hlk hown hnm hts hKx hdf hdl hcm hsm hmc hms hRel hS hls hst hl
  have h0 : r32 i := (ok1 hst).1
  refine va_aldq hx hb hKx.1 hRel.1 a 4 (n_ws_get hs) rfl (i32_in h0 hi) hd ?_
  rw [i32_clamp h0]
  show W _ _ _ _ _ _ _ _ _ _ _ _ _ _ _ (F0 m (pc + 1) la (va_rf (n_rf G (r.getD i.toNat 0)) :: _))
  rw [hq]
  exact K p e R s m args below meth c H locs cells slots mc ms la hx hb hml hr hlk hown hnm hts hKx hdf hdl hcm hsm hmc hms hRel hS hls (okc trivial (ok1 (ok1 hst).2).2) hl
def n_ak : Nat → FieldType
  | 0 => .int
  | 1 => .long
  | 2 => .byte
  | 3 => .array .int
  | _ => .object "CubeNets$Graph"
theorem T_alen {a n k : Nat} {r : List Nat} (hd : decode M.2.1 pc = .ok (.arraylength, 1)) (hs : sh[a]? = some (.inr (k, n, r))) (hn : n < 2147483648) (K : n_T G d rc rs M (pc + 1) ls (vI (n : Int) :: st) sh v Q) : n_T G d rc rs M pc ls (vR a :: st) sh v Q := by
  intro p e R s m args below meth c H locs cells slots mc ms la hx hb hml hr hlk hown hnm hts hKx hdf hdl hcm hsm hmc hms hRel hS hls hst hl
  have K' := K p e R s m args below meth c H locs cells slots mc ms la hx hb hml hr hlk hown hnm hts hKx hdf hdl hcm hsm hmc hms hRel hS hls (okc (by show r32 _; unfold r32; omega) (ok1 hst).2) hl
  have en : Int32.ofNat n = Int32.ofInt (n : Int) := Int32.ofInt_eq_ofNat.symm
  match k, hs with
  | 0, hs => exact va_alen hx hb hKx.1 hRel.1 a 0 (n_ws_get hs) (ty := .int) rfl en hd K'
  | 1, hs => exact va_alen hx hb hKx.1 hRel.1 a 1 (n_ws_get hs) (ty := .long) rfl en hd K'
  | 2, hs => exact va_alen hx hb hKx.1 hRel.1 a 2 (n_ws_get hs) (ty := .byte) rfl en hd K'
  | 3, hs => exact va_alen hx hb hKx.1 hRel.1 a 3 (n_ws_get hs) (ty := .array .int) rfl en hd K'
  | k + 4, hs => exact va_alen hx hb hKx.1 hRel.1 a 4 (n_ws_get hs) (ty := .object "CubeNets$Graph") rfl en hd K'
theorem n_relA {a : Nat} {s : Sh} {H H1 : Heap} {j : Nat} {x : Int} (hs : sh[a]? = some s) (hRel : n_Rel G sh v H) (hok : n_slot s j x) (hat : va_at (g_D G) vwCl (g_base G + a, n_ent G s (upd2 v a j x a)) H1) (hz : H1.size = H.size) (oq : ∀ q : Nat, q ≠ g_base G + a → H1[q]? = H[q]?) : n_Rel G sh (upd2 v a j x) H1 := by
  refine ⟨?_, hz.trans hRel.2.1, n_ok_upd hRel.2.2 hs hok⟩
  have h1 := hRel.1.set (n_ws_D G sh v) (n_ws_get hs) hat oq
  rwa [n_ws_set (v' := upd2 v a j x) hs (fun a' h => upd2_off v j x h) rfl] at h1
theorem T_iast {a n : Nat} {r : List Nat} {i x : Int} (hd : decode M.2.1 pc = .ok (.iastore, 1)) (hs : sh[a]? = some (.inr (0, n, r))) (hi : 0 ≤ i ∧ i < n) (K : n_T G d rc rs M (pc + 1) ls st sh (upd2 v a i.toNat x) Q) : n_T G d rc rs M pc ls (vI x :: vI i :: vR a :: st) sh v Q := by
  intro p e R s m args below meth c H locs cells slots mc ms la hx hb hml hr hlk hown hnm hts hKx hdf hdl hcm hsm hmc hms hRel hS hls hst hl
  have hr0 : r32 x := (ok1 hst).1
  have h0 : r32 i := (ok1 (ok1 hst).2).1
  have hin := i32_in h0 hi
  have hc : H[g_base G + a]? = some (arrV (g_cA G 0) n (fun j => .int (Int32.ofInt (v a j)))) := hRel.1 a _ (n_ws_get hs)
  refine W.iast hx hb hc ((hKx.1.2 0 (g_cA G 0, .int) rfl).1 n _) (fun q => by cases q) (by rw [arrV_size]; exact hin) rfl rfl hd fun H1 e1 z oq => ?_
  refine K p e R s m args below meth c H1 _ cells slots mc ms la hx hb hml hr hlk hown hnm hts hKx hdf hdl hcm hsm hmc hms (n_relA hs hRel ((n_slotA (by decide)).mpr hr0) ?_ z oq) (hS.put z oq (Nat.le_add_right _ _)) hls (ok1 (ok1 (ok1 hst).2).2).2 hl
  show H1[g_base G + a]? = some (arrV (g_cA G 0) n (fun j => .int (Int32.ofInt (upd2 v a i.toNat x a j))))
  rw [e1, i32_clamp h0, arrV_store]
  congr 2
  funext q
  by_cases hq : q = i.toNat
  · subst hq; simp [updV, upd2]
  · simp [updV, upd2, hq]
theorem T_last {a n : Nat} {r : List Nat} {i x : Int} (hd : decode M.2.1 pc = .ok (.lastore, 1)) (hs : sh[a]? = some (.inr (1, n, r))) (hi : 0 ≤ i ∧ i < n) (K : n_T G d rc rs M (pc + 1) ls st sh (upd2 v a i.toNat x) Q) : n_T G d rc rs M pc ls (vJ x :: vI i :: vR a :: st) sh v Q := by
  intro p e R s m args below meth c H locs cells slots mc ms la hx hb hml hr hlk hown hnm hts hKx hdf hdl hcm hsm hmc hms hRel hS hls hst hl
  have hr0 : r64 x := (ok1 hst).1
  have h0 : r32 i := (ok1 (ok1 hst).2).1
  have hin := i32_in h0 hi
  have hc : H[g_base G + a]? = some (arrV (g_cA G 1) n (fun j => .long (Int64.ofInt (v a j)))) := hRel.1 a _ (n_ws_get hs)
  refine W.last hx hb hc ((hKx.1.2 1 (g_cA G 1, .long) rfl).1 n _) (fun q => by cases q) (by rw [arrV_size]; exact hin) rfl rfl hd fun H1 e1 z oq => ?_
  refine K p e R s m args below meth c H1 _ cells slots mc ms la hx hb hml hr hlk hown hnm hts hKx hdf hdl hcm hsm hmc hms (n_relA hs hRel (show r64 x from hr0) ?_ z oq) (hS.put z oq (Nat.le_add_right _ _)) hls (ok1 (ok1 (ok1 hst).2).2).2 hl
  show H1[g_base G + a]? = some (arrV (g_cA G 1) n (fun j => .long (Int64.ofInt (upd2 v a i.toNat x a j))))
  rw [e1, i32_clamp h0, arrV_store]
  congr 2
  funext q
  by_cases hq : q = i.toNat
  · subst hq; simp [updV, upd2]
  · simp [updV, upd2, hq]
theorem i_b_nar (x : Int) : narrow .byte (.int (Int32.ofInt x)) = .int (Int32.ofInt (i_b x)) := by
  show Value.int (Int32.ofInt x).toInt8.toInt32 = _
  rw [i_b, Int32_ofInt_toInt']
theorem T_bast {a n : Nat} {r : List Nat} {i x : Int} (hd : decode M.2.1 pc = .ok (.bastore, 1)) (hs : sh[a]? = some (.inr (2, n, r))) (hi : 0 ≤ i ∧ i < n) (K : n_T G d rc rs M (pc + 1) ls st sh (upd2 v a i.toNat (i_b x)) Q) : n_T G d rc rs M pc ls (vI x :: vI i :: vR a :: st) sh v Q := by
  intro p e R s m args below meth c H locs cells slots mc ms la hx hb hml hr hlk hown hnm hts hKx hdf hdl hcm hsm hmc hms hRel hS hls hst hl
  have h0 : r32 i := (ok1 (ok1 hst).2).1
  have hin := i32_in h0 hi
  have hc : H[g_base G + a]? = some (arrV (g_cA G 2) n (fun j => .int (Int32.ofInt (v a j)))) := hRel.1 a _ (n_ws_get hs)
  refine W.bast hx hb hc ((hKx.1.2 2 (g_cA G 2, .byte) rfl).1 n _) (fun q => by cases q) (by rw [arrV_size]; exact hin) rfl rfl hd fun H1 e1 z oq => ?_
  refine K p e R s m args below meth c H1 _ cells slots mc ms la hx hb hml hr hlk hown hnm hts hKx hdf hdl hcm hsm hmc hms (n_relA hs hRel ((n_slotA (by decide)).mpr (r32_toInt _)) ?_ z oq) (hS.put z oq (Nat.le_add_right _ _)) hls (ok1 (ok1 (ok1 hst).2).2).2 hl
  show H1[g_base G + a]? = some (arrV (g_cA G 2) n (fun j => .int (Int32.ofInt (upd2 v a i.toNat (i_b x) a j))))
  rw [e1, i32_clamp h0, i_b_nar, arrV_store]
  congr 2
  funext q
  by_cases hq : q = i.toNat
  · subst hq; simp [updV, upd2]
  · simp [updV, upd2, hq]
/-- the script -/
theorem T_sld {i : Int} (hd : decode M.2.1 pc = .ok (.iaload, 1)) (hi : 0 ≤ i ∧ i < (g_L G : Int)) (K : n_T G d rc rs M (pc + 1) ls (vI (w32 (g_xs G i.toNat)) :: st) sh v Q) : n_T G d rc rs M pc ls (vI i :: vS 0 :: st) sh v Q := by
  intro p e R s m args below meth c H locs cells slots mc ms la hx hb hml hr hlk hown hnm hts hKx hdf hdl hcm hsm hmc hms hRel hS hls hst hl
  have h0 : r32 i := (ok1 hst).1
  obtain ⟨-, -, -, -, ⟨hbs, hX, hb0⟩, -⟩ := id hKx
  refine va_sld hx hb hX (Nat.lt_of_lt_of_le hb0 hbs) (fun h => by have h : g_base G ≤ g_sp G 0 := h; omega) hS (i32_in h0 hi) hd ?_
  rw [i32_clamp h0, ← of_w32]
  exact K p e R s m args below meth c H locs cells slots mc ms la hx hb hml hr hlk hown hnm hts hKx hdf hdl hcm hsm hmc hms hRel hS hls (okc (w32_r _) (ok1 (ok1 hst).2).2) hl
theorem T_slen (hd : decode M.2.1 pc = .ok (.arraylength, 1)) (hn : g_L G < 2147483648) (K : n_T G d rc rs M (pc + 1) ls (vI (g_L G : Int) :: st) sh v Q) : n_T G d rc rs M pc ls (vS 0 :: st) sh v Q := by
  intro p e R s m args below meth c H locs cells slots mc ms la hx hb hml hr hlk hown hnm hts hKx hdf hdl hcm hsm hmc hms hRel hS hls hst hl
  obtain ⟨-, -, -, -, ⟨hbs, hX, hb0⟩, -⟩ := id hKx
  refine va_slen hx hb hX (Nat.lt_of_lt_of_le hb0 hbs) (fun h => by have h : g_base G ≤ g_sp G 0 := h; omega) hS hd ?_
  rw [← Int32.ofInt_eq_ofNat]
  exact K p e R s m args below meth c H locs cells slots mc ms la hx hb hml hr hlk hown hnm hts hKx hdf hdl hcm hsm hmc hms hRel hS hls (okc (by show r32 _; unfold r32; omega) (ok1 hst).2) hl
end HeapRules

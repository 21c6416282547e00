/-! ===== rules of n_T: calls ===== -/
def n_room (d rc rs : Nat) : Room := { frames := d, cells := rc, slots := rs, locals := 64 * d }
def n_wsM (M : MT) : List Cond := .code M.1 M.2.1 M.2.2.1 M.2.2.2 :: wsAll
def n_Pc (G : GT) (as : List Vl) (sh : List Sh) (v : VT) : Array Value → State → Prop := fun av U => av = (as.map (n_gv G)).toArray ∧ n_Rel G sh v U.heap ∧ n_Kx G U ∧ ∀ x ∈ as, n_okv x
/-- locals at the entry: a long takes two places -/
def n_lay : List Vl → List Vl
  | [] => []
  | x :: r => if n_isJ x = true then x :: vS 9 :: n_lay r else x :: n_lay r
def n_ini (M : MT) (as : List Vl) : List Vl := n_lay as ++ List.replicate (M.2.2.1 - (n_lay as).length) (vS 9)
theorem n_cat2 {G : GT} {x : Vl} (h : n_isJ x = true) : (n_gv G x).category = 2 := by
  match x, h with
  | .inr (.inl _), _ => rfl
theorem n_sl_len {G : GT} : ∀ as : List Vl, (lg_sl (as.map (n_gv G))).length = (n_lay as).length
  | [] => rfl
  | x :: r => by
    have ih := n_sl_len (G := G) r
    unfold lg_sl at ih ⊢
    rw [List.map_cons, List.flatMap_cons, List.length_append, ih]
    by_cases h : n_isJ x = true
    · have e : n_lay (x :: r) = x :: vS 9 :: n_lay r := if_pos h
      rw [e, if_pos (n_cat2 h)]; simp; omega
    · have h' : n_isJ x = false := by simpa using h
      have e : n_lay (x :: r) = x :: n_lay r := if_neg h
      rw [e, if_neg (by rw [n_cat1 h']; decide)]; simp; omega
theorem n_asc_rep {G : GT} : ∀ (k i : Nat), n_asc G i (List.replicate k (vS 9)) = []
  | 0, _ => rfl
  | k + 1, i => by
    rw [List.replicate_succ, n_asc_skip rfl]
    exact n_asc_rep k (i + 1)
theorem n_asc_ini {G : GT} (k : Nat) : ∀ (as : List Vl) (i : Nat) (q : Nat × Value), q ∈ n_asc G i (n_lay as ++ List.replicate k (vS 9)) → q ∈ lv_args i (as.map (n_gv G))
  | [], i, q, h => by
    rw [show n_lay [] ++ List.replicate k (vS 9) = List.replicate k (vS 9) from rfl, n_asc_rep] at h
    cases h
  | x :: r, i, q, h => by
    rw [List.map_cons]
    unfold lv_args
    by_cases hj : n_isJ x = true
    · have e : n_lay (x :: r) = x :: vS 9 :: n_lay r := if_pos hj
      have hnx : n_nd x = true := by
        match x, hj with
        | .inr (.inl _), _ => rfl
      rw [e, List.cons_append, List.cons_append, n_asc_cons hnx, n_asc_skip (x := vS 9) rfl] at h
      rw [if_pos (n_cat2 hj)]
      rcases List.mem_cons.mp h with h | h
      · rw [h]; exact List.mem_cons_self
      · exact List.mem_cons_of_mem _ (n_asc_ini k r (i + 2) q h)
    · have hj' : n_isJ x = false := by simpa using hj
      have e : n_lay (x :: r) = x :: n_lay r := if_neg hj
      rw [e, List.cons_append] at h
      rw [if_neg (by rw [n_cat1 hj']; decide)]
      by_cases hnx : n_nd x = true
      · rw [n_asc_cons hnx] at h
        rcases List.mem_cons.mp h with h | h
        · rw [h]; exact List.mem_cons_self
        · exact List.mem_cons_of_mem _ (n_asc_ini k r (i + 1) q h)
      · rw [n_asc_skip (by simpa using hnx)] at h
        exact List.mem_cons_of_mem _ (n_asc_ini k r (i + 1) q h)
theorem n_ini_ok {M : MT} {as : List Vl} (h : ∀ x ∈ as, n_okv x) : ∀ x ∈ n_ini M as, n_okv x := by
  intro x hx
  unfold n_ini at hx
  rcases List.mem_append.mp hx with hx | hx
  · have key : ∀ (l : List Vl), (∀ x ∈ l, n_okv x) → ∀ x ∈ n_lay l, n_okv x := by
      intro l
      induction l with
      | nil => intro _ x hx; cases hx
      | cons y r ih =>
        intro hl
        unfold n_lay
        split
        · exact okc (ok1 hl).1 (okc trivial (ih (ok1 hl).2))
        · exact okc (ok1 hl).1 (ih (ok1 hl).2)
    exact key as h x hx
  · rw [(List.mem_replicate.mp hx).2]; trivial
theorem n_Kx_same {G : GT} {u U : State} (hv : U.vm = u.vm) (hh : U.heap = u.heap) (h : n_Kx G u) : n_Kx G U := by
  obtain ⟨k1, k2, k3, k4, ⟨k5, k6, k7⟩, k8, k9, k10, k11, k12⟩ := h
  have hal : u.vm.Alike U.vm := by rw [hv]; exact Vm.Alike.refl _
  refine ⟨va_K.moved hal k1, fun w hw => ?_, va_AO.moved hal k3, va_AOB.moved hal k4, ⟨by rw [hh]; exact k5, ?_, k7⟩, k8.same hv, k9.same hv, ?_, by rw [hh]; exact va_Z.moved hal k11, by rw [hh]; exact va_Z.moved hal k12⟩
  · refine va_Nw.same ?_ hv.symm (k2 w hw)
    have := (List.mem_filter.mp hw).2
    cases w <;> first | rfl | cases this
  · rw [hh]; exact va_X.moved hal k6
  · rw [hh]; exact vk_S.moved hal k10
theorem n_Kx_warm {G : GT} {s U : State} (hW : s.WarmedH U.vm) (hz : s.heap.size ≤ U.heap.size) (hk : ∀ q : Nat, q < s.heap.size → ¬ n_A G q → U.heap[q]? = s.heap[q]?) (h : n_Kx G s) : n_Kx G U := by
  obtain ⟨k1, k2, k3, k4, ⟨k5, k6, k7⟩, k8, k9, k10, k11, k12⟩ := h
  have hal := hW.alike
  refine ⟨va_K.moved hal k1, fun w hw => ?_, va_AO.moved hal k3, va_AOB.moved hal k4, ⟨Nat.le_trans k5 hz, ?_, k7⟩, k8.warm hW, k9.warm hW, ?_, (va_Z.moved hal k11).kept hk, (va_Z.moved hal k12).kept hk⟩
  · have h1 := (List.mem_filter.mp hw).2
    have h2 := k2 w hw
    cases w <;> first | exact va_Nw.warmM hW h2 | cases h1
  · exact (va_X.moved hal k6).kept (hk _ (Nat.lt_of_lt_of_le k7 k5) (fun q => by have q : g_base G ≤ g_sp G 0 := q; omega))
  · exact (vk_S.moved hal k10).kept hk
theorem n_blind (G : GT) (as : List Vl) (sh : List Sh) (v : VT) : FrameBlind (n_Pc G as sh v) := by
  intro a U g mk h
  obtain ⟨h1, h2, h3, h4⟩ := h
  exact ⟨h1, h2, n_Kx_same (u := U) rfl rfl h3, h4⟩
theorem n_met {G : GT} {d rc rs : Nat} {M : MT} {as ls0 : List Vl} {sh : List Sh} {v : VT} {Q : Option Vl → List Sh → VT → Prop} (hpl : plainName M.1.cls = true) (hsz : (n_lay as).length ≤ M.2.2.1) (hini : n_ini M as = ls0) (T0 : n_T G d rc rs M 0 ls0 [] sh v Q) : Met (g_l G) M.1 (n_wsM M) (n_room d rc rs) (n_Pc G as sh v) (n_Qc G Q) rc rs (n_A G) := by
  subst hini
  refine Met.ofW (cc := M.2.1) (maxL := M.2.2.1) (ret := M.2.2.2) hpl rfl ?_
  intro p e s m args below meth c s₁ B hml hv
  obtain ⟨rfl, hRel, hKx, hok⟩ := hv
  have hts := atoms_spec (ws := n_wsM M) B.pre
  have hown : s.vm.findClass M.1.cls = some m.cls := findClass_of_methodNamed B.named
  have hl := lv_entry (as.map (n_gv G)) (n := M.2.2.1) (by rw [n_sl_len]; exact hsz)
  rw [lg_entry_eq]
  refine T0 p e (n_room d rc rs) s m _ below meth c s.heap [] 0 0 rc rs _ B.exec B.bytes hml B.returns B.notSynchronized hown (name_of_methodNamed B.named B.method).1 (fun w h => hts w (List.mem_cons_of_mem _ h)) hKx (Nat.le_refl _) (Nat.le_refl _) (by omega) (by omega) (Nat.le_refl _) (Nat.le_refl _) hRel va_S.rf (n_ini_ok hok) (fun x h => by cases h) ⟨hl.1, hl.2.1, fun q hq => hl.2.2 q (n_asc_ini _ as 0 q hq)⟩
def n_ctg (x : Vl) : Nat := if n_isJ x = true then 2 else 1
theorem n_ctg_eq (G : GT) (st : List Vl) : ((st.map (n_gv G)).map fun v => v.category).sum = (st.map n_ctg).sum := by
  induction st with
  | nil => rfl
  | cons x r ih =>
    rw [List.map_cons, List.map_cons, List.sum_cons, ih, List.map_cons, List.sum_cons]
    congr 1
    unfold n_ctg
    by_cases h : n_isJ x = true
    · rw [if_pos h, n_cat2 h]
    · rw [if_neg h, n_cat1 (by simpa using h)]
/-- what is known of a method, that it may be called -/
def n_M (M : MT) (n : Nat) : Prop := plainName M.1.cls = true ∧ Cond.code M.1 M.2.1 M.2.2.1 M.2.2.2 ∈ wsAll ∧ Cond.initialized M.1.cls ∈ wsAll ∧ (M.1.cls ≠ "java/lang/invoke/MethodHandle" ∧ M.1.cls ≠ "java/lang/invoke/VarHandle") ∧ M.2.2.1 ≤ 45 ∧ (parseMethodDescriptor M.1.desc).map (fun d => d.parameters.length) = some n
def n_MV (M : MT) (n : Nat) : Prop := n_M M n ∧ Cond.instanceMethod M.1 ∈ wsAll ∧ Cond.selects M.1.cls M.1 M.1 ∈ wsAll
def n_MS (M : MT) (n : Nat) : Prop := n_M M n ∧ Cond.static M.1 ∈ wsAll
def n_MI (M : MT) (n : Nat) : Prop := n_M M n ∧ Cond.instanceMethod M.1 ∈ wsAll ∧ M.1.name = "<init>" ∧ M.2.2.2 = none
theorem n_good {w : Cond} (h : w ∈ wsAll) : (w.onTables && w.keeps) = true ∨ ∃ ty, w = .arrayClass ty := good_of_word (List.mem_filter.mp h).2
theorem n_pay {args : Array Value} {s : State} {N : MT} {n : Nat} (hN : n_M N n) (hts : ∀ w ∈ wsAll, w.before args s = true) : ∀ w ∈ n_wsM N, ∀ (a' : Array Value) (U : State), s.WarmedH U.vm → w.before a' U = true := by
  intro w hw
  have hw' : w ∈ wsAll := by
    rcases List.mem_cons.mp hw with h | h
    · rw [h]; exact hN.2.1
    · exact h
  exact fun a' U hW => word_at hW (n_good hw') (hts w hw')
theorem n_par {N : MT} {n : Nat} (hN : n_M N n) : ∀ sig, parseMethodDescriptor N.1.desc = some sig → n = sig.parameters.length := by
  intro sig h
  have h2 := hN.2.2.2.2.2
  rw [h] at h2
  exact (Option.some.inj h2).symm
theorem n_roomOk {R : Room} {d d' rc' rs' : Nat} {N : MT} {n : Nat} (hN : n_M N n) (hdf : d ≤ R.frames) (hdl : 64 * d ≤ R.locals) (h : d' < d) : (n_room d' rc' rs').frames + 1 ≤ R.frames ∧ 8 + (N.2.2.1 + 11) + (n_room d' rc' rs').locals ≤ R.locals := by
  have := hN.2.2.2.2.1
  exact ⟨by show d' + 1 ≤ _; omega, by show 8 + (N.2.2.1 + 11) + 64 * d' ≤ _; omega⟩
section CallRules
variable {G : GT} {d rc rs : Nat} {M : MT} {pc : Nat} {ls st : List Vl} {sh : List Sh} {v : VT} {Q : Option Vl → List Sh → VT → Prop}
theorem n_run {p : Program} {l : Launch} {e : Env} {R : Room} {s : State} {m : MethodId} {args : Array Value} {below : List Frame} {meth : Method} {c : Code} {H : Heap} {locs : List Loc} {cells slots rc' rs' : Nat} {Qf : State → Prop} {la : Array Slot} {st0 rest : List Value} {a : Array Value} {Q' : Option Vl → List Sh → VT → Prop} (hr : va_Run p l e R s m args below meth c H locs cells slots rc' rs' (F0 m pc la st0) rest (n_Qc G Q' a) (n_A G)) (hS : va_S (n_A G) s.heap H locs)
    (kk : ∀ (r : Option Vl) (sh' : List Sh) (v' : VT) (H1 : Heap) (locs1 : List Loc), n_Rel G sh' v' H1 → (∀ x, r = some x → n_okv x) → Q' r sh' v' → va_S (n_A G) s.heap H1 locs1 → W p l e R s m args below meth c H1 locs1 (cells + rc') (slots + rs') Qf (F0 m (pc + 3) la ((r.map (n_gv G)).toList ++ rest))) : W p l e R s m args below meth c H locs cells slots Qf (F0 m pc la st0) := by
  intro T hT X
  obtain ⟨vv, st₀, t, T', L, h0, X', hL, e1, e2, ⟨⟨r, sh', v', hv, hRel, hok, hQ⟩, hz, hk⟩, stp⟩ := hr T hT X
  cases hv
  rw [h0] at hz hk
  obtain ⟨t2, a1, b1⟩ := kk r sh' v' T'.heap (locs ++ L) (by rw [e1]; exact hRel) hok hQ
    ⟨Nat.le_trans hS.1 (by rw [e1]; exact hz), fun q h1 h2 => by rw [e1, hk q (Nat.lt_of_lt_of_le h1 hS.1) h2]; exact hS.2.1 q h1 h2, fun q hq => by
      rcases List.mem_append.mp hq with h | h
      · exact hS.2.2 q h
      · exact hL q h⟩ T' rfl X'
  exact ⟨t2, stp t2 a1, b1⟩
theorem n_ok_ret {r : Option Vl} {st : List Vl} (hok : ∀ x, r = some x → n_okv x) (hst : ∀ x ∈ st, n_okv x) : ∀ x ∈ r.toList ++ st, n_okv x := by
  cases r with
  | none => exact hst
  | some x => exact okc (hok x rfl) hst
theorem n_map_ret (r : Option Vl) (st : List Vl) : (r.map (n_gv G)).toList ++ st.map (n_gv G) = (r.toList ++ st).map (n_gv G) := by cases r <;> rfl
theorem n_ok_app {as st : List Vl} (h : ∀ x ∈ as.reverse ++ st, n_okv x) : (∀ x ∈ as, n_okv x) ∧ ∀ x ∈ st, n_okv x := ⟨fun x hx => h x (List.mem_append_left _ (List.mem_reverse.mpr hx)), fun x hx => h x (List.mem_append_right _ hx)⟩
/-- a virtual method -/
theorem T_callV {N : MT} {n idx a ci d' rc' rs' : Nat} {refs : List Nat} {as ls0 stk : List Vl} (hd : decode M.2.1 pc = .ok (.invokevirtual idx, 3)) (hN : n_MV N n) (hlk : Cond.methodLink M.1.cls idx N.1 ∈ wsAll) (hs : sh[a]? = some (.inl (ci, refs))) (hc : vwCl[ci]? = some (n_cls ci)) (hcn : (n_cls ci).1 = N.1.cls) (hstk : stk = as.reverse ++ (vR a :: st)) (has : as.length = n) (hini : n_ini N (vR a :: as) = ls0) (hsz : (n_lay (vR a :: as)).length ≤ N.2.2.1) (h8 : (st.map n_ctg).sum ≤ 8) (hdd : d' < d) (hrc : rc' ≤ rc) (hrs : rs' ≤ rs)
    (K : n_T G d' rc' rs' N 0 ls0 [] sh v (fun r sh' v' => n_T G d (rc - rc') (rs - rs') M (pc + 3) ls (r.toList ++ st) sh' v' Q)) : n_T G d rc rs M pc ls stk sh v Q := by
  subst hstk
  intro p e R s m args below meth c H locs cells slots mc ms la hx hb hml hr hlk9 hown hnm hts hKx hdf hdl hcm hsm hmc hms hRel hS hls hst hl
  have hM := n_met (as := vR a :: as) hN.1.1 hsz hini K
  have hok := n_ok_app (st := vR a :: st) hst
  have hrm := n_roomOk (rc' := rc') (rs' := rs') hN.1 hdf hdl hdd
  have hP := va_recv hKx.1 hRel.1 hc (n_ws_get hs)
  rw [hcn] at hP
  refine n_run (rc' := rc') (rs' := rs') (rest := st.map (n_gv G)) (a := (Value.ref (g_base G + a) :: as.map (n_gv G)).toArray) (va_runV (C := N.1.cls) (bytes := N.2.1) (maxL := N.2.2.1) (ret := N.2.2.2) (n := n) (b := g_base G + a) (As := as.map (n_gv G)) (Ts := wsAll) ⟨hx, hb, hml, hown, hts⟩ hM ⟨⟨rfl, rfl, hrm.1, hrm.2, n_pay hN.1 hts, List.mem_cons_self, hts _ hN.1.2.1, hts _ hN.1.2.2.1, hN.1.2.2.2.1, n_par hN.1, hts _ hlk⟩, hts _ hN.2.1, hts _ hN.2.2⟩ ⟨n_blind _ _ _ _, hP, fun U hU hW => ⟨rfl, by rw [hU]; exact hRel, n_Kx_warm hW (by rw [hU]; exact hS.1) (fun q h1 h2 => by rw [hU]; exact hS.2.1 q h1 h2) hKx, okc trivial hok.1⟩⟩ rfl (by rw [List.length_map]; exact has) hl.1 (by show (as.reverse ++ (vR a :: st)).map (n_gv G) = _; rw [List.map_append, List.map_reverse]; rfl) (lv_room (by rw [n_ctg_eq]; exact h8)) hd ⟨by omega, by omega⟩) hS (fun r sh' v' H1 locs1 hRel1 hok1 hQ1 hS1 => ?_)
  rw [n_map_ret]
  exact hQ1 p e R s m args below meth c H1 locs1 (cells + rc') (slots + rs') mc ms la hx hb hml hr hlk9 hown hnm hts hKx hdf hdl (by omega) (by omega) hmc hms hRel1 hS1 hls (n_ok_ret hok1 (ok1 hok.2).2) hl
/-- a static method -/
theorem T_callS {N : MT} {n idx d' rc' rs' : Nat} {as ls0 stk : List Vl} (hd : decode M.2.1 pc = .ok (.invokestatic idx, 3)) (hN : n_MS N n) (hlk : Cond.methodLink M.1.cls idx N.1 ∈ wsAll) (hstk : stk = as.reverse ++ st) (has : as.length = n) (hini : n_ini N as = ls0) (hsz : (n_lay as).length ≤ N.2.2.1) (h8 : (st.map n_ctg).sum ≤ 8) (hdd : d' < d) (hrc : rc' ≤ rc) (hrs : rs' ≤ rs)
    (K : n_T G d' rc' rs' N 0 ls0 [] sh v (fun r sh' v' => n_T G d (rc - rc') (rs - rs') M (pc + 3) ls (r.toList ++ st) sh' v' Q)) : n_T G d rc rs M pc ls stk sh v Q := by
  subst hstk
  intro p e R s m args below meth c H locs cells slots mc ms la hx hb hml hr hlk9 hown hnm hts hKx hdf hdl hcm hsm hmc hms hRel hS hls hst hl
  have hM := n_met (as := as) hN.1.1 hsz hini K
  have hok := n_ok_app (st := st) hst
  have hrm := n_roomOk (rc' := rc') (rs' := rs') hN.1 hdf hdl hdd
  refine n_run (rc' := rc') (rs' := rs') (rest := st.map (n_gv G)) (a := (as.map (n_gv G)).toArray) (va_runS (bytes := N.2.1) (maxL := N.2.2.1) (ret := N.2.2.2) (n := n) (As := as.map (n_gv G)) (Ts := wsAll) ⟨hx, hb, hml, hown, hts⟩ hM ⟨⟨rfl, rfl, hrm.1, hrm.2, n_pay hN.1 hts, List.mem_cons_self, hts _ hN.1.2.1, hts _ hN.1.2.2.1, hN.1.2.2.2.1, n_par hN.1, hts _ hlk⟩, hts _ hN.2⟩ ⟨n_blind _ _ _ _, fun U hU hW => ⟨rfl, by rw [hU]; exact hRel, n_Kx_warm hW (by rw [hU]; exact hS.1) (fun q h1 h2 => by rw [hU]; exact hS.2.1 q h1 h2) hKx, hok.1⟩⟩ rfl (by rw [List.length_map]; exact has) hl.1 (by show (as.reverse ++ st).map (n_gv G) = _; rw [List.map_append, List.map_reverse]) (lv_room (by rw [n_ctg_eq]; exact h8)) hd ⟨by omega, by omega⟩) hS (fun r sh' v' H1 locs1 hRel1 hok1 hQ1 hS1 => ?_)
  rw [n_map_ret]
  exact hQ1 p e R s m args below meth c H1 locs1 (cells + rc') (slots + rs') mc ms la hx hb hml hr hlk9 hown hnm hts hKx hdf hdl (by omega) (by omega) hmc hms hRel1 hS1 hls (n_ok_ret hok1 hok.2) hl
/-- a static private method of a nest mate -/
theorem T_callSN {N : MT} {n idx d' rc' rs' : Nat} {host : String} {as ls0 stk : List Vl} (hd : decode M.2.1 pc = .ok (.invokestatic idx, 3)) (hN : n_MS N n) (hlk : Cond.methodLinkNest M.1.cls idx N.1 host ∈ wsNest) (hstk : stk = as.reverse ++ st) (has : as.length = n) (hini : n_ini N as = ls0) (hsz : (n_lay as).length ≤ N.2.2.1) (h8 : (st.map n_ctg).sum ≤ 8) (hdd : d' < d) (hrc : rc' ≤ rc) (hrs : rs' ≤ rs)
    (K : n_T G d' rc' rs' N 0 ls0 [] sh v (fun r sh' v' => n_T G d (rc - rc') (rs - rs') M (pc + 3) ls (r.toList ++ st) sh' v' Q)) : n_T G d rc rs M pc ls stk sh v Q := by
  subst hstk
  intro p e R s m args below meth c H locs cells slots mc ms la hx hb hml hr hlk9 hown hnm hts hKx hdf hdl hcm hsm hmc hms hRel hS hls hst hl
  have hM := n_met (as := as) hN.1.1 hsz hini K
  have hok := n_ok_app (st := st) hst
  have hrm := n_roomOk (rc' := rc') (rs' := rs') hN.1 hdf hdl hdd
  refine n_run (rc' := rc') (rs' := rs') (rest := st.map (n_gv G)) (a := (as.map (n_gv G)).toArray) (va_runSN (host := host) (bytes := N.2.1) (maxL := N.2.2.1) (ret := N.2.2.2) (n := n) (As := as.map (n_gv G)) (Ts := wsAll) ⟨hx, hb, hml, hown, hts⟩ hM ⟨⟨⟨rfl, rfl, hrm.1, hrm.2, n_pay hN.1 hts, List.mem_cons_self⟩, hts _ hN.1.2.1, hts _ hN.1.2.2.1, hN.1.2.2.2.1, n_par hN.1, va_Nw.use rfl (hKx.2.1 _ hlk)⟩, hts _ hN.2, trivial⟩ ⟨n_blind _ _ _ _, fun U hU hW => ⟨rfl, by rw [hU]; exact hRel, n_Kx_warm hW (by rw [hU]; exact hS.1) (fun q h1 h2 => by rw [hU]; exact hS.2.1 q h1 h2) hKx, hok.1⟩⟩ rfl (by rw [List.length_map]; exact has) hl.1 (by show (as.reverse ++ st).map (n_gv G) = _; rw [List.map_append, List.map_reverse]) (lv_room (by rw [n_ctg_eq]; exact h8)) hd ⟨by omega, by omega⟩) hS (fun r sh' v' H1 locs1 hRel1 hok1 hQ1 hS1 => ?_)
  rw [n_map_ret]
  exact hQ1 p e R s m args below meth c H1 locs1 (cells + rc') (slots + rs') mc ms la hx hb hml hr hlk9 hown hnm hts hKx hdf hdl (by omega) (by omega) hmc hms hRel1 hS1 hls (n_ok_ret hok1 hok.2) hl
/-- a constructor -/
theorem T_callI {N : MT} {n idx a d' rc' rs' : Nat} {as ls0 stk : List Vl} (hd : decode M.2.1 pc = .ok (.invokespecial idx, 3)) (hN : n_MI N n) (hlk : Cond.methodLink M.1.cls idx N.1 ∈ wsAll) (hstk : stk = as.reverse ++ (vR a :: st)) (has : as.length = n) (hini : n_ini N (vR a :: as) = ls0) (hsz : (n_lay (vR a :: as)).length ≤ N.2.2.1) (h8 : (st.map n_ctg).sum ≤ 8) (hdd : d' < d) (hrc : rc' ≤ rc) (hrs : rs' ≤ rs)
    (K : n_T G d' rc' rs' N 0 ls0 [] sh v (fun r sh' v' => n_T G d (rc - rc') (rs - rs') M (pc + 3) ls (r.toList ++ st) sh' v' Q)) : n_T G d rc rs M pc ls stk sh v Q := by
  subst hstk
  intro p e R s m args below meth c H locs cells slots mc ms la hx hb hml hr hlk9 hown hnm hts hKx hdf hdl hcm hsm hmc hms hRel hS hls hst hl
  obtain ⟨hN1, hN2, hN3, hN4⟩ := hN
  have hM := n_met (as := vR a :: as) hN1.1 hsz hini K
  have hok := n_ok_app (st := vR a :: st) hst
  have hrm := n_roomOk (rc' := rc') (rs' := rs') hN1 hdf hdl hdd
  have hcd : Cond.code N.1 N.2.1 N.2.2.1 none ∈ wsAll := by rw [← hN4]; exact hN1.2.1
  have hcw : Cond.code N.1 N.2.1 N.2.2.1 none ∈ n_wsM N := List.mem_cons_of_mem _ hcd
  refine n_run (rc' := rc') (rs' := rs') (rest := st.map (n_gv G)) (a := (Value.ref (g_base G + a) :: as.map (n_gv G)).toArray) (va_runI (bytes := N.2.1) (maxL := N.2.2.1) (n := n) (b := g_base G + a) (As := as.map (n_gv G)) (Ts := wsAll) ⟨hx, hb, hml, hown, hts⟩ hM ⟨⟨rfl, rfl, hrm.1, hrm.2, n_pay hN1 hts, hcw, hts _ hcd, hts _ hN1.2.2.1, hN1.2.2.2.1, n_par hN1, hts _ hlk⟩, hN3, hts _ hN2⟩ ⟨n_blind _ _ _ _, fun U hU hW => ⟨rfl, by rw [hU]; exact hRel, n_Kx_warm hW (by rw [hU]; exact hS.1) (fun q h1 h2 => by rw [hU]; exact hS.2.1 q h1 h2) hKx, okc trivial hok.1⟩⟩ rfl (by rw [List.length_map]; exact has) hl.1 (by show (as.reverse ++ (vR a :: st)).map (n_gv G) = _; rw [List.map_append, List.map_reverse]; rfl) (lv_room (by rw [n_ctg_eq]; exact h8)) hd ⟨by omega, by omega⟩) hS (fun r sh' v' H1 locs1 hRel1 hok1 hQ1 hS1 => ?_)
  rw [n_map_ret]
  exact hQ1 p e R s m args below meth c H1 locs1 (cells + rc') (slots + rs') mc ms la hx hb hml hr hlk9 hown hnm hts hKx hdf hdl (by omega) (by omega) hmc hms hRel1 hS1 hls (n_ok_ret hok1 (ok1 hok.2).2) hl
end CallRules

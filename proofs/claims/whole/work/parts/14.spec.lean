/-! ===== rules of n_T: Math, System.arraycopy, the two texts ===== -/
section SpecRules
variable {G : GT} {d rc rs : Nat} {M : MT} {pc : Nat} {ls st : List Vl} {sh : List Sh} {v : VT} {Q : Option Vl → List Sh → VT → Prop}
theorem n_sum8 {G : GT} {st : List Vl} {R : Room} {d k : Nat} (h8 : (st.map n_ctg).sum ≤ 8) (hd1 : 1 ≤ d) (hdl : 64 * d ≤ R.locals) (hk : k ≤ 50) : ((st.map (n_gv G)).map fun v => v.category).sum + k ≤ R.locals := by
  rw [n_ctg_eq]
  omega
theorem U_max {x y : Int} {idx : Nat} (hd : decode M.2.1 pc = .ok (.invokestatic idx, 3)) (hlk : Cond.methodLink M.1.cls idx Lib.Math.max.name ∈ wsAll) (hd1 : 1 ≤ d) (h8 : (st.map n_ctg).sum ≤ 8) (K : n_T G d rc rs M (pc + 3) ls (vI (max x y) :: st) sh v Q) : n_T G d rc rs M pc ls (vI y :: vI x :: st) sh v Q := by
  intro p e R s m args below meth c H locs cells slots mc ms la hx hb hml hr hlk9 hown hnm hts hKx hdf hdl hcm hsm hmc hms hRel hS hls hst hl
  have hx0 : r32 x := (ok1 (ok1 hst).2).1
  have hy0 : r32 y := (ok1 hst).1
  refine va_mmax hx hb (hml.trans hl.1.symm) hown (hts _ hlk) (hts _ w_max1) (hts _ w_math) (hts _ w_max2) (by omega) (n_sum8 h8 hd1 hdl (by omega)) (by omega) (by omega) hd ?_
  have key : (if Int32.ofInt x < Int32.ofInt y then Int32.ofInt y else Int32.ofInt x) = Int32.ofInt (max x y) := by
    by_cases h : x < y
    · rw [if_pos ((i32_lt hx0 hy0).mpr h), Int.max_eq_right (by omega)]
    · rw [if_neg (fun q => h ((i32_lt hx0 hy0).mp q)), Int.max_eq_left (by omega)]
  rw [key]
  exact K p e R s m args below meth c H locs cells slots mc ms la hx hb hml hr hlk9 hown hnm hts hKx hdf hdl hcm hsm hmc hms hRel hS hls (okc (by show r32 _; unfold r32 at *; omega) (ok1 (ok1 hst).2).2) hl
theorem U_min {x y : Int} {idx : Nat} (hd : decode M.2.1 pc = .ok (.invokestatic idx, 3)) (hlk : Cond.methodLink M.1.cls idx Lib.Math.min.name ∈ wsAll) (hd1 : 1 ≤ d) (h8 : (st.map n_ctg).sum ≤ 8) (K : n_T G d rc rs M (pc + 3) ls (vI (min x y) :: st) sh v Q) : n_T G d rc rs M pc ls (vI y :: vI x :: st) sh v Q := by
  intro p e R s m args below meth c H locs cells slots mc ms la hx hb hml hr hlk9 hown hnm hts hKx hdf hdl hcm hsm hmc hms hRel hS hls hst hl
  have hx0 : r32 x := (ok1 (ok1 hst).2).1
  have hy0 : r32 y := (ok1 hst).1
  refine va_mmin hx hb (hml.trans hl.1.symm) hown (hts _ hlk) (hts _ w_min1) (hts _ w_math) (hts _ w_min2) (by omega) (n_sum8 h8 hd1 hdl (by omega)) (by omega) (by omega) hd ?_
  have key : (if Int32.ofInt y < Int32.ofInt x then Int32.ofInt y else Int32.ofInt x) = Int32.ofInt (min x y) := by
    by_cases h : y < x
    · rw [if_pos ((i32_lt hy0 hx0).mpr h), Int.min_eq_right (by omega)]
    · rw [if_neg (fun q => h ((i32_lt hy0 hx0).mp q)), Int.min_eq_left (by omega)]
  rw [key]
  exact K p e R s m args below meth c H locs cells slots mc ms la hx hb hml hr hlk9 hown hnm hts hKx hdf hdl hcm hsm hmc hms hRel hS hls (okc (by show r32 _; unfold r32 at *; omega) (ok1 (ok1 hst).2).2) hl
theorem U_minL {x y : Int} {idx : Nat} (hd : decode M.2.1 pc = .ok (.invokestatic idx, 3)) (hlk : Cond.methodLink M.1.cls idx Lib.MathLoose.min_long.x ∈ wsAll) (hd1 : 1 ≤ d) (h8 : (st.map n_ctg).sum ≤ 8) (K : n_T G d rc rs M (pc + 3) ls (vJ (min x y) :: st) sh v Q) : n_T G d rc rs M pc ls (vJ y :: vJ x :: st) sh v Q := by
  intro p e R s m args below meth c H locs cells slots mc ms la hx hb hml hr hlk9 hown hnm hts hKx hdf hdl hcm hsm hmc hms hRel hS hls hst hl
  have hx0 : r64 x := (ok1 (ok1 hst).2).1
  have hy0 : r64 y := (ok1 hst).1
  refine va_mmin_long hx hb (hml.trans hl.1.symm) hown (hts _ hlk) (hts _ w_minL1) (hts _ w_math) (hts _ w_minL2) (by omega) (n_sum8 h8 hd1 hdl (by omega)) (by omega) (by omega) hd ?_
  have key : (if Int64.ofInt y < Int64.ofInt x then Int64.ofInt y else Int64.ofInt x) = Int64.ofInt (min x y) := by
    by_cases h : y < x
    · rw [if_pos ((i64_lt hy0 hx0).mpr h), Int.min_eq_right (by omega)]
    · rw [if_neg (fun q => h ((i64_lt hy0 hx0).mp q)), Int.min_eq_left (by omega)]
  rw [key]
  exact K p e R s m args below meth c H locs cells slots mc ms la hx hb hml hr hlk9 hown hnm hts hKx hdf hdl hcm hsm hmc hms hRel hS hls (okc (by show r64 _; unfold r64 at *; omega) (ok1 (ok1 hst).2).2) hl
theorem n_not0 {x : Int} (h : r32 x) (h0 : 0 ≤ x) : ¬ Int32.ofInt x < 0 := by
  rw [i32_0, i32_lt h r32_0]; omega
theorem U_copy {a b n0 n1 idx : Nat} {r0 r1 : List Nat} {n : Int} (hd : decode M.2.1 pc = .ok (.invokestatic idx, 3)) (hlk : Cond.methodLink M.1.cls idx arraycopyName ∈ wsAll) (ha : sh[a]? = some (.inr (0, n0, r0))) (hb9 : sh[b]? = some (.inr (0, n1, r1))) (hn : 0 ≤ n ∧ n ≤ n0) (hn1 : n ≤ n1) (hd1 : 1 ≤ d) (h8 : (st.map n_ctg).sum ≤ 8) (K : ∀ w, w = cpy v a b n.toNat → n_T G d rc rs M (pc + 3) ls st sh w Q) : n_T G d rc rs M pc ls (vI n :: vI 0 :: vR b :: vI 0 :: vR a :: st) sh v Q := by
  intro p e R s m args below meth c H locs cells slots mc ms la hx hb hml hr hlk9 hown hnm hts hKx hdf hdl hcm hsm hmc hms hRel hS hls hst hl
  intro T hT X
  have hn0 : r32 n := (ok1 hst).1
  have cl0 : (Int32.ofInt 0).toNatClampNeg = 0 := rfl
  have cln : (Int32.ofInt n).toNatClampNeg = n.toNat := i32_clamp hn0
  have hc0 : H[g_base G + a]? = some (vp_cell (g_cA G 0) (n0, .inl (fun j => Int32.ofInt (v a j)))) := hRel.1 a _ (n_ws_get ha)
  have hc1 : H[g_base G + b]? = some (vp_cell (g_cA G 0) (n1, .inl (fun j => Int32.ofInt (v b j)))) := hRel.1 b _ (n_ws_get hb9)
  obtain ⟨-, k0, hk0, cm0, hkk0⟩ := (hKx.1.2 0 (g_cA G 0, .int) rfl).1 n0 (fun j => .int (Int32.ofInt (v a j)))
  obtain ⟨-, k1, hk1, cm1, hkk1⟩ := (hKx.1.2 0 (g_cA G 0, .int) rfl).1 n1 (fun j => .int (Int32.ofInt (v b j)))
  have t0 : (Int32.ofInt 0).toInt = 0 := toInt_ofInt32 r32_0
  have tn : (Int32.ofInt n).toInt = n := toInt_ofInt32 hn0
  obtain ⟨vm', X', step⟩ := X.arraycopy hx hown (hts _ hlk) (hts _ w_acN) (hts _ w_acS) (hts _ w_sys) (src := g_base G + a) (dst := g_base G + b) (cs := vp_cell (g_cA G 0) (n0, .inl (fun j => Int32.ofInt (v a j)))) (cd := vp_cell (g_cA G 0) (n1, .inl (fun j => Int32.ofInt (v b j)))) (srcPos := Int32.ofInt 0) (destPos := Int32.ofInt 0) (n := Int32.ofInt n) (by rw [hT]; exact hc0) (by rw [hT]; exact hc1)
    (fun _ h => by cases h) (fun _ h => by cases h) (fun h => by cases h) (fun h => by cases h) hk0 hk1 hkk0 hkk1 (by simp [refKind]) (n_not0 r32_0 (by omega)) (n_not0 r32_0 (by omega)) (n_not0 hn0 hn.1)
    (by rw [t0, tn]; show ¬ _ > ((arrV (g_cA G 0) n0 (fun j => .int (Int32.ofInt (v a j)))).slots.size : Int); rw [arrV_size]; omega)
    (by rw [t0, tn]; show ¬ _ > ((arrV (g_cA G 0) n1 (fun j => .int (Int32.ofInt (v b j)))).slots.size : Int); rw [arrV_size]; omega)
    (fun vm₁ _ i hi => by
      rw [cln] at hi
      have e : (vp_cell (g_cA G 0) (n0, .inl (fun j => Int32.ofInt (v a j)))).slots.getD ((Int32.ofInt 0).toNatClampNeg + i) .null = .int (Int32.ofInt (v a i)) := by
        show (arrV (g_cA G 0) n0 (fun j => .int (Int32.ofInt (v a j)))).slots.getD _ _ = _
        rw [cl0, Array.getD_eq_getD_getElem?, arrV_read _ _ (by omega), Nat.zero_add]
        rfl
      exact ⟨by rw [e]; rfl, by rw [e]; exact trivial⟩)
    (g := F0 m pc la (.int (Int32.ofInt n) :: .int (Int32.ofInt 0) :: .ref (g_base G + b) :: .int (Int32.ofInt 0) :: .ref (g_base G + a) :: st.map (n_gv G))) rfl (by rw [hml]; exact hl.1) (rest := st.map (n_gv G)) rfl (by rw [hb]; exact hd) (by omega) (by
      have := n_sum8 (G := G) (k := 21) h8 hd1 hdl (by omega)
      have e21 : nativeFrameWords "java/lang/System" "arraycopy" 5 + 11 ≤ 50 := by decide
      have := n_sum8 (G := G) h8 hd1 hdl e21
      show 2 * 0 + _ + _ ≤ _
      omega)
  have e1 : copied (vp_cell (g_cA G 0) (n0, .inl (fun j => Int32.ofInt (v a j)))) (vp_cell (g_cA G 0) (n1, .inl (fun j => Int32.ofInt (v b j)))) (Int32.ofInt 0) (Int32.ofInt 0) (Int32.ofInt n) = vp_cell (g_cA G 0) (n1, .inl (fun j => Int32.ofInt (cpy v a b n.toNat b j))) := by
    have h4 : (Int32.ofInt 0).toNatClampNeg + (Int32.ofInt n).toNatClampNeg ≤ n0 := by rw [cl0, cln]; omega
    refine (va_copied (fun z => .int z) (g_cA G 0) (g_cA G 0) (fun j => Int32.ofInt (v a j)) (fun j => Int32.ofInt (v b j)) h4).trans ?_
    have e2 : va_cpy (fun j => Int32.ofInt (v a j)) (fun j => Int32.ofInt (v b j)) (Int32.ofInt 0).toNatClampNeg (Int32.ofInt 0).toNatClampNeg (Int32.ofInt n).toNatClampNeg = fun j => Int32.ofInt (cpy v a b n.toNat b j) := by
      funext j
      rw [cl0, cln]
      unfold va_cpy cpy
      by_cases hj : j < n.toNat
      · rw [if_pos ⟨Nat.zero_le _, by omega⟩, if_pos ⟨rfl, hj⟩]; simp
      · rw [if_neg (fun q => hj (by omega)), if_neg (fun q => hj q.2)]
    rw [← e2]
    rfl
  rw [e1] at X' step
  have hlb : g_base G + b < H.size := (Array.getElem?_eq_some_iff.mp hc1).1
  have hheap : ((T.setVm vm').setCell (g_base G + b) (vp_cell (g_cA G 0) (n1, .inl (fun j => Int32.ofInt (cpy v a b n.toNat b j))))).heap = H.setIfInBounds (g_base G + b) (vp_cell (g_cA G 0) (n1, .inl (fun j => Int32.ofInt (cpy v a b n.toNat b j)))) := by rw [← hT]; rfl
  generalize hH1 : H.setIfInBounds (g_base G + b) (vp_cell (g_cA G 0) (n1, .inl (fun j => Int32.ofInt (cpy v a b n.toNat b j)))) = H1 at hheap
  have oq : ∀ q : Nat, q ≠ g_base G + b → H1[q]? = H[q]? := fun q hq => by rw [← hH1]; simp [Array.getElem?_setIfInBounds, Ne.symm hq]
  have z1 : H1.size = H.size := by rw [← hH1]; simp
  have eb : H1[g_base G + b]? = some (vp_cell (g_cA G 0) (n1, .inl (fun j => Int32.ofInt (cpy v a b n.toNat b j)))) := by rw [← hH1]; simp [Array.getElem?_setIfInBounds, hlb]
  have hD := n_ws_D G sh v
  have hP2 := hRel.1.set hD (n_ws_get hb9) (show va_at (g_D G) vwCl (g_base G + b, n_ent G (.inr (0, n1, r1)) (cpy v a b n.toNat b)) H1 from eb) oq
  rw [n_ws_set (v' := cpy v a b n.toNat) hb9 (fun a' h => by funext j; unfold cpy; rw [if_neg (fun q => h q.1)]) rfl] at hP2
  have hRel2 : n_Rel G sh (cpy v a b n.toNat) H1 := by
    refine ⟨hP2, by rw [z1]; exact hRel.2.1, fun a' s' j' hs' => ?_⟩
    unfold cpy
    by_cases hq : a' = b ∧ j' < n.toNat
    · rw [if_pos hq]
      obtain ⟨rfl, -⟩ := hq
      rw [hb9] at hs'
      cases hs'
      have := hRel.2.2 a _ j' ha
      exact this
    · rw [if_neg hq]
      exact hRel.2.2 a' s' j' hs'
  obtain ⟨t, a1, b1⟩ := K _ rfl p e R s m args below meth c H1 _ cells slots mc ms la hx hb hml hr hlk9 hown hnm hts hKx hdf hdl hcm hsm hmc hms hRel2 ⟨by rw [z1]; exact hS.1, fun q g1 g2 => by
      rw [oq q (fun e => g2 (by rw [e]; exact Nat.le_add_right _ _))]
      exact hS.2.1 q g1 g2, fun q hq => by
      rcases List.mem_append.mp hq with h | h
      · exact hS.2.2 q h
      · obtain ⟨z, -, hz⟩ := List.mem_map.mp h
        rw [← hz]
        exact Nat.le_add_right _ _⟩ hls (ok1 (ok1 (ok1 (ok1 (ok1 hst).2).2).2).2).2 hl _ hheap X'
  exact ⟨t, step t a1, b1⟩
theorem T_ldcS1 (hd : decode M.2.1 pc = .ok (.ldc 74, 2)) (hM : M.1.cls = "CubeNets$Reader") (K : n_T G d rc rs M (pc + 2) ls (vS 1 :: st) sh v Q) : n_T G d rc rs M pc ls st sh v Q := by
  intro p e R s m args below meth c H locs cells slots mc ms la hx hb hml hr hlk9 hown hnm hts hKx hdf hdl hcm hsm hmc hms hRel hS hls hst hl
  rw [hM] at hown
  refine va_ldcS hx hb hown hKx.2.2.2.2.2.1 hd ?_
  rw [← hM] at hown
  exact K p e R s m args below meth c H locs cells slots mc ms la hx hb hml hr hlk9 hown hnm hts hKx hdf hdl hcm hsm hmc hms hRel hS hls (okc trivial hst) hl
theorem T_ldcS2 (hd : decode M.2.1 pc = .ok (.ldc 72, 2)) (hM : M.1.cls = "CubeNets$Reader") (K : n_T G d rc rs M (pc + 2) ls (vS 2 :: st) sh v Q) : n_T G d rc rs M pc ls st sh v Q := by
  intro p e R s m args below meth c H locs cells slots mc ms la hx hb hml hr hlk9 hown hnm hts hKx hdf hdl hcm hsm hmc hms hRel hS hls hst hl
  rw [hM] at hown
  refine va_ldcS hx hb hown hKx.2.2.2.2.2.2.1 hd ?_
  rw [← hM] at hown
  exact K p e R s m args below meth c H locs cells slots mc ms la hx hb hml hr hlk9 hown hnm hts hKx hdf hdl hcm hsm hmc hms hRel hS hls (okc trivial hst) hl
theorem U_callVS {N : MT} {n idx k : Nat} {as stk : List Vl} (hd : decode M.2.1 pc = .ok (.invokevirtual idx, 3)) (hN : n_MV N n) (hlk : Cond.methodLink M.1.cls idx N.1 ∈ wsAll) (hk : k = 1 ∨ k = 2) (hcn : "java/lang/String" = N.1.cls) (hstk : stk = as.reverse ++ (vS k :: st)) (has : as.length = n) (hsz : (n_lay (vS k :: as)).length ≤ N.2.2.1) (h8 : (st.map n_ctg).sum ≤ 8) (hdd : 1 ≤ d) (K : n_T G (d - 1) 0 0 N 0 (n_ini N (vS k :: as)) [] sh v (n_goon G d M (pc + 3) ls st Q)) : n_T G d 0 0 M pc ls stk sh v Q := by
  subst hstk
  intro p e R s m args below meth c H locs cells slots mc ms la hx hb hml hr hlk9 hown hnm hts hKx hdf hdl hcm hsm hmc hms hRel hS hls hst hl
  have hgk : n_gv G (vS k) = .ref (g_sp G k) := by rcases hk with rfl | rfl <;> rfl
  have hM := n_met (as := vS k :: as) hN.1.1 hsz rfl K
  have hok := n_ok_app (st := vS k :: st) hst
  have hrm := n_roomOk (d' := d - 1) (rc' := 0) (rs' := 0) hN.1 hdf hdl (by omega)
  have hP : ∃ cell : Cell, H[g_sp G k]? = some cell ∧ cell.vm.isStatics = false ∧ s.vm.findClass "java/lang/String" = some cell.cls := by
    rcases hk with rfl | rfl
    · exact vk_recv (i := 0) hKx.2.2.2.2.2.2.2.1 (by omega) hS
    · exact vk_recv (i := 1) hKx.2.2.2.2.2.2.2.1 (by omega) hS
  rw [hcn] at hP
  refine n_run (rc' := 0) (rs' := 0) (rest := st.map (n_gv G)) (a := (Value.ref (g_sp G k) :: as.map (n_gv G)).toArray) (va_runV (C := N.1.cls) (bytes := N.2.1) (maxL := N.2.2.1) (ret := N.2.2.2) (n := n) (b := g_sp G k) (As := as.map (n_gv G)) (Ts := wsAll) ⟨hx, hb, hml, hown, hts⟩ hM ⟨⟨rfl, rfl, hrm.1, hrm.2, n_pay hN.1 hts, List.mem_cons_self, hts _ hN.1.2.1, hts _ hN.1.2.2.1, hN.1.2.2.2.1, n_par hN.1, hts _ hlk⟩, hts _ hN.2.1, hts _ hN.2.2⟩ ⟨n_blind _ _ _ _, hP, fun U hU hW => ⟨by rw [List.map_cons, hgk], by rw [hU]; exact hRel, n_Kx_warm hW (by rw [hU]; exact hS.1) (fun q h1 h2 => by rw [hU]; exact hS.2.1 q h1 h2) hKx, okc trivial hok.1⟩⟩ rfl (by rw [List.length_map]; exact has) hl.1 (by show (as.reverse ++ (vS k :: st)).map (n_gv G) = _; rw [List.map_append, List.map_reverse, List.map_cons, hgk]) (lv_room (by rw [n_ctg_eq]; exact h8)) hd ⟨by omega, by omega⟩) hS (fun r sh' v' H1 locs1 hRel1 hok1 hQ1 hS1 => ?_)
  rw [n_map_ret]
  exact hQ1 p e R s m args below meth c H1 locs1 (cells + 0) (slots + 0) mc ms la hx hb hml hr hlk9 hown hnm hts hKx hdf hdl (by omega) (by omega) hmc hms hRel1 hS1 hls (n_ok_ret hok1 (ok1 hok.2).2) hl
theorem T_getSV {k idx : Nat} (hd : decode M.2.1 pc = .ok (.getfield idx, 3)) (hlk : Cond.fieldLink M.1.cls idx "java/lang/String" "value" "[B" ∈ wsAll) (hk : k = 1 ∨ k = 2) (K : n_T G d rc rs M (pc + 3) ls (vS (k + 2) :: st) sh v Q) : n_T G d rc rs M pc ls (vS k :: st) sh v Q := by
  intro p e R s m args below meth c H locs cells slots mc ms la hx hb hml hr hlk9 hown hnm hts hKx hdf hdl hcm hsm hmc hms hRel hS hls hst hl
  have K9 := K p e R s m args below meth c H locs cells slots mc ms la hx hb hml hr hlk9 hown hnm hts hKx hdf hdl hcm hsm hmc hms hRel hS hls (okc trivial (ok1 hst).2) hl
  rcases hk with rfl | rfl
  · exact vk_getf hx hb (hKx.2.2.2.2.2.2.2.1.1 0 (by omega)).2.2.1 hS hown (hts _ hlk) (fun x h => h) hd K9
  · exact vk_getf hx hb (hKx.2.2.2.2.2.2.2.1.1 1 (by omega)).2.2.1 hS hown (hts _ hlk) (fun x h => h) hd K9
theorem T_getSC {k idx : Nat} (hd : decode M.2.1 pc = .ok (.getfield idx, 3)) (hlk : Cond.fieldLink M.1.cls idx "java/lang/String" "coder" "B" ∈ wsAll) (hk : k = 1 ∨ k = 2) (K : n_T G d rc rs M (pc + 3) ls (vI 0 :: st) sh v Q) : n_T G d rc rs M pc ls (vS k :: st) sh v Q := by
  intro p e R s m args below meth c H locs cells slots mc ms la hx hb hml hr hlk9 hown hnm hts hKx hdf hdl hcm hsm hmc hms hRel hS hls hst hl
  have K9 := K p e R s m args below meth c H locs cells slots mc ms la hx hb hml hr hlk9 hown hnm hts hKx hdf hdl hcm hsm hmc hms hRel hS hls (okc r32_0 (ok1 hst).2) hl
  rcases hk with rfl | rfl
  · exact vk_getf hx hb (hKx.2.2.2.2.2.2.2.1.1 0 (by omega)).2.1 hS hown (hts _ hlk) (fun x h => h) hd K9
  · exact vk_getf hx hb (hKx.2.2.2.2.2.2.2.1.1 1 (by omega)).2.1 hS hown (hts _ hlk) (fun x h => h) hd K9
theorem T_gets1 {idx : Nat} (hd : decode M.2.1 pc = .ok (.getstatic idx, 3)) (hlk : Cond.fieldLink M.1.cls idx "java/lang/String" "COMPACT_STRINGS" "Z" ∈ wsAll) (K : n_T G d rc rs M (pc + 3) ls (vI 1 :: st) sh v Q) : n_T G d rc rs M pc ls st sh v Q := by
  intro p e R s m args below meth c H locs cells slots mc ms la hx hb hml hr hlk9 hown hnm hts hKx hdf hdl hcm hsm hmc hms hRel hS hls hst hl
  exact va_gets hx hb hKx.2.2.2.2.2.2.2.2.1 hS hown (hts _ hlk) (fun x h => h) hd (K p e R s m args below meth c H locs cells slots mc ms la hx hb hml hr hlk9 hown hnm hts hKx hdf hdl hcm hsm hmc hms hRel hS hls (okc (by show r32 1; unfold r32; omega) hst) hl)
theorem T_getsF {idx : Nat} (hd : decode M.2.1 pc = .ok (.getstatic idx, 3)) (hlk : Cond.fieldLink M.1.cls idx "jdk/internal/util/Preconditions" "SIOOBE_FORMATTER" "Ljava/util/function/BiFunction;" ∈ wsAll) (K : n_T G d rc rs M (pc + 3) ls (vS 5 :: st) sh v Q) : n_T G d rc rs M pc ls st sh v Q := by
  intro p e R s m args below meth c H locs cells slots mc ms la hx hb hml hr hlk9 hown hnm hts hKx hdf hdl hcm hsm hmc hms hRel hS hls hst hl
  exact va_gets hx hb hKx.2.2.2.2.2.2.2.2.2 hS hown (hts _ hlk) (fun x h => h) hd (K p e R s m args below meth c H locs cells slots mc ms la hx hb hml hr hlk9 hown hnm hts hKx hdf hdl hcm hsm hmc hms hRel hS hls (okc trivial hst) hl)
theorem r32_sLen (k : Nat) : r32 (sLen k) := by unfold sLen r32; split <;> omega
theorem T_lenS {k : Nat} (hd : decode M.2.1 pc = .ok (.arraylength, 1)) (hk : k = 1 ∨ k = 2) (K : n_T G d rc rs M (pc + 1) ls (vI (sLen k) :: st) sh v Q) : n_T G d rc rs M pc ls (vS (k + 2) :: st) sh v Q := by
  intro p e R s m args below meth c H locs cells slots mc ms la hx hb hml hr hlk9 hown hnm hts hKx hdf hdl hcm hsm hmc hms hRel hS hls hst hl
  have K9 := K p e R s m args below meth c H locs cells slots mc ms la hx hb hml hr hlk9 hown hnm hts hKx hdf hdl hcm hsm hmc hms hRel hS hls (okc (r32_sLen k) (ok1 hst).2) hl
  rcases hk with rfl | rfl
  · exact va_tlen (v := Int32.ofInt (sLen 1)) hx hb (hKx.2.2.2.2.2.2.2.1.1 0 (by omega)).2.2.2 hS (by decide) hd K9
  · exact va_tlen (v := Int32.ofInt (sLen 2)) hx hb (hKx.2.2.2.2.2.2.2.1.1 1 (by omega)).2.2.2 hS (by decide) hd K9
theorem sAt_1 : ∀ j ∈ List.range 5, (([110, 111, 100, 101, 115] : List Int32).getD j 0) = Int32.ofInt (sAt 1 j) := by decide
theorem sAt_2 : ∀ j ∈ List.range 3, (([119, 97, 121] : List Int32).getD j 0) = Int32.ofInt (sAt 2 j) := by decide
theorem sAt_r (k j : Nat) : 0 ≤ sAt k j ∧ sAt k j ≤ 127 := by
  have h1 : ∀ j ∈ List.range 5, 0 ≤ ([110, 111, 100, 101, 115] : List Int).getD j 0 ∧ ([110, 111, 100, 101, 115] : List Int).getD j 0 ≤ 127 := by decide
  have h2 : ∀ j ∈ List.range 3, 0 ≤ ([119, 97, 121] : List Int).getD j 0 ∧ ([119, 97, 121] : List Int).getD j 0 ≤ 127 := by decide
  unfold sAt
  split
  · by_cases h : j < 5
    · exact h1 j (List.mem_range.mpr h)
    · rw [List.getD_eq_getElem?_getD, List.getElem?_eq_none (by simp; omega)]; decide
  · by_cases h : j < 3
    · exact h2 j (List.mem_range.mpr h)
    · rw [List.getD_eq_getElem?_getD, List.getElem?_eq_none (by simp; omega)]; decide
theorem T_baldS {k : Nat} {i : Int} (hd : decode M.2.1 pc = .ok (.baload, 1)) (hk : k = 1 ∨ k = 2) (hi : 0 ≤ i ∧ i < sLen k) (K : n_T G d rc rs M (pc + 1) ls (vI (sAt k i.toNat) :: st) sh v Q) : n_T G d rc rs M pc ls (vI i :: vS (k + 2) :: st) sh v Q := by
  intro p e R s m args below meth c H locs cells slots mc ms la hx hb hml hr hlk9 hown hnm hts hKx hdf hdl hcm hsm hmc hms hRel hS hls hst hl
  have K9 := K p e R s m args below meth c H locs cells slots mc ms la hx hb hml hr hlk9 hown hnm hts hKx hdf hdl hcm hsm hmc hms hRel hS hls (okc (by have := sAt_r k i.toNat; show r32 _; unfold r32; omega) (ok1 (ok1 hst).2).2) hl
  have h0 : r32 i := (ok1 hst).1
  rcases hk with rfl | rfl
  · have hi' : 0 ≤ i ∧ i < 5 := hi
    exact va_tb (v := .int (Int32.ofInt (sAt 1 i.toNat))) hx hb (hKx.2.2.2.2.2.2.2.1.1 0 (by omega)).2.2.2 hS (i32_in (n := 5) h0 hi') (by
      show Value.int (([110, 111, 100, 101, 115] : List Int32).getD _ 0) = _
      rw [i32_clamp h0, sAt_1 _ (List.mem_range.mpr (by omega))]) hd K9
  · have hi' : 0 ≤ i ∧ i < 3 := hi
    exact va_tb (v := .int (Int32.ofInt (sAt 2 i.toNat))) hx hb (hKx.2.2.2.2.2.2.2.1.1 1 (by omega)).2.2.2 hS (i32_in (n := 3) h0 hi') (by
      show Value.int (([119, 97, 121] : List Int32).getD _ 0) = _
      rw [i32_clamp h0, sAt_2 _ (List.mem_range.mpr (by omega))]) hd K9
theorem W_coder {d k : Nat} (hk : k = 1 ∨ k = 2) (hQ : Q (some (vI 0)) sh v) : n_T G d 0 0 mJ0_coder_7d493 0 [vS k] [] sh v Q := by
  refine T_gets1 dJ0_coder_7d493_0 fJ0_38 ?_
  refine U_if_eq (tgt := 13) dJ0_coder_7d493_3 (by decide) (fun hc => absurd hc (by decide)) (fun _ => ?_)
  refine T_aload_nS dJ0_coder_7d493_6 rfl (n_nd12 hk) ?_
  refine T_getSC dJ0_coder_7d493_7 fJ0_15 hk ?_
  refine T_goto (tgt := 14) dJ0_coder_7d493_10 (by decide) ?_
  exact T_bret dJ0_coder_7d493_14 rfl (by decide) hQ
theorem W_isLatin1 {d k : Nat} (hk : k = 1 ∨ k = 2) (hQ : Q (some (vI 1)) sh v) : n_T G d 0 0 mJ0_isLatin1_aae02 0 [vS k] [] sh v Q := by
  refine T_gets1 dJ0_isLatin1_aae02_0 fJ0_38 ?_
  refine U_if_eq (tgt := 17) dJ0_isLatin1_aae02_3 (by decide) (fun hc => absurd hc (by decide)) (fun _ => ?_)
  refine T_aload_nS dJ0_isLatin1_aae02_6 rfl (n_nd12 hk) ?_
  refine T_getSC dJ0_isLatin1_aae02_7 fJ0_15 hk ?_
  refine U_if_ne (tgt := 17) dJ0_isLatin1_aae02_10 (by decide) (fun hc => absurd rfl hc) (fun _ => ?_)
  refine T_iconst dJ0_isLatin1_aae02_13 (by decide) ?_
  refine T_goto (tgt := 18) dJ0_isLatin1_aae02_14 (by decide) ?_
  exact T_zret dJ0_isLatin1_aae02_18 rfl (by decide) hQ
theorem sLen_shr {k : Nat} (hk : k = 1 ∨ k = 2) : i_shr (sLen k) 0 = sLen k := by rcases hk with rfl | rfl <;> decide
theorem W_length {d k : Nat} (hk : k = 1 ∨ k = 2) (hd : 1 ≤ d) (hQ : Q (some (vI (sLen k))) sh v) : n_T G d 0 0 mJ0_length_8abf5 0 [vS k] [] sh v Q := by
  refine T_aload_nS dJ0_length_8abf5_0 rfl (n_nd12 hk) ?_
  refine T_getSV dJ0_length_8abf5_1 fJ0_9 hk ?_
  refine T_lenS dJ0_length_8abf5_4 hk ?_
  refine T_aload_nS dJ0_length_8abf5_5 rfl (n_nd12 hk) ?_
  refine U_callVS (as := []) (st := [vI (sLen k)]) dJ0_length_8abf5_6 kJ0_coder_7d493 lJ0_335 hk rfl rfl rfl (Nat.le_of_ble_eq_true rfl) (Nat.le_of_ble_eq_true rfl) hd ?_
  refine W_coder hk ?_
  show n_T G d 0 0 mJ0_length_8abf5 9 [vS k] [vI 0, vI (sLen k)] sh v Q
  refine T_ishr dJ0_length_8abf5_9 ?_
  rw [sLen_shr hk]
  exact T_iret dJ0_length_8abf5_10 rfl hQ
theorem W_check3 {d : Nat} {x y : Int} (hx : 0 ≤ x ∧ x < y) (hQ : Q (some (vI x)) sh v) : n_T G d 0 0 mJ3_checkIndex_8e157 0 [vI x, vI y, vS 5] [] sh v Q := by
  refine T_iload_n dJ3_checkIndex_8e157_0 rfl ?_
  refine U_if_lt (tgt := 9) dJ3_checkIndex_8e157_1 (by decide) (fun hc => absurd hc (by omega)) (fun _ => ?_)
  refine T_iload_n dJ3_checkIndex_8e157_4 rfl ?_
  refine T_iload_n dJ3_checkIndex_8e157_5 rfl ?_
  refine U_icmp_lt (tgt := 16) dJ3_checkIndex_8e157_6 (by decide) (fun _ => ?_) (fun hc => absurd hc (by omega))
  refine T_iload_n dJ3_checkIndex_8e157_16 rfl ?_
  exact T_iret dJ3_checkIndex_8e157_17 rfl hQ
theorem W_check0 {d : Nat} {x y : Int} (hd : 1 ≤ d) (hx : 0 ≤ x ∧ x < y) (hQ : Q none sh v) : n_T G d 0 0 mJ0_checkIndex_df160 0 [vI x, vI y] [] sh v Q := by
  refine T_iload_n dJ0_checkIndex_df160_0 rfl ?_
  refine T_iload_n dJ0_checkIndex_df160_1 rfl ?_
  refine T_getsF dJ0_checkIndex_df160_2 fJ0_1053 ?_
  refine U_callS (as := [vI x, vI y, vS 5]) (st := []) dJ0_checkIndex_df160_5 kJ3_checkIndex_8e157 lJ0_1059 rfl rfl (Nat.le_of_ble_eq_true rfl) (Nat.le_of_ble_eq_true rfl) hd ?_
  refine W_check3 hx ?_
  show n_T G d 0 0 mJ0_checkIndex_df160 8 [vI x, vI y] [vI x] sh v Q
  refine T_pop dJ0_checkIndex_df160_8 rfl ?_
  exact T_vret dJ0_checkIndex_df160_9 rfl hQ
theorem n_b255 : ∀ j ∈ List.range 128, i_c (i_and (j : Int) 255) = (j : Int) := by decide +kernel
theorem n_c255 : ∀ j ∈ List.range 128, narrow .char (.int (Int32.ofInt (j : Int))) = .int (Int32.ofInt (j : Int)) := by decide +kernel
theorem W_lcharAt {d k : Nat} {i : Int} (hd : 2 ≤ d) (hk : k = 1 ∨ k = 2) (hi : 0 ≤ i ∧ i < sLen k) (hQ : Q (some (vI (sAt k i.toNat))) sh v) : n_T G d 0 0 mJ1_charAt_3b067 0 [vS (k + 2), vI i] [] sh v Q := by
  have hnd : n_nd (vS (k + 2)) = true := by rcases hk with rfl | rfl <;> rfl
  refine T_iload_n dJ1_charAt_3b067_0 rfl ?_
  refine T_aload_nS dJ1_charAt_3b067_1 rfl hnd ?_
  refine T_lenS dJ1_charAt_3b067_2 hk ?_
  refine U_callS (as := [vI i, vI (sLen k)]) (st := []) dJ1_charAt_3b067_3 kJ0_checkIndex_df160 lJ1_9 rfl rfl (Nat.le_of_ble_eq_true rfl) (Nat.le_of_ble_eq_true rfl) (by omega) ?_
  refine W_check0 (by omega) hi ?_
  show n_T G d 0 0 mJ1_charAt_3b067 6 [vS (k + 2), vI i] [] sh v Q
  refine T_aload_nS dJ1_charAt_3b067_6 rfl hnd ?_
  refine T_iload_n dJ1_charAt_3b067_7 rfl ?_
  refine T_baldS dJ1_charAt_3b067_8 hk hi ?_
  refine T_sipush dJ1_charAt_3b067_9 (by decide) ?_
  refine T_iand dJ1_charAt_3b067_12 ?_
  refine T_i2c dJ1_charAt_3b067_13 ?_
  have hr := sAt_r k i.toNat
  obtain ⟨j, hj⟩ : ∃ j : Nat, sAt k i.toNat = (j : Int) := ⟨(sAt k i.toNat).toNat, by omega⟩
  rw [hj] at hr hQ ⊢
  rw [n_b255 j (List.mem_range.mpr (by omega))]
  exact T_cret dJ1_charAt_3b067_14 rfl (n_c255 j (List.mem_range.mpr (by omega))) hQ
theorem W_charAt {d k : Nat} {i : Int} (hd : 3 ≤ d) (hk : k = 1 ∨ k = 2) (hi : 0 ≤ i ∧ i < sLen k) (hQ : Q (some (vI (sAt k i.toNat))) sh v) : n_T G d 0 0 mJ0_charAt_5068e 0 [vS k, vI i] [] sh v Q := by
  refine T_aload_nS dJ0_charAt_5068e_0 rfl (n_nd12 hk) ?_
  refine U_callVS (as := []) (st := []) dJ0_charAt_5068e_1 kJ0_isLatin1_aae02 lJ0_492 hk rfl rfl rfl (Nat.le_of_ble_eq_true rfl) (Nat.le_of_ble_eq_true rfl) (by omega) ?_
  refine W_isLatin1 hk ?_
  show n_T G d 0 0 mJ0_charAt_5068e 4 [vS k, vI i] [vI 1] sh v Q
  refine U_if_eq (tgt := 16) dJ0_charAt_5068e_4 (by decide) (fun hc => absurd hc (by decide)) (fun _ => ?_)
  refine T_aload_nS dJ0_charAt_5068e_7 rfl (n_nd12 hk) ?_
  refine T_getSV dJ0_charAt_5068e_8 fJ0_9 hk ?_
  refine T_iload_n dJ0_charAt_5068e_11 rfl ?_
  refine U_callS (as := [vS (k + 2), vI i]) (st := []) dJ0_charAt_5068e_12 kJ1_charAt_3b067 lJ0_495 rfl rfl (Nat.le_of_ble_eq_true rfl) (Nat.le_of_ble_eq_true rfl) (by omega) ?_
  refine W_lcharAt (by omega) hk hi ?_
  show n_T G d 0 0 mJ0_charAt_5068e 15 [vS k, vI i] [vI (sAt k i.toNat)] sh v Q
  have hr := sAt_r k i.toNat
  obtain ⟨j, hj⟩ : ∃ j : Nat, sAt k i.toNat = (j : Int) := ⟨(sAt k i.toNat).toNat, by omega⟩
  rw [hj] at hr hQ ⊢
  exact T_cret dJ0_charAt_5068e_15 rfl (n_c255 j (List.mem_range.mpr (by omega))) hQ
theorem U_strlen {k idx : Nat} (hd : decode M.2.1 pc = .ok (.invokevirtual idx, 3)) (hlk : Cond.methodLink M.1.cls idx yJ0_length_8abf5 ∈ wsAll) (hk : k = 1 ∨ k = 2) (hdd : 6 ≤ d) (h8 : (st.map n_ctg).sum ≤ 8) (K : n_T G d 0 0 M (pc + 3) ls (vI (sLen k) :: st) sh v Q) : n_T G d 0 0 M pc ls (vS k :: st) sh v Q :=
  U_callVS (as := []) (N := mJ0_length_8abf5) hd kJ0_length_8abf5 hlk hk rfl rfl rfl (Nat.le_of_ble_eq_true rfl) h8 (by omega) (W_length hk (by omega) K)
theorem U_charAt {k idx : Nat} {i : Int} (hd : decode M.2.1 pc = .ok (.invokevirtual idx, 3)) (hlk : Cond.methodLink M.1.cls idx yJ0_charAt_5068e ∈ wsAll) (hk : k = 1 ∨ k = 2) (hi : 0 ≤ i ∧ i < sLen k) (hdd : 6 ≤ d) (h8 : (st.map n_ctg).sum ≤ 8) (K : n_T G d 0 0 M (pc + 3) ls (vI (sAt k i.toNat) :: st) sh v Q) : n_T G d 0 0 M pc ls (vI i :: vS k :: st) sh v Q :=
  U_callVS (as := [vI i]) (N := mJ0_charAt_5068e) hd kJ0_charAt_5068e hlk hk rfl rfl rfl (Nat.le_of_ble_eq_true rfl) h8 (by omega) (W_charAt (by omega) hk hi K)
end SpecRules

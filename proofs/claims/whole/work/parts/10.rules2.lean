/-! ===== rules of n_T, second row: no wrap-around, positive conditions, named stores, calls that make no cell ===== -/
section Rules2
variable {G : GT} {d rc rs : Nat} {M : MT} {pc : Nat} {ls st : List Vl} {sh : List Sh} {v : VT} {Q : Option Vl → List Sh → VT → Prop}
theorem T_ok (K : (∀ x ∈ ls, n_okv x) → (∀ x ∈ st, n_okv x) → n_T G d rc rs M pc ls st sh v Q) : n_T G d rc rs M pc ls st sh v Q := by
  intro p e R s m args below meth c H locs cells slots mc ms la hx hb hml hr hlk hown hnm hts hKx hdf hdl hcm hsm hmc hms hRel hS hls hst hl
  exact K hls hst p e R s m args below meth c H locs cells slots mc ms la hx hb hml hr hlk hown hnm hts hKx hdf hdl hcm hsm hmc hms hRel hS hls hst hl
theorem U_iadd {x y : Int} (hd : decode M.2.1 pc = .ok (.iadd, 1)) (hr : -2147483648 ≤ x + y ∧ x + y ≤ 2147483647) (K : n_T G d rc rs M (pc + 1) ls (vI (x + y) :: st) sh v Q) : n_T G d rc rs M pc ls (vI y :: vI x :: st) sh v Q := T_iadd hd (by rw [w32_id hr]; exact K)
theorem U_isub {x y : Int} (hd : decode M.2.1 pc = .ok (.isub, 1)) (hr : -2147483648 ≤ x - y ∧ x - y ≤ 2147483647) (K : n_T G d rc rs M (pc + 1) ls (vI (x - y) :: st) sh v Q) : n_T G d rc rs M pc ls (vI y :: vI x :: st) sh v Q := T_isub hd (by rw [w32_id hr]; exact K)
theorem U_imul {x y : Int} (hd : decode M.2.1 pc = .ok (.imul, 1)) (hr : -2147483648 ≤ x * y ∧ x * y ≤ 2147483647) (K : n_T G d rc rs M (pc + 1) ls (vI (x * y) :: st) sh v Q) : n_T G d rc rs M pc ls (vI y :: vI x :: st) sh v Q := T_imul hd (by rw [w32_id hr]; exact K)
theorem U_ladd {x y : Int} (hd : decode M.2.1 pc = .ok (.ladd, 1)) (hr : -9223372036854775808 ≤ x + y ∧ x + y ≤ 9223372036854775807) (K : n_T G d rc rs M (pc + 1) ls (vJ (x + y) :: st) sh v Q) : n_T G d rc rs M pc ls (vJ y :: vJ x :: st) sh v Q := T_ladd hd (by rw [w64_id hr]; exact K)
theorem U_lmul {x y : Int} (hd : decode M.2.1 pc = .ok (.lmul, 1)) (hr : -9223372036854775808 ≤ x * y ∧ x * y ≤ 9223372036854775807) (K : n_T G d rc rs M (pc + 1) ls (vJ (x * y) :: st) sh v Q) : n_T G d rc rs M pc ls (vJ y :: vJ x :: st) sh v Q := T_lmul hd (by rw [w64_id hr]; exact K)
theorem U_l2i {x : Int} (hd : decode M.2.1 pc = .ok (.l2i, 1)) (hr : -2147483648 ≤ x ∧ x ≤ 2147483647) (K : n_T G d rc rs M (pc + 1) ls (vI x :: st) sh v Q) : n_T G d rc rs M pc ls (vJ x :: st) sh v Q := T_l2i hd (by rw [w32_id hr]; exact K)
theorem U_iinc {i : Nat} {n x : Int} (hd : decode M.2.1 pc = .ok (.iinc i n, 3)) (hg : ls[i]? = some (vI x)) (hi : i < M.2.2.1) (hn : n_nol ls i = true) (hr : -2147483648 ≤ x + n ∧ x + n ≤ 2147483647) (K : n_T G d rc rs M (pc + 3) (ls.set i (vI (x + n))) st sh v Q) : n_T G d rc rs M pc ls st sh v Q := T_iinc hd hg hi hn (by rw [w32_id hr]; exact K)
theorem U_if_eq {x off : Int} {tgt : Nat} (hd : decode M.2.1 pc = .ok (.ifCond .eq off, 3)) (ht : (pc : Int) + off = (tgt : Int)) (Kt : x = 0 → n_T G d rc rs M tgt ls st sh v Q) (Kf : ¬ x = 0 → n_T G d rc rs M (pc + 3) ls st sh v Q) : n_T G d rc rs M pc ls (vI x :: st) sh v Q := T_if_eq hd ht Kt Kf
theorem U_if_ne {x off : Int} {tgt : Nat} (hd : decode M.2.1 pc = .ok (.ifCond .ne off, 3)) (ht : (pc : Int) + off = (tgt : Int)) (Kt : ¬ x = 0 → n_T G d rc rs M tgt ls st sh v Q) (Kf : x = 0 → n_T G d rc rs M (pc + 3) ls st sh v Q) : n_T G d rc rs M pc ls (vI x :: st) sh v Q := T_if_ne hd ht Kt Kf
theorem U_if_lt {x off : Int} {tgt : Nat} (hd : decode M.2.1 pc = .ok (.ifCond .lt off, 3)) (ht : (pc : Int) + off = (tgt : Int)) (Kt : x < 0 → n_T G d rc rs M tgt ls st sh v Q) (Kf : 0 ≤ x → n_T G d rc rs M (pc + 3) ls st sh v Q) : n_T G d rc rs M pc ls (vI x :: st) sh v Q := T_if_lt hd ht Kt (fun h => Kf (Int.not_lt.mp h))
theorem U_if_ge {x off : Int} {tgt : Nat} (hd : decode M.2.1 pc = .ok (.ifCond .ge off, 3)) (ht : (pc : Int) + off = (tgt : Int)) (Kt : 0 ≤ x → n_T G d rc rs M tgt ls st sh v Q) (Kf : x < 0 → n_T G d rc rs M (pc + 3) ls st sh v Q) : n_T G d rc rs M pc ls (vI x :: st) sh v Q := T_if_ge hd ht Kt (fun h => Kf (Int.not_le.mp h))
theorem U_if_gt {x off : Int} {tgt : Nat} (hd : decode M.2.1 pc = .ok (.ifCond .gt off, 3)) (ht : (pc : Int) + off = (tgt : Int)) (Kt : 0 < x → n_T G d rc rs M tgt ls st sh v Q) (Kf : x ≤ 0 → n_T G d rc rs M (pc + 3) ls st sh v Q) : n_T G d rc rs M pc ls (vI x :: st) sh v Q := T_if_gt hd ht Kt (fun h => Kf (Int.not_lt.mp h))
theorem U_if_le {x off : Int} {tgt : Nat} (hd : decode M.2.1 pc = .ok (.ifCond .le off, 3)) (ht : (pc : Int) + off = (tgt : Int)) (Kt : x ≤ 0 → n_T G d rc rs M tgt ls st sh v Q) (Kf : 0 < x → n_T G d rc rs M (pc + 3) ls st sh v Q) : n_T G d rc rs M pc ls (vI x :: st) sh v Q := T_if_le hd ht Kt (fun h => Kf (Int.not_le.mp h))
theorem U_icmp_eq {x y off : Int} {tgt : Nat} (hd : decode M.2.1 pc = .ok (.if_icmp .eq off, 3)) (ht : (pc : Int) + off = (tgt : Int)) (Kt : x = y → n_T G d rc rs M tgt ls st sh v Q) (Kf : ¬ x = y → n_T G d rc rs M (pc + 3) ls st sh v Q) : n_T G d rc rs M pc ls (vI y :: vI x :: st) sh v Q := T_icmp_eq hd ht Kt Kf
theorem U_icmp_ne {x y off : Int} {tgt : Nat} (hd : decode M.2.1 pc = .ok (.if_icmp .ne off, 3)) (ht : (pc : Int) + off = (tgt : Int)) (Kt : ¬ x = y → n_T G d rc rs M tgt ls st sh v Q) (Kf : x = y → n_T G d rc rs M (pc + 3) ls st sh v Q) : n_T G d rc rs M pc ls (vI y :: vI x :: st) sh v Q := T_icmp_ne hd ht Kt Kf
theorem U_icmp_lt {x y off : Int} {tgt : Nat} (hd : decode M.2.1 pc = .ok (.if_icmp .lt off, 3)) (ht : (pc : Int) + off = (tgt : Int)) (Kt : x < y → n_T G d rc rs M tgt ls st sh v Q) (Kf : y ≤ x → n_T G d rc rs M (pc + 3) ls st sh v Q) : n_T G d rc rs M pc ls (vI y :: vI x :: st) sh v Q := T_icmp_lt hd ht Kt (fun h => Kf (Int.not_lt.mp h))
theorem U_icmp_ge {x y off : Int} {tgt : Nat} (hd : decode M.2.1 pc = .ok (.if_icmp .ge off, 3)) (ht : (pc : Int) + off = (tgt : Int)) (Kt : y ≤ x → n_T G d rc rs M tgt ls st sh v Q) (Kf : x < y → n_T G d rc rs M (pc + 3) ls st sh v Q) : n_T G d rc rs M pc ls (vI y :: vI x :: st) sh v Q := T_icmp_ge hd ht Kt (fun h => Kf (Int.not_le.mp h))
theorem U_icmp_gt {x y off : Int} {tgt : Nat} (hd : decode M.2.1 pc = .ok (.if_icmp .gt off, 3)) (ht : (pc : Int) + off = (tgt : Int)) (Kt : y < x → n_T G d rc rs M tgt ls st sh v Q) (Kf : x ≤ y → n_T G d rc rs M (pc + 3) ls st sh v Q) : n_T G d rc rs M pc ls (vI y :: vI x :: st) sh v Q := T_icmp_gt hd ht Kt (fun h => Kf (Int.not_lt.mp h))
theorem U_icmp_le {x y off : Int} {tgt : Nat} (hd : decode M.2.1 pc = .ok (.if_icmp .le off, 3)) (ht : (pc : Int) + off = (tgt : Int)) (Kt : x ≤ y → n_T G d rc rs M tgt ls st sh v Q) (Kf : y < x → n_T G d rc rs M (pc + 3) ls st sh v Q) : n_T G d rc rs M pc ls (vI y :: vI x :: st) sh v Q := T_icmp_le hd ht Kt (fun h => Kf (Int.not_le.mp h))
theorem i64_lt {x y : Int} (hx : r64 x) (hy : r64 y) : Int64.ofInt x < Int64.ofInt y ↔ x < y := by
  rw [Int64.lt_iff_toInt_lt, toInt_ofInt64 hx, toInt_ofInt64 hy]
theorem i64_eq {x y : Int} (hx : r64 x) (hy : r64 y) : Int64.ofInt x = Int64.ofInt y ↔ x = y := by
  constructor
  · intro h
    have h1 := congrArg Int64.toInt h
    rwa [toInt_ofInt64 hx, toInt_ofInt64 hy] at h1
  · intro h; rw [h]
theorem l_cmp_eq {x y : Int} (hx : r64 x) (hy : r64 y) : l_cmp x y = if y < x then 1 else if x = y then 0 else -1 := by
  unfold l_cmp lg_cmp
  by_cases h1 : y < x
  · rw [if_pos h1, if_pos (show Int64.ofInt x > Int64.ofInt y from (i64_lt hy hx).mpr h1)]; decide
  · rw [if_neg h1, if_neg (show ¬ Int64.ofInt x > Int64.ofInt y from fun h => h1 ((i64_lt hy hx).mp h))]
    by_cases h2 : x = y
    · rw [if_pos h2, if_pos ((i64_eq hx hy).mpr h2)]; decide
    · rw [if_neg h2, if_neg (fun h => h2 ((i64_eq hx hy).mp h))]; decide
/-- lcmp right ahead of a branch -/
theorem U_lc_lt {x y off : Int} {tgt : Nat} (hc : decode M.2.1 pc = .ok (.lcmp, 1)) (hd : decode M.2.1 (pc + 1) = .ok (.ifCond .lt off, 3)) (ht : ((pc + 1 : Nat) : Int) + off = (tgt : Int)) (Kt : x < y → n_T G d rc rs M tgt ls st sh v Q) (Kf : y ≤ x → n_T G d rc rs M (pc + 1 + 3) ls st sh v Q) : n_T G d rc rs M pc ls (vJ y :: vJ x :: st) sh v Q := by
  refine T_ok (fun _ hst => T_lcmp hc ?_)
  have e := l_cmp_eq (ok1 (ok1 hst).2).1 (ok1 hst).1
  refine T_if_lt hd ht (fun h => Kt ?_) (fun h => Kf ?_) <;> rw [e] at h <;> split at h <;> (try split at h) <;> omega
theorem U_lc_ge {x y off : Int} {tgt : Nat} (hc : decode M.2.1 pc = .ok (.lcmp, 1)) (hd : decode M.2.1 (pc + 1) = .ok (.ifCond .ge off, 3)) (ht : ((pc + 1 : Nat) : Int) + off = (tgt : Int)) (Kt : y ≤ x → n_T G d rc rs M tgt ls st sh v Q) (Kf : x < y → n_T G d rc rs M (pc + 1 + 3) ls st sh v Q) : n_T G d rc rs M pc ls (vJ y :: vJ x :: st) sh v Q := by
  refine T_ok (fun _ hst => T_lcmp hc ?_)
  have e := l_cmp_eq (ok1 (ok1 hst).2).1 (ok1 hst).1
  refine T_if_ge hd ht (fun h => Kt ?_) (fun h => Kf ?_) <;> rw [e] at h <;> split at h <;> (try split at h) <;> omega
theorem U_lc_gt {x y off : Int} {tgt : Nat} (hc : decode M.2.1 pc = .ok (.lcmp, 1)) (hd : decode M.2.1 (pc + 1) = .ok (.ifCond .gt off, 3)) (ht : ((pc + 1 : Nat) : Int) + off = (tgt : Int)) (Kt : y < x → n_T G d rc rs M tgt ls st sh v Q) (Kf : x ≤ y → n_T G d rc rs M (pc + 1 + 3) ls st sh v Q) : n_T G d rc rs M pc ls (vJ y :: vJ x :: st) sh v Q := by
  refine T_ok (fun _ hst => T_lcmp hc ?_)
  have e := l_cmp_eq (ok1 (ok1 hst).2).1 (ok1 hst).1
  refine T_if_gt hd ht (fun h => Kt ?_) (fun h => Kf ?_) <;> rw [e] at h <;> split at h <;> (try split at h) <;> omega
theorem U_lc_le {x y off : Int} {tgt : Nat} (hc : decode M.2.1 pc = .ok (.lcmp, 1)) (hd : decode M.2.1 (pc + 1) = .ok (.ifCond .le off, 3)) (ht : ((pc + 1 : Nat) : Int) + off = (tgt : Int)) (Kt : x ≤ y → n_T G d rc rs M tgt ls st sh v Q) (Kf : y < x → n_T G d rc rs M (pc + 1 + 3) ls st sh v Q) : n_T G d rc rs M pc ls (vJ y :: vJ x :: st) sh v Q := by
  refine T_ok (fun _ hst => T_lcmp hc ?_)
  have e := l_cmp_eq (ok1 (ok1 hst).2).1 (ok1 hst).1
  refine T_if_le hd ht (fun h => Kt ?_) (fun h => Kf ?_) <;> rw [e] at h <;> split at h <;> (try split at h) <;> omega
theorem U_istore_n {k : Fin 4} {x : Int} (hd : decode M.2.1 pc = .ok (.istore_n k, 1)) (hi : (k : Nat) < M.2.2.1) (hn : n_nol ls (k : Nat) = true) (K : ∀ y, y = x → n_T G d rc rs M (pc + 1) (ls.set (k : Nat) (vI y)) st sh v Q) : n_T G d rc rs M pc ls (vI x :: st) sh v Q := T_istore_n hd hi hn (K x rfl)
theorem U_istore {i : Nat} {x : Int} (hd : decode M.2.1 pc = .ok (.istore i, 2)) (hi : i < M.2.2.1) (hn : n_nol ls i = true) (K : ∀ y, y = x → n_T G d rc rs M (pc + 2) (ls.set i (vI y)) st sh v Q) : n_T G d rc rs M pc ls (vI x :: st) sh v Q := T_istore hd hi hn (K x rfl)
theorem U_lstore_n {k : Fin 4} {x : Int} (hd : decode M.2.1 pc = .ok (.lstore_n k, 1)) (hi : (k : Nat) + 1 < M.2.2.1) (hn : n_nol ls (k : Nat) = true) (K : ∀ y, y = x → n_T G d rc rs M (pc + 1) ((ls.set (k : Nat) (vJ y)).set ((k : Nat) + 1) (vS 9)) st sh v Q) : n_T G d rc rs M pc ls (vJ x :: st) sh v Q := T_lstore_n hd hi hn (K x rfl)
theorem U_putI {a ci j idx : Nat} {x : Int} {rs' : List Nat} (hd : decode M.2.1 pc = .ok (.putfield idx, 3)) (F : n_F M.1.cls idx ci j) (hfin : ((n_cls ci).2.1 j).2.2.2 = false) (hi : c_ft ci j = .int) (hs : sh[a]? = some (.inl (ci, rs'))) (K : ∀ w, w = upd2 v a j x → n_T G d rc rs M (pc + 3) ls st sh w Q) : n_T G d rc rs M pc ls (vI x :: vR a :: st) sh v Q := T_putI hd F hfin hi hs (K _ rfl)
theorem U_putZ {a ci j idx : Nat} {x : Int} {rs' : List Nat} (hd : decode M.2.1 pc = .ok (.putfield idx, 3)) (F : n_F M.1.cls idx ci j) (hfin : ((n_cls ci).2.1 j).2.2.2 = false) (hi : c_ft ci j = .boolean) (hs : sh[a]? = some (.inl (ci, rs'))) (h01 : x = 0 ∨ x = 1) (K : ∀ w, w = upd2 v a j x → n_T G d rc rs M (pc + 3) ls st sh w Q) : n_T G d rc rs M pc ls (vI x :: vR a :: st) sh v Q := T_putZ hd F hfin hi hs h01 (K _ rfl)
theorem U_putJ {a ci j idx : Nat} {x : Int} {rs' : List Nat} (hd : decode M.2.1 pc = .ok (.putfield idx, 3)) (F : n_F M.1.cls idx ci j) (hfin : ((n_cls ci).2.1 j).2.2.2 = false) (hi : c_ft ci j = .long) (hs : sh[a]? = some (.inl (ci, rs'))) (K : ∀ w, w = upd2 v a j x → n_T G d rc rs M (pc + 3) ls st sh w Q) : n_T G d rc rs M pc ls (vJ x :: vR a :: st) sh v Q := T_putJ hd F hfin hi hs (K _ rfl)
theorem U_iast {a n : Nat} {r : List Nat} {i x : Int} (hd : decode M.2.1 pc = .ok (.iastore, 1)) (hs : sh[a]? = some (.inr (0, n, r))) (hi : 0 ≤ i ∧ i < n) (K : ∀ w, w = upd2 v a i.toNat x → n_T G d rc rs M (pc + 1) ls st sh w Q) : n_T G d rc rs M pc ls (vI x :: vI i :: vR a :: st) sh v Q := T_iast hd hs hi (K _ rfl)
theorem U_last {a n : Nat} {r : List Nat} {i x : Int} (hd : decode M.2.1 pc = .ok (.lastore, 1)) (hs : sh[a]? = some (.inr (1, n, r))) (hi : 0 ≤ i ∧ i < n) (K : ∀ w, w = upd2 v a i.toNat x → n_T G d rc rs M (pc + 1) ls st sh w Q) : n_T G d rc rs M pc ls (vJ x :: vI i :: vR a :: st) sh v Q := T_last hd hs hi (K _ rfl)
theorem U_bast {a n : Nat} {r : List Nat} {i x : Int} (hd : decode M.2.1 pc = .ok (.bastore, 1)) (hs : sh[a]? = some (.inr (2, n, r))) (hi : 0 ≤ i ∧ i < n) (K : ∀ w, w = upd2 v a i.toNat (i_b x) → n_T G d rc rs M (pc + 1) ls st sh w Q) : n_T G d rc rs M pc ls (vI x :: vI i :: vR a :: st) sh v Q := T_bast hd hs hi (K _ rfl)
/-- where a call goes on, by what it gave back -/
abbrev n_goon (G : GT) (d : Nat) (M : MT) (pc : Nat) (ls st : List Vl) (Q : Option Vl → List Sh → VT → Prop) : Option Vl → List Sh → VT → Prop := fun r sh' v' => n_T G d 0 0 M pc ls (r.toList ++ st) sh' v' Q
theorem U_callV {N : MT} {n idx a ci : Nat} {refs : List Nat} {as stk : List Vl} (hd : decode M.2.1 pc = .ok (.invokevirtual idx, 3)) (hN : n_MV N n) (hlk : Cond.methodLink M.1.cls idx N.1 ∈ wsAll) (hs : sh[a]? = some (.inl (ci, refs))) (hc : vwCl[ci]? = some (n_cls ci)) (hcn : (n_cls ci).1 = N.1.cls) (hstk : stk = as.reverse ++ (vR a :: st)) (has : as.length = n) (hsz : (n_lay (vR a :: as)).length ≤ N.2.2.1) (h8 : (st.map n_ctg).sum ≤ 8) (hdd : 1 ≤ d) (K : n_T G (d - 1) 0 0 N 0 (n_ini N (vR a :: as)) [] sh v (n_goon G d M (pc + 3) ls st Q)) : n_T G d 0 0 M pc ls stk sh v Q :=
  T_callV (d' := d - 1) (rc' := 0) (rs' := 0) hd hN hlk hs hc hcn hstk has rfl hsz h8 (by omega) (Nat.le_refl 0) (Nat.le_refl 0) K
theorem U_callS {N : MT} {n idx : Nat} {as stk : List Vl} (hd : decode M.2.1 pc = .ok (.invokestatic idx, 3)) (hN : n_MS N n) (hlk : Cond.methodLink M.1.cls idx N.1 ∈ wsAll) (hstk : stk = as.reverse ++ st) (has : as.length = n) (hsz : (n_lay as).length ≤ N.2.2.1) (h8 : (st.map n_ctg).sum ≤ 8) (hdd : 1 ≤ d) (K : n_T G (d - 1) 0 0 N 0 (n_ini N as) [] sh v (n_goon G d M (pc + 3) ls st Q)) : n_T G d 0 0 M pc ls stk sh v Q :=
  T_callS (d' := d - 1) (rc' := 0) (rs' := 0) hd hN hlk hstk has rfl hsz h8 (by omega) (Nat.le_refl 0) (Nat.le_refl 0) K
theorem U_callSN {N : MT} {n idx : Nat} {host : String} {as stk : List Vl} (hd : decode M.2.1 pc = .ok (.invokestatic idx, 3)) (hN : n_MS N n) (hlk : Cond.methodLinkNest M.1.cls idx N.1 host ∈ wsNest) (hstk : stk = as.reverse ++ st) (has : as.length = n) (hsz : (n_lay as).length ≤ N.2.2.1) (h8 : (st.map n_ctg).sum ≤ 8) (hdd : 1 ≤ d) (K : n_T G (d - 1) 0 0 N 0 (n_ini N as) [] sh v (n_goon G d M (pc + 3) ls st Q)) : n_T G d 0 0 M pc ls stk sh v Q :=
  T_callSN (d' := d - 1) (rc' := 0) (rs' := 0) hd hN hlk hstk has rfl hsz h8 (by omega) (Nat.le_refl 0) (Nat.le_refl 0) K
theorem U_tab {x dflt lo hi off : Int} {offs : Array Int} {len tgt : Nat} (hd : decode M.2.1 pc = .ok (.tableswitch dflt lo hi offs, len)) (y : Int) (hx : x = y) (h1 : lo ≤ y ∧ y ≤ hi) (ho : offs[(y - lo).toNat]? = some off) (ht : (pc : Int) + off = (tgt : Int)) (K : n_T G d rc rs M tgt ls st sh v Q) : n_T G d rc rs M pc ls (vI x :: st) sh v Q := by
  subst hx
  exact T_tabIn hd h1.1 h1.2 ho ht K
theorem n_cut {A B C : Prop} (h : A → B) (ha : A) (k : B → C) : C := k (h ha)
theorem n_nd12 {k : Nat} (h : k = 1 ∨ k = 2) : n_nd (vS k) = true := by rcases h with rfl | rfl <;> rfl
end Rules2

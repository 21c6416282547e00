/-! ===== the constructors: rules with named states ===== -/
section InitRules
variable {G : GT} {d rc rs : Nat} {M : MT} {pc : Nat} {ls st : List Vl} {sh : List Sh} {v : VT} {Q : Option Vl → List Sh → VT → Prop}
/-- the numbers behind the constructors: 0 but at these places -/
def EX : List (Nat × Nat) := [(0, 17), (3, 2), (138, 1), (197, 3), (197, 4), (218, 8), (218, 41)]
def I0 (a j : Nat) : Int := if (a, j) ∈ EX then (if (a, j) ∈ ([(3, 2), (197, 3), (197, 4), (218, 8)] : List (Nat × Nat)) then -1 else 1) else 0
def ini (v : VT) (n : Nat) (E : List (Nat × Nat)) : Prop := ∀ a, a < n → ∀ j, (a, j) ∉ E → v a j = I0 a j
theorem ini_new {v w : VT} {n : Nat} {E E' : List (Nat × Nat)} (h : ini v n E) (hw : w = setv v n (fun _ => 0)) (h1 : ∀ p ∈ EX, p.1 = n → p ∈ E') (h2 : ∀ p ∈ E, p ∈ E') : ini w (n + 1) E' := by
  intro a ha j hj
  rw [hw]
  unfold setv
  by_cases e : a = n
  · subst e
    rw [if_pos rfl]
    unfold I0
    rw [if_neg (fun q => hj (h1 _ q rfl))]
  · rw [if_neg e]
    exact h a (by omega) j (fun q => hj (h2 _ q))
theorem ini_put {v w : VT} {n a j : Nat} {x : Int} {E E' : List (Nat × Nat)} (h : ini v n E) (hw : w = upd2 v a j x) (hx : x = I0 a j) (hE : ∀ p ∈ E, p ∈ E' ∨ p = (a, j)) : ini w n E' := by
  intro a' ha j' hj
  rw [hw]
  by_cases e : a' = a ∧ j' = j
  · obtain ⟨rfl, rfl⟩ := e
    rw [upd2_same]; exact hx
  · rw [upd2_ne _ _ e]
    refine h a' ha j' (fun q => ?_)
    rcases hE _ q with h1 | h1
    · exact hj h1
    · cases h1; exact e ⟨rfl, rfl⟩
theorem ini_mna {v w : VT} {n k : Nat} {E : List (Nat × Nat)} (h : ini v n E) (hw : w = fun a => if a < n then v a else fun _ => 0) (h1 : ∀ p ∈ EX, p.1 < n ∨ n + k ≤ p.1) : ini w (n + k) E := by
  intro a ha j hj
  rw [hw]
  by_cases e : a < n
  · show (if a < n then v a else fun _ => 0) j = _
    rw [if_pos e]
    exact h a e j hj
  · show (if a < n then v a else fun _ => 0) j = _
    rw [if_neg e]
    unfold I0
    rw [if_neg (fun q => by rcases h1 _ q with h2 | h2 <;> simp at h2 <;> omega)]
theorem T_room {rc' rs' : Nat} (K : n_T G d rc rs M pc ls st sh v Q) (h1 : rc ≤ rc') (h2 : rs ≤ rs') : n_T G d rc' rs' M pc ls st sh v Q := by
  intro p e R s m args below meth c H locs cells slots mc ms la hx hb hml hr hlk hown hnm hts hKx hdf hdl hcm hsm hmc hms hRel hS hls hst hl
  exact K p e R s m args below meth c H locs cells slots mc ms la hx hb hml hr hlk hown hnm hts hKx hdf hdl (by omega) (by omega) hmc hms hRel hS hls hst hl
theorem V_new {ci idx L rc' rs' : Nat} {sh' : List Sh} (hd : decode M.2.1 pc = .ok (.new idx, 3)) (C : n_clsOk ci) (hty : n_okTy ci) (hcl : Cond.classLink M.1.cls idx (n_cls ci).1 ∈ wsAll) (hinst : Cond.instantiable (n_cls ci).1 (c_nf ci) ∈ wsAll) (hini : Cond.initialized (n_cls ci).1 ∈ wsAll) (hL : sh.length = L) (hsh : sh ++ [.inl (ci, List.replicate (c_nf ci) 0)] = sh') (hrc : rc' + 1 = rc) (hrs : rs' + c_nf ci = rs) (K : ∀ w, w = setv v L (fun _ => 0) → n_T G d rc' rs' M (pc + 3) ls (vR L :: st) sh' w Q) : n_T G d rc rs M pc ls st sh v Q := by
  subst hL; subst hsh; subst hrc; subst hrs
  exact T_new hd C hty hcl hinst hini (K _ rfl)
theorem V_newa0 {n L rc' rs' : Nat} {sh' : List Sh} (hd : decode M.2.1 pc = .ok (.newarray .int, 2)) (hw : Cond.arrayClass .int ∈ wsAll) (hn : n ≤ 100000) (hL : sh.length = L) (hsh : sh ++ [.inr (0, n, [])] = sh') (hrc : rc' + 1 = rc) (hrs : rs' + n = rs) (K : ∀ w, w = setv v L (fun _ => 0) → n_T G d rc' rs' M (pc + 2) ls (vR L :: st) sh' w Q) : n_T G d rc rs M pc ls (vI (n : Int) :: st) sh v Q := by
  subst hL; subst hsh; subst hrc; subst hrs
  exact T_newa0 hd hw hn (K _ rfl)
theorem V_newa1 {n L rc' rs' : Nat} {sh' : List Sh} (hd : decode M.2.1 pc = .ok (.newarray .long, 2)) (hw : Cond.arrayClass .long ∈ wsAll) (hn : n ≤ 100000) (hL : sh.length = L) (hsh : sh ++ [.inr (1, n, [])] = sh') (hrc : rc' + 1 = rc) (hrs : rs' + n = rs) (K : ∀ w, w = setv v L (fun _ => 0) → n_T G d rc' rs' M (pc + 2) ls (vR L :: st) sh' w Q) : n_T G d rc rs M pc ls (vI (n : Int) :: st) sh v Q := by
  subst hL; subst hsh; subst hrc; subst hrs
  exact T_newa1 hd hw hn (K _ rfl)
theorem V_newa2 {n L rc' rs' : Nat} {sh' : List Sh} (hd : decode M.2.1 pc = .ok (.newarray .byte, 2)) (hw : Cond.arrayClass .byte ∈ wsAll) (hn : n ≤ 100000) (hL : sh.length = L) (hsh : sh ++ [.inr (2, n, [])] = sh') (hrc : rc' + 1 = rc) (hrs : rs' + n = rs) (K : ∀ w, w = setv v L (fun _ => 0) → n_T G d rc' rs' M (pc + 2) ls (vR L :: st) sh' w Q) : n_T G d rc rs M pc ls (vI (n : Int) :: st) sh v Q := by
  subst hL; subst hsh; subst hrc; subst hrs
  exact T_newa2 hd hw hn (K _ rfl)
theorem V_anew {n idx L rc' rs' : Nat} {sh' : List Sh} (hd : decode M.2.1 pc = .ok (.anewarray idx, 3)) (hcl : Cond.classLink M.1.cls idx "CubeNets$Graph" ∈ wsAll) (hn : n ≤ 100000) (hL : sh.length = L) (hsh : sh ++ [.inr (4, n, List.replicate n 0)] = sh') (hrc : rc' + 1 = rc) (hrs : rs' + n = rs) (K : ∀ w, w = setv v L (fun _ => 0) → n_T G d rc' rs' M (pc + 3) ls (vR L :: st) sh' w Q) : n_T G d rc rs M pc ls (vI (n : Int) :: st) sh v Q := by
  subst hL; subst hsh; subst hrc; subst hrs
  exact T_anew hd hcl hn (K _ rfl)
theorem V_mna {n k idx L rc' rs' : Nat} {sh' : List Sh} (hd : decode M.2.1 pc = .ok (.multianewarray idx 2, 4)) (hcl : Cond.classLink M.1.cls idx ("[" ++ (FieldType.array .int).toString) ∈ wsAll) (hw : Cond.arrayClass .int ∈ wsAll) (hn : n ≤ 1000) (hk : k ≤ 1000) (hL : sh.length = L) (hsh : sh ++ n_mshape L n k = sh') (hrc : rc' + 1 + n = rc) (hrs : rs' + n + n * k = rs) (K : ∀ w, w = (fun a => if a < L then v a else fun _ => 0) → n_T G d rc' rs' M (pc + 4) ls (vR L :: st) sh' w Q) : n_T G d rc rs M pc ls (vI (k : Int) :: vI (n : Int) :: st) sh v Q := by
  subst hL; subst hsh; subst hrc; subst hrs
  exact T_mna hd hcl hw hn hk (K _ rfl)
theorem V_putF {a ci j idx r : Nat} {rs' : List Nat} {sh' : List Sh} (hd : decode M.2.1 pc = .ok (.putfield idx, 3)) (F : n_F M.1.cls idx ci j) (hfin : ((n_cls ci).2.1 j).2.2.2 = true) (hnm9 : M.1.name = "<init>") (hcl : (n_cls ci).1 = M.1.cls) (hA : n_isA (c_ft ci j) = true) (hs : sh[a]? = some (.inl (ci, rs'))) (hlen : rs'.length = c_nf ci) (hsh : sh.set a (.inl (ci, rs'.set j (r + 1))) = sh') (K : n_T G d rc rs M (pc + 3) ls st sh' v Q) : n_T G d rc rs M pc ls (vR r :: vR a :: st) sh v Q := by
  subst hsh
  exact T_putF hd F hfin hnm9 hcl hA hs hlen K
theorem V_aast {a n q : Nat} {r rs' : List Nat} {i : Int} {sh' : List Sh} (hd : decode M.2.1 pc = .ok (.aastore, 1)) (hs : sh[a]? = some (.inr (4, n, r))) (hlen : r.length = n) (hi : 0 ≤ i ∧ i < n) (hq : sh[q]? = some (.inl (0, rs'))) (hsh : sh.set a (.inr (4, n, r.set i.toNat (q + 1))) = sh') (K : n_T G d rc rs M (pc + 1) ls st sh' v Q) : n_T G d rc rs M pc ls (vR q :: vI i :: vR a :: st) sh v Q := by
  subst hsh
  exact T_aast hd hs hlen hi hq K
theorem V_callI {N : MT} {idx a rc1 rs1 rc2 rs2 : Nat} (hd : decode M.2.1 pc = .ok (.invokespecial idx, 3)) (hN : n_MI N 0) (hlk : Cond.methodLink M.1.cls idx N.1 ∈ wsAll) (hsz : 1 ≤ N.2.2.1) (h8 : (st.map n_ctg).sum ≤ 8) (hdd : 1 ≤ d) (hrc : rc1 + rc2 = rc) (hrs : rs1 + rs2 = rs) (K : n_T G (d - 1) rc1 rs1 N 0 (n_ini N [vR a]) [] sh v (fun r sh' v' => n_T G d rc2 rs2 M (pc + 3) ls (r.toList ++ st) sh' v' Q)) : n_T G d rc rs M pc ls (vR a :: st) sh v Q := by
  subst hrc; subst hrs
  refine T_callI (as := []) (d' := d - 1) (rc' := rc1) (rs' := rs1) hd hN hlk rfl rfl rfl hsz h8 (by omega) (by omega) (by omega) ?_
  rw [show rc1 + rc2 - rc1 = rc2 by omega, show rs1 + rs2 - rs1 = rs2 by omega]
  exact K
end InitRules

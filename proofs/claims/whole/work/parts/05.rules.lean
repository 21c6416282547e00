/-! ===== rules of n_T: an instruction a rule ===== -/
theorem ok1 {a : Vl} {l : List Vl} (h : ∀ x ∈ a :: l, n_okv x) : n_okv a ∧ ∀ x ∈ l, n_okv x := List.forall_mem_cons.mp h
theorem okc {a : Vl} {l : List Vl} (h1 : n_okv a) (h2 : ∀ x ∈ l, n_okv x) : ∀ x ∈ a :: l, n_okv x := List.forall_mem_cons.mpr ⟨h1, h2⟩
theorem n_asc_cons {G : GT} {x : Vl} (hx : n_nd x = true) (i : Nat) (r : List Vl) : n_asc G i (x :: r) = (i, n_gv G x) :: n_asc G (i + 1) r := if_pos hx
theorem n_asc_skip {G : GT} {x : Vl} (hx : n_nd x = false) (i : Nat) (r : List Vl) : n_asc G i (x :: r) = n_asc G (i + 1) r := if_neg (by rw [hx]; decide)
theorem n_asc_mem {G : GT} : ∀ (l : List Vl) (i : Nat) (q : Nat × Value), q ∈ n_asc G i l ↔ ∃ (k : Nat) (x : Vl), l[k]? = some x ∧ n_nd x = true ∧ q = (i + k, n_gv G x)
  | [], i, q => by simp [n_asc]
  | y :: r, i, q => by
    have ih := n_asc_mem (G := G) r (i + 1) q
    by_cases hy : n_nd y = true
    · rw [n_asc_cons hy, List.mem_cons, ih]
      constructor
      · rintro (h | ⟨k, x, h1, h2, h3⟩)
        · exact ⟨0, y, rfl, hy, h⟩
        · exact ⟨k + 1, x, h1, h2, by rw [h3]; congr 1; omega⟩
      · rintro ⟨k, x, h1, h2, h3⟩
        cases k with
        | zero => cases h1; exact Or.inl h3
        | succ k => exact Or.inr ⟨k, x, h1, h2, by rw [h3]; congr 1; omega⟩
    · have hy' : n_nd y = false := by simpa using hy
      rw [n_asc_skip hy', ih]
      constructor
      · rintro ⟨k, x, h1, h2, h3⟩
        exact ⟨k + 1, x, h1, h2, by rw [h3]; congr 1; omega⟩
      · rintro ⟨k, x, h1, h2, h3⟩
        cases k with
        | zero => cases h1; exact absurd h2 hy
        | succ k => exact ⟨k, x, h1, h2, by rw [h3]; congr 1; omega⟩
theorem n_lat {G : GT} {la : Array Slot} {nL : Nat} {ls : List Vl} (h : lv_has la nL (n_asc G 0 ls)) {k : Nat} {x : Vl} (hk : ls[k]? = some x) (hx : n_nd x = true) : la[k]? = some (.val (n_gv G x)) :=
  h.2.2 (k, n_gv G x) ((n_asc_mem ls 0 _).mpr ⟨k, x, hk, hx, by rw [Nat.zero_add]⟩)
def n_isJ : Vl → Bool
  | .inr (.inl _) => true
  | _ => false
/-- no long stands right ahead of place i -/
def n_nol (ls : List Vl) (i : Nat) : Bool := match i with
  | 0 => true
  | k + 1 => !(n_isJ (ls.getD k (vI 0)))
theorem n_cat1 {G : GT} {x : Vl} (h : n_isJ x = false) : (n_gv G x).category = 1 := by
  match x, h with
  | .inl _, _ => rfl
  | .inr (.inr (.inl _)), _ => rfl
  | .inr (.inr (.inr k)), _ => exact n_sv_cat G k
theorem n_ok_set {ls : List Vl} {i : Nat} {x : Vl} (h : ∀ y ∈ ls, n_okv y) (hx : n_okv x) : ∀ y ∈ ls.set i x, n_okv y := by
  intro y hy
  rcases List.mem_or_eq_of_mem_set hy with h1 | h1
  · exact h y h1
  · rw [h1]; exact hx
theorem n_set1 {G : GT} {la' : Array Slot} {nL : Nat} {ls : List Vl} {i : Nat} {x : Vl} (hn : n_nol ls i = true) (h : lv_has la' nL ((i, n_gv G x) :: (n_asc G 0 ls).filter (fun q => !(q.1 == i) && !(q.1 + 1 == i && q.2.category == 2)))) : lv_has la' nL (n_asc G 0 (ls.set i x)) := by
  refine ⟨h.1, h.2.1, fun q hq => h.2.2 q ?_⟩
  obtain ⟨k, y, h1, h2, rfl⟩ := (n_asc_mem _ 0 q).mp hq
  rw [Nat.zero_add]
  by_cases hk : k = i
  · subst hk
    have hl : k < ls.length := by
      have := (List.getElem?_eq_some_iff.mp h1).1
      simpa using this
    rw [List.getElem?_set_self hl] at h1
    cases h1
    exact List.mem_cons_self
  · rw [List.getElem?_set_ne (Ne.symm hk)] at h1
    refine List.mem_cons_of_mem _ (List.mem_filter.mpr ⟨(n_asc_mem _ 0 _).mpr ⟨k, y, h1, h2, by rw [Nat.zero_add]⟩, ?_⟩)
    have e1 : (k == i) = false := by simpa using hk
    show (!(k == i) && !(k + 1 == i && (n_gv G y).category == 2)) = true
    rw [e1]
    by_cases h3 : k + 1 = i
    · subst h3
      have h4 : n_isJ y = false := by
        have : ls.getD k (vI 0) = y := by simp [List.getD, h1]
        have hn' : (!(n_isJ (ls.getD k (vI 0)))) = true := hn
        rw [this] at hn'
        simpa using hn'
      simp [n_cat1 (G := G) h4]
    · have : (k + 1 == i) = false := by simpa using h3
      rw [this]; rfl
theorem n_set2 {G : GT} {la' : Array Slot} {nL : Nat} {ls : List Vl} {i : Nat} {x : Vl} (hn : n_nol ls i = true) (h : lv_has la' nL ((i, n_gv G x) :: (n_asc G 0 ls).filter (fun q => !(q.1 == i) && (!(q.1 == i + 1) && !(q.1 + 1 == i && q.2.category == 2))))) : lv_has la' nL (n_asc G 0 ((ls.set i x).set (i + 1) (vS 9))) := by
  refine ⟨h.1, h.2.1, fun q hq => h.2.2 q ?_⟩
  obtain ⟨k, y, h1, h2, rfl⟩ := (n_asc_mem _ 0 q).mp hq
  rw [Nat.zero_add]
  by_cases hk2 : k = i + 1
  · subst hk2
    have hl : i + 1 < (ls.set i x).length := by
      have := (List.getElem?_eq_some_iff.mp h1).1
      simpa using this
    rw [List.getElem?_set_self hl] at h1
    cases h1
    cases h2
  · rw [List.getElem?_set_ne (Ne.symm hk2)] at h1
    by_cases hk : k = i
    · subst hk
      have hl : k < ls.length := by
        have := (List.getElem?_eq_some_iff.mp h1).1
        simpa using this
      rw [List.getElem?_set_self hl] at h1
      cases h1
      exact List.mem_cons_self
    · rw [List.getElem?_set_ne (Ne.symm hk)] at h1
      refine List.mem_cons_of_mem _ (List.mem_filter.mpr ⟨(n_asc_mem _ 0 _).mpr ⟨k, y, h1, h2, by rw [Nat.zero_add]⟩, ?_⟩)
      have e1 : (k == i) = false := by simpa using hk
      have e2 : (k == i + 1) = false := by simpa using hk2
      show (!(k == i) && (!(k == i + 1) && !(k + 1 == i && (n_gv G y).category == 2))) = true
      rw [e1, e2]
      by_cases h3 : k + 1 = i
      · subst h3
        have h4 : n_isJ y = false := by
          have : ls.getD k (vI 0) = y := by simp [List.getD, h1]
          have hn' : (!(n_isJ (ls.getD k (vI 0)))) = true := hn
          rw [this] at hn'
          simpa using hn'
        simp [n_cat1 (G := G) h4]
      · have : (k + 1 == i) = false := by simpa using h3
        rw [this]; rfl
section Rules
variable {G : GT} {d rc rs : Nat} {M : MT} {pc : Nat} {ls st : List Vl} {sh : List Sh} {v : VT} {Q : Option Vl → List Sh → VT → Prop}
/-- fewer locals are known: a place holds what it held, or nothing is known of it -/
def n_le : List Vl → List Vl → Prop
  | _, [] => True
  | [], y :: r => n_nd y = false ∧ n_le [] r
  | x :: l, y :: r => (y = x ∨ n_nd y = false) ∧ n_le l r
theorem n_le_get : ∀ (l r : List Vl) (k : Nat) (y : Vl), n_le l r → r[k]? = some y → n_nd y = true → l[k]? = some y
  | _, [], k, y, _, h, _ => by simp at h
  | [], z :: r, 0, y, hle, h, hn => by cases h; rw [hle.1] at hn; cases hn
  | [], z :: r, k + 1, y, hle, h, hn => by
    have := n_le_get [] r k y hle.2 h hn
    simp at this
  | x :: l, z :: r, 0, y, hle, h, hn => by
    cases h
    rcases hle.1 with h1 | h1
    · rw [h1]; rfl
    · rw [h1] at hn; cases hn
  | x :: l, z :: r, k + 1, y, hle, h, hn => n_le_get l r k y hle.2 h hn
theorem n_le_ok : ∀ (l r : List Vl), n_le l r → (∀ x ∈ l, n_okv x) → ∀ x ∈ r, n_okv x
  | _, [], _, _ => fun x h => by cases h
  | [], y :: r, hle, hok => by
    refine okc ?_ (n_le_ok [] r hle.2 hok)
    exact n_nd_ok hle.1
  | x :: l, y :: r, hle, hok => by
    refine okc ?_ (n_le_ok l r hle.2 (ok1 hok).2)
    rcases hle.1 with h1 | h1
    · rw [h1]; exact (ok1 hok).1
    · exact n_nd_ok h1
theorem T_drop {ls' : List Vl} (K : n_T G d rc rs M pc ls' st sh v Q) (h : n_le ls ls') : n_T G d rc rs M pc ls st sh v Q := by
  intro p e R s m args below meth c H locs cells slots mc ms la hx hb hml hr hlk hown hnm hts hKx hdf hdl hcm hsm hmc hms hRel hS hls hst hl
  refine K p e R s m args below meth c H locs cells slots mc ms la hx hb hml hr hlk hown hnm hts hKx hdf hdl hcm hsm hmc hms hRel hS (n_le_ok _ _ h hls) hst ⟨hl.1, hl.2.1, fun q hq => hl.2.2 q ?_⟩
  obtain ⟨k, y, h1, h2, rfl⟩ := (n_asc_mem _ 0 q).mp hq
  exact (n_asc_mem _ 0 _).mpr ⟨k, y, n_le_get _ _ _ _ h h1 h2, h2, rfl⟩
theorem T_mono {Q' : Option Vl → List Sh → VT → Prop} (K : n_T G d rc rs M pc ls st sh v Q') (h : ∀ r sh' v', Q' r sh' v' → Q r sh' v') : n_T G d rc rs M pc ls st sh v Q := by
  intro p e R s m args below meth c H locs cells slots mc ms la hx hb hml hr hlk hown hnm hts hKx hdf hdl hcm hsm hmc hms hRel hS hls hst hl
  intro T hT X
  obtain ⟨t, a1, o, b1, b2, ⟨⟨r, sh', v', c1, c2, c3, c4⟩, c5⟩, b4⟩ := K p e R s m args below meth c H locs cells slots mc ms la hx hb hml hr hlk hown hnm hts hKx hdf hdl hcm hsm hmc hms hRel hS hls hst hl T hT X
  exact ⟨t, a1, o, b1, b2, ⟨⟨r, sh', v', c1, c2, c3, h _ _ _ c4⟩, c5⟩, b4⟩
theorem T_iload_n {k : Fin 4} {x : Int} (hd : decode M.2.1 pc = .ok (.iload_n k, 1)) (hg : ls[(k : Nat)]? = some (vI x)) (K : n_T G d rc rs M (pc + 1) ls (vI x :: st) sh v Q) : n_T G d rc rs M pc ls st sh v Q := by
  intro p e R s m args below meth c H locs cells slots mc ms la hx hb hml hr hlk hown hnm hts hKx hdf hdl hcm hsm hmc hms hRel hS hls hst hl
  exact lv_iload_n hx hb hd rfl (n_lat hl hg rfl) (K p e R s m args below meth c H locs cells slots mc ms la hx hb hml hr hlk hown hnm hts hKx hdf hdl hcm hsm hmc hms hRel hS hls (okc (hls _ (List.mem_of_getElem? hg)) hst) hl)
theorem T_iload {i : Nat} {x : Int} (hd : decode M.2.1 pc = .ok (.iload i, 2)) (hg : ls[i]? = some (vI x)) (K : n_T G d rc rs M (pc + 2) ls (vI x :: st) sh v Q) : n_T G d rc rs M pc ls st sh v Q := by
  intro p e R s m args below meth c H locs cells slots mc ms la hx hb hml hr hlk hown hnm hts hKx hdf hdl hcm hsm hmc hms hRel hS hls hst hl
  exact lv_iload hx hb hd (n_lat hl hg rfl) (K p e R s m args below meth c H locs cells slots mc ms la hx hb hml hr hlk hown hnm hts hKx hdf hdl hcm hsm hmc hms hRel hS hls (okc (hls _ (List.mem_of_getElem? hg)) hst) hl)
theorem T_lload_n {k : Fin 4} {x : Int} (hd : decode M.2.1 pc = .ok (.lload_n k, 1)) (hg : ls[(k : Nat)]? = some (vJ x)) (K : n_T G d rc rs M (pc + 1) ls (vJ x :: st) sh v Q) : n_T G d rc rs M pc ls st sh v Q := by
  intro p e R s m args below meth c H locs cells slots mc ms la hx hb hml hr hlk hown hnm hts hKx hdf hdl hcm hsm hmc hms hRel hS hls hst hl
  exact lv_lload_n hx hb hd rfl (n_lat hl hg rfl) (K p e R s m args below meth c H locs cells slots mc ms la hx hb hml hr hlk hown hnm hts hKx hdf hdl hcm hsm hmc hms hRel hS hls (okc (hls _ (List.mem_of_getElem? hg)) hst) hl)
theorem T_lload {i : Nat} {x : Int} (hd : decode M.2.1 pc = .ok (.lload i, 2)) (hg : ls[i]? = some (vJ x)) (K : n_T G d rc rs M (pc + 2) ls (vJ x :: st) sh v Q) : n_T G d rc rs M pc ls st sh v Q := by
  intro p e R s m args below meth c H locs cells slots mc ms la hx hb hml hr hlk hown hnm hts hKx hdf hdl hcm hsm hmc hms hRel hS hls hst hl
  exact lv_lload hx hb hd (n_lat hl hg rfl) (K p e R s m args below meth c H locs cells slots mc ms la hx hb hml hr hlk hown hnm hts hKx hdf hdl hcm hsm hmc hms hRel hS hls (okc (hls _ (List.mem_of_getElem? hg)) hst) hl)
theorem T_aload_n {k : Fin 4} {a : Nat} (hd : decode M.2.1 pc = .ok (.aload_n k, 1)) (hg : ls[(k : Nat)]? = some (vR a)) (K : n_T G d rc rs M (pc + 1) ls (vR a :: st) sh v Q) : n_T G d rc rs M pc ls st sh v Q := by
  intro p e R s m args below meth c H locs cells slots mc ms la hx hb hml hr hlk hown hnm hts hKx hdf hdl hcm hsm hmc hms hRel hS hls hst hl
  exact lv_aload_n hx hb hd rfl (n_lat hl hg rfl) (K p e R s m args below meth c H locs cells slots mc ms la hx hb hml hr hlk hown hnm hts hKx hdf hdl hcm hsm hmc hms hRel hS hls (okc trivial hst) hl)
theorem T_aload {i a : Nat} (hd : decode M.2.1 pc = .ok (.aload i, 2)) (hg : ls[i]? = some (vR a)) (K : n_T G d rc rs M (pc + 2) ls (vR a :: st) sh v Q) : n_T G d rc rs M pc ls st sh v Q := by
  intro p e R s m args below meth c H locs cells slots mc ms la hx hb hml hr hlk hown hnm hts hKx hdf hdl hcm hsm hmc hms hRel hS hls hst hl
  exact lv_aload hx hb hd (n_lat hl hg rfl) (K p e R s m args below meth c H locs cells slots mc ms la hx hb hml hr hlk hown hnm hts hKx hdf hdl hcm hsm hmc hms hRel hS hls (okc trivial hst) hl)
theorem T_aload_nS {k : Fin 4} {a : Nat} (hd : decode M.2.1 pc = .ok (.aload_n k, 1)) (hg : ls[(k : Nat)]? = some (vS a)) (h9 : n_nd (vS a) = true) (K : n_T G d rc rs M (pc + 1) ls (vS a :: st) sh v Q) : n_T G d rc rs M pc ls st sh v Q := by
  intro p e R s m args below meth c H locs cells slots mc ms la hx hb hml hr hlk hown hnm hts hKx hdf hdl hcm hsm hmc hms hRel hS hls hst hl
  have e9 : n_gv G (vS a) = .ref (g_sp G a) := n_sv_ref h9
  have hL9 := n_lat hl hg h9
  have K9 := (K p e R s m args below meth c H locs cells slots mc ms la hx hb hml hr hlk hown hnm hts hKx hdf hdl hcm hsm hmc hms hRel hS hls (okc trivial hst) hl)
  rw [List.map_cons, e9] at K9
  rw [e9] at hL9
  exact lv_aload_n hx hb hd rfl hL9 K9
theorem T_aloadS {i a : Nat} (hd : decode M.2.1 pc = .ok (.aload i, 2)) (hg : ls[i]? = some (vS a)) (h9 : n_nd (vS a) = true) (K : n_T G d rc rs M (pc + 2) ls (vS a :: st) sh v Q) : n_T G d rc rs M pc ls st sh v Q := by
  intro p e R s m args below meth c H locs cells slots mc ms la hx hb hml hr hlk hown hnm hts hKx hdf hdl hcm hsm hmc hms hRel hS hls hst hl
  have e9 : n_gv G (vS a) = .ref (g_sp G a) := n_sv_ref h9
  have hL9 := n_lat hl hg h9
  have K9 := (K p e R s m args below meth c H locs cells slots mc ms la hx hb hml hr hlk hown hnm hts hKx hdf hdl hcm hsm hmc hms hRel hS hls (okc trivial hst) hl)
  rw [List.map_cons, e9] at K9
  rw [e9] at hL9
  exact lv_aload hx hb hd hL9 K9
theorem T_istore_n {k : Fin 4} {x : Int} (hd : decode M.2.1 pc = .ok (.istore_n k, 1)) (hi : (k : Nat) < M.2.2.1) (hn : n_nol ls (k : Nat) = true) (K : n_T G d rc rs M (pc + 1) (ls.set (k : Nat) (vI x)) st sh v Q) : n_T G d rc rs M pc ls (vI x :: st) sh v Q := by
  intro p e R s m args below meth c H locs cells slots mc ms la hx hb hml hr hlk hown hnm hts hKx hdf hdl hcm hsm hmc hms hRel hS hls hst hl
  exact lv_istore_n hx hb hd rfl hl hi rfl (fun la' hl' => (K p e R s m args below meth c H locs cells slots mc ms la' hx hb hml hr hlk hown hnm hts hKx hdf hdl hcm hsm hmc hms hRel hS (n_ok_set hls (ok1 hst).1) (ok1 hst).2 (n_set1 hn hl')))
theorem T_istore {i : Nat} {x : Int} (hd : decode M.2.1 pc = .ok (.istore i, 2)) (hi : i < M.2.2.1) (hn : n_nol ls i = true) (K : n_T G d rc rs M (pc + 2) (ls.set i (vI x)) st sh v Q) : n_T G d rc rs M pc ls (vI x :: st) sh v Q := by
  intro p e R s m args below meth c H locs cells slots mc ms la hx hb hml hr hlk hown hnm hts hKx hdf hdl hcm hsm hmc hms hRel hS hls hst hl
  exact lv_istore hx hb hd hl hi rfl (fun la' hl' => (K p e R s m args below meth c H locs cells slots mc ms la' hx hb hml hr hlk hown hnm hts hKx hdf hdl hcm hsm hmc hms hRel hS (n_ok_set hls (ok1 hst).1) (ok1 hst).2 (n_set1 hn hl')))
theorem T_astore_n {k : Fin 4} {x : Nat} (hd : decode M.2.1 pc = .ok (.astore_n k, 1)) (hi : (k : Nat) < M.2.2.1) (hn : n_nol ls (k : Nat) = true) (K : n_T G d rc rs M (pc + 1) (ls.set (k : Nat) (vR x)) st sh v Q) : n_T G d rc rs M pc ls (vR x :: st) sh v Q := by
  intro p e R s m args below meth c H locs cells slots mc ms la hx hb hml hr hlk hown hnm hts hKx hdf hdl hcm hsm hmc hms hRel hS hls hst hl
  exact lv_astore_n hx hb hd rfl hl hi rfl (fun la' hl' => (K p e R s m args below meth c H locs cells slots mc ms la' hx hb hml hr hlk hown hnm hts hKx hdf hdl hcm hsm hmc hms hRel hS (n_ok_set hls (ok1 hst).1) (ok1 hst).2 (n_set1 hn hl')))
theorem T_astore {i : Nat} {x : Nat} (hd : decode M.2.1 pc = .ok (.astore i, 2)) (hi : i < M.2.2.1) (hn : n_nol ls i = true) (K : n_T G d rc rs M (pc + 2) (ls.set i (vR x)) st sh v Q) : n_T G d rc rs M pc ls (vR x :: st) sh v Q := by
  intro p e R s m args below meth c H locs cells slots mc ms la hx hb hml hr hlk hown hnm hts hKx hdf hdl hcm hsm hmc hms hRel hS hls hst hl
  exact lv_astore hx hb hd hl hi rfl (fun la' hl' => (K p e R s m args below meth c H locs cells slots mc ms la' hx hb hml hr hlk hown hnm hts hKx hdf hdl hcm hsm hmc hms hRel hS (n_ok_set hls (ok1 hst).1) (ok1 hst).2 (n_set1 hn hl')))
theorem T_lstore_n {k : Fin 4} {x : Int} (hd : decode M.2.1 pc = .ok (.lstore_n k, 1)) (hi : (k : Nat) + 1 < M.2.2.1) (hn : n_nol ls (k : Nat) = true) (K : n_T G d rc rs M (pc + 1) ((ls.set (k : Nat) (vJ x)).set ((k : Nat) + 1) (vS 9)) st sh v Q) : n_T G d rc rs M pc ls (vJ x :: st) sh v Q := by
  intro p e R s m args below meth c H locs cells slots mc ms la hx hb hml hr hlk hown hnm hts hKx hdf hdl hcm hsm hmc hms hRel hS hls hst hl
  exact lv_lstore_n hx hb hd rfl hl hi rfl (fun la' hl' => (K p e R s m args below meth c H locs cells slots mc ms la' hx hb hml hr hlk hown hnm hts hKx hdf hdl hcm hsm hmc hms hRel hS (n_ok_set (n_ok_set hls (ok1 hst).1) trivial) (ok1 hst).2 (n_set2 hn hl')))
theorem T_lstore {i : Nat} {x : Int} (hd : decode M.2.1 pc = .ok (.lstore i, 2)) (hi : i + 1 < M.2.2.1) (hn : n_nol ls i = true) (K : n_T G d rc rs M (pc + 2) ((ls.set i (vJ x)).set (i + 1) (vS 9)) st sh v Q) : n_T G d rc rs M pc ls (vJ x :: st) sh v Q := by
  intro p e R s m args below meth c H locs cells slots mc ms la hx hb hml hr hlk hown hnm hts hKx hdf hdl hcm hsm hmc hms hRel hS hls hst hl
  exact lv_lstore hx hb hd hl hi rfl (fun la' hl' => (K p e R s m args below meth c H locs cells slots mc ms la' hx hb hml hr hlk hown hnm hts hKx hdf hdl hcm hsm hmc hms hRel hS (n_ok_set (n_ok_set hls (ok1 hst).1) trivial) (ok1 hst).2 (n_set2 hn hl')))
theorem w32_r (x : Int) : r32 (w32 x) := r32_toInt _
theorem w64_r (x : Int) : r64 (w64 x) := r64_toInt _
theorem of_w32 (x : Int) : Int32.ofInt (w32 x) = Int32.ofInt x := Int32_ofInt_toInt' _
theorem T_iinc {i : Nat} {n x : Int} (hd : decode M.2.1 pc = .ok (.iinc i n, 3)) (hg : ls[i]? = some (vI x)) (hi : i < M.2.2.1) (hn : n_nol ls i = true) (K : n_T G d rc rs M (pc + 3) (ls.set i (vI (w32 (x + n)))) st sh v Q) : n_T G d rc rs M pc ls st sh v Q := by
  intro p e R s m args below meth c H locs cells slots mc ms la hx hb hml hr hlk hown hnm hts hKx hdf hdl hcm hsm hmc hms hRel hS hls hst hl
  have hm := (n_asc_mem (G := G) ls 0 (i, n_gv G (vI x))).mpr ⟨i, vI x, hg, rfl, by rw [Nat.zero_add]⟩
  obtain ⟨k, hk⟩ := List.getElem?_of_mem hm
  have ev : Int32.ofInt x + Int32.ofInt n = Int32.ofInt (w32 (x + n)) := by rw [of_w32, Int32.ofInt_add]
  exact lv_iinc (k := k) hx hb hd hl hk ev hi rfl (fun la' hl' => (K p e R s m args below meth c H locs cells slots mc ms la' hx hb hml hr hlk hown hnm hts hKx hdf hdl hcm hsm hmc hms hRel hS (n_ok_set hls (w32_r _)) hst (n_set1 (x := vI (w32 (x + n))) hn hl')))
theorem T_iconst {n : Int} (hd : decode M.2.1 pc = .ok (.iconst n, 1)) (hn : -128 ≤ n ∧ n ≤ 127) (K : n_T G d rc rs M (pc + 1) ls (vI n :: st) sh v Q) : n_T G d rc rs M pc ls st sh v Q := by
  intro p e R s m args below meth c H locs cells slots mc ms la hx hb hml hr hlk hown hnm hts hKx hdf hdl hcm hsm hmc hms hRel hS hls hst hl
  exact lv_iconst hx hb hd rfl (K p e R s m args below meth c H locs cells slots mc ms la hx hb hml hr hlk hown hnm hts hKx hdf hdl hcm hsm hmc hms hRel hS hls (okc (by show r32 n; unfold r32; omega) hst) hl)
theorem i8_ext {n : Int} (hn : -128 ≤ n ∧ n ≤ 127) : (Int8.ofInt n).toInt32 = Int32.ofInt n := by
  rw [← Int32_ofInt_toInt' (Int8.ofInt n).toInt32, Int8.toInt_toInt32, Int8.toInt_ofInt_of_le (by omega) (by omega)]
theorem i16_ext {n : Int} (hn : -32768 ≤ n ∧ n ≤ 32767) : (Int16.ofInt n).toInt32 = Int32.ofInt n := by
  rw [← Int32_ofInt_toInt' (Int16.ofInt n).toInt32, Int16.toInt_toInt32, Int16.toInt_ofInt_of_le (by omega) (by omega)]
theorem T_bipush {n : Int} (hd : decode M.2.1 pc = .ok (.bipush n, 2)) (hn : -128 ≤ n ∧ n ≤ 127) (K : n_T G d rc rs M (pc + 2) ls (vI n :: st) sh v Q) : n_T G d rc rs M pc ls st sh v Q := by
  intro p e R s m args below meth c H locs cells slots mc ms la hx hb hml hr hlk hown hnm hts hKx hdf hdl hcm hsm hmc hms hRel hS hls hst hl
  exact lv_bipush hx hb hd (i8_ext hn) (K p e R s m args below meth c H locs cells slots mc ms la hx hb hml hr hlk hown hnm hts hKx hdf hdl hcm hsm hmc hms hRel hS hls (okc (by show r32 n; unfold r32; omega) hst) hl)
theorem T_sipush {n : Int} (hd : decode M.2.1 pc = .ok (.sipush n, 3)) (hn : -32768 ≤ n ∧ n ≤ 32767) (K : n_T G d rc rs M (pc + 3) ls (vI n :: st) sh v Q) : n_T G d rc rs M pc ls st sh v Q := by
  intro p e R s m args below meth c H locs cells slots mc ms la hx hb hml hr hlk hown hnm hts hKx hdf hdl hcm hsm hmc hms hRel hS hls hst hl
  exact lv_sipush hx hb hd (i16_ext hn) (K p e R s m args below meth c H locs cells slots mc ms la hx hb hml hr hlk hown hnm hts hKx hdf hdl hcm hsm hmc hms hRel hS hls (okc (by show r32 n; unfold r32; omega) hst) hl)
theorem T_lconst {k : Fin 2} (hd : decode M.2.1 pc = .ok (.lconst k, 1)) (K : n_T G d rc rs M (pc + 1) ls (vJ ((k : Nat) : Int) :: st) sh v Q) : n_T G d rc rs M pc ls st sh v Q := by
  intro p e R s m args below meth c H locs cells slots mc ms la hx hb hml hr hlk hown hnm hts hKx hdf hdl hcm hsm hmc hms hRel hS hls hst hl
  exact lv_lconst hx hb hd (by match k with | 0 => rfl | 1 => rfl) (K p e R s m args below meth c H locs cells slots mc ms la hx hb hml hr hlk hown hnm hts hKx hdf hdl hcm hsm hmc hms hRel hS hls (okc (by show r64 _; have := k.isLt; unfold r64; omega) hst) hl)
theorem T_ldc {i : Nat} {n : Int} (hd : decode M.2.1 pc = .ok (.ldc i, 2)) (hw : Cond.constant M.1.cls i (Int32.ofInt n) ∈ wsAll) (hn : r32 n) (K : n_T G d rc rs M (pc + 2) ls (vI n :: st) sh v Q) : n_T G d rc rs M pc ls st sh v Q := by
  intro p e R s m args below meth c H locs cells slots mc ms la hx hb hml hr hlk hown hnm hts hKx hdf hdl hcm hsm hmc hms hRel hS hls hst hl
  exact lv_ldc hx hb hown (hts _ hw) hd (K p e R s m args below meth c H locs cells slots mc ms la hx hb hml hr hlk hown hnm hts hKx hdf hdl hcm hsm hmc hms hRel hS hls (okc hn hst) hl)
theorem T_ldcw {i : Nat} {n : Int} (hd : decode M.2.1 pc = .ok (.ldc_w i, 3)) (hw : Cond.constant M.1.cls i (Int32.ofInt n) ∈ wsAll) (hn : r32 n) (K : n_T G d rc rs M (pc + 3) ls (vI n :: st) sh v Q) : n_T G d rc rs M pc ls st sh v Q := by
  intro p e R s m args below meth c H locs cells slots mc ms la hx hb hml hr hlk hown hnm hts hKx hdf hdl hcm hsm hmc hms hRel hS hls hst hl
  exact lv_ldcw hx hb hown (hts _ hw) hd (K p e R s m args below meth c H locs cells slots mc ms la hx hb hml hr hlk hown hnm hts hKx hdf hdl hcm hsm hmc hms hRel hS hls (okc hn hst) hl)
theorem T_ldc2 {i : Nat} {n : Int} (hd : decode M.2.1 pc = .ok (.ldc2_w i, 3)) (hw : Cond.constantLong M.1.cls i (Int64.ofInt n) ∈ wsAll) (hn : r64 n) (K : n_T G d rc rs M (pc + 3) ls (vJ n :: st) sh v Q) : n_T G d rc rs M pc ls st sh v Q := by
  intro p e R s m args below meth c H locs cells slots mc ms la hx hb hml hr hlk hown hnm hts hKx hdf hdl hcm hsm hmc hms hRel hS hls hst hl
  exact lv_ldc2 hx hb hown (hts _ hw) hd (K p e R s m args below meth c H locs cells slots mc ms la hx hb hml hr hlk hown hnm hts hKx hdf hdl hcm hsm hmc hms hRel hS hls (okc hn hst) hl)
/-- the int instructions, as functions of whole numbers -/
def i_and (x y : Int) : Int := (Int32.ofInt x &&& Int32.ofInt y).toInt
def i_or (x y : Int) : Int := (Int32.ofInt x ||| Int32.ofInt y).toInt
def i_xor (x y : Int) : Int := (Int32.ofInt x ^^^ Int32.ofInt y).toInt
def i_shl (x y : Int) : Int := (Int32.ofInt x <<< (Int32.ofInt y &&& 31)).toInt
def i_shr (x y : Int) : Int := (Int32.ofInt x >>> (Int32.ofInt y &&& 31)).toInt
def i_ushr (x y : Int) : Int := ((Int32.ofInt x).toUInt32 >>> ((Int32.ofInt y).toUInt32 &&& Int32.toUInt32 31)).toInt32.toInt
def i_div (x y : Int) : Int := (Int32.ofInt x / Int32.ofInt y).toInt
def i_rem (x y : Int) : Int := (Int32.ofInt x - Int32.ofInt x / Int32.ofInt y * Int32.ofInt y).toInt
def l_div (x y : Int) : Int := (Int64.ofInt x / Int64.ofInt y).toInt
def l_rem (x y : Int) : Int := (Int64.ofInt x - Int64.ofInt x / Int64.ofInt y * Int64.ofInt y).toInt
def i_b (x : Int) : Int := (Int32.ofInt x).toInt8.toInt32.toInt
def i_c (x : Int) : Int := ((Int32.ofInt x).toUInt32 % 65536).toInt32.toInt
def l_cmp (x y : Int) : Int := (lg_cmp (Int64.ofInt x) (Int64.ofInt y)).toInt
theorem n_gvI (G : GT) (z : Int32) : Value.int z = n_gv G (vI z.toInt) := by
  show Value.int z = Value.int (Int32.ofInt z.toInt)
  rw [Int32_ofInt_toInt']
theorem n_gvJ (G : GT) (z : Int64) : Value.long z = n_gv G (vJ z.toInt) := by
  show Value.long z = Value.long (Int64.ofInt z.toInt)
  simp
theorem w32_add (x y : Int) : w32 (x + y) = (Int32.ofInt x + Int32.ofInt y).toInt := by rw [w32, Int32.ofInt_add]
theorem w32_mul (x y : Int) : w32 (x * y) = (Int32.ofInt x * Int32.ofInt y).toInt := by rw [w32, Int32.ofInt_mul]
theorem w32_sub (x y : Int) : w32 (x - y) = (Int32.ofInt x - Int32.ofInt y).toInt := by rw [w32, Int32.ofInt_sub]
theorem w64_add (x y : Int) : w64 (x + y) = (Int64.ofInt x + Int64.ofInt y).toInt := by rw [w64, Int64.ofInt_add]
theorem w64_mul (x y : Int) : w64 (x * y) = (Int64.ofInt x * Int64.ofInt y).toInt := by rw [w64, Int64.ofInt_mul]
theorem i32_ne0 {y : Int} (hy : r32 y) (h : y ≠ 0) : ¬ Int32.ofInt y = 0 := by
  rw [i32_0, i32_eq hy r32_0]; exact h
theorem i64_ne0 {y : Int} (hy : r64 y) (h : y ≠ 0) : ¬ Int64.ofInt y = 0 := by
  intro h2
  have h3 := congrArg Int64.toInt h2
  rw [toInt_ofInt64 hy] at h3
  exact h h3
theorem T_iadd {x y : Int} (hd : decode M.2.1 pc = .ok (.iadd, 1)) (K : n_T G d rc rs M (pc + 1) ls (vI (w32 (x + y)) :: st) sh v Q) : n_T G d rc rs M pc ls (vI y :: vI x :: st) sh v Q := by
  intro p e R s m args below meth c H locs cells slots mc ms la hx hb hml hr hlk hown hnm hts hKx hdf hdl hcm hsm hmc hms hRel hS hls hst hl
  refine lv_iadd hx hb hd ?_
  rw [n_gvI G, ← w32_add]
  exact (K p e R s m args below meth c H locs cells slots mc ms la hx hb hml hr hlk hown hnm hts hKx hdf hdl hcm hsm hmc hms hRel hS hls (okc (by show r32 _; first | exact w32_r _ | exact w64_r _) (ok1 (ok1 hst).2).2) hl)
theorem T_isub {x y : Int} (hd : decode M.2.1 pc = .ok (.isub, 1)) (K : n_T G d rc rs M (pc + 1) ls (vI (w32 (x - y)) :: st) sh v Q) : n_T G d rc rs M pc ls (vI y :: vI x :: st) sh v Q := by
  intro p e R s m args below meth c H locs cells slots mc ms la hx hb hml hr hlk hown hnm hts hKx hdf hdl hcm hsm hmc hms hRel hS hls hst hl
  refine lv_isub hx hb hd ?_
  rw [n_gvI G, ← w32_sub]
  exact (K p e R s m args below meth c H locs cells slots mc ms la hx hb hml hr hlk hown hnm hts hKx hdf hdl hcm hsm hmc hms hRel hS hls (okc (by show r32 _; first | exact w32_r _ | exact w64_r _) (ok1 (ok1 hst).2).2) hl)
theorem T_imul {x y : Int} (hd : decode M.2.1 pc = .ok (.imul, 1)) (K : n_T G d rc rs M (pc + 1) ls (vI (w32 (x * y)) :: st) sh v Q) : n_T G d rc rs M pc ls (vI y :: vI x :: st) sh v Q := by
  intro p e R s m args below meth c H locs cells slots mc ms la hx hb hml hr hlk hown hnm hts hKx hdf hdl hcm hsm hmc hms hRel hS hls hst hl
  refine lv_imul hx hb hd ?_
  rw [n_gvI G, ← w32_mul]
  exact (K p e R s m args below meth c H locs cells slots mc ms la hx hb hml hr hlk hown hnm hts hKx hdf hdl hcm hsm hmc hms hRel hS hls (okc (by show r32 _; first | exact w32_r _ | exact w64_r _) (ok1 (ok1 hst).2).2) hl)
theorem T_iand {x y : Int} (hd : decode M.2.1 pc = .ok (.iand, 1)) (K : n_T G d rc rs M (pc + 1) ls (vI (i_and x y) :: st) sh v Q) : n_T G d rc rs M pc ls (vI y :: vI x :: st) sh v Q := by
  intro p e R s m args below meth c H locs cells slots mc ms la hx hb hml hr hlk hown hnm hts hKx hdf hdl hcm hsm hmc hms hRel hS hls hst hl
  refine lv_iand hx hb hd ?_
  rw [n_gvI G]
  exact (K p e R s m args below meth c H locs cells slots mc ms la hx hb hml hr hlk hown hnm hts hKx hdf hdl hcm hsm hmc hms hRel hS hls (okc (r32_toInt _) (ok1 (ok1 hst).2).2) hl)
theorem T_ior {x y : Int} (hd : decode M.2.1 pc = .ok (.ior, 1)) (K : n_T G d rc rs M (pc + 1) ls (vI (i_or x y) :: st) sh v Q) : n_T G d rc rs M pc ls (vI y :: vI x :: st) sh v Q := by
  intro p e R s m args below meth c H locs cells slots mc ms la hx hb hml hr hlk hown hnm hts hKx hdf hdl hcm hsm hmc hms hRel hS hls hst hl
  refine lv_ior hx hb hd ?_
  rw [n_gvI G]
  exact (K p e R s m args below meth c H locs cells slots mc ms la hx hb hml hr hlk hown hnm hts hKx hdf hdl hcm hsm hmc hms hRel hS hls (okc (r32_toInt _) (ok1 (ok1 hst).2).2) hl)
theorem T_ixor {x y : Int} (hd : decode M.2.1 pc = .ok (.ixor, 1)) (K : n_T G d rc rs M (pc + 1) ls (vI (i_xor x y) :: st) sh v Q) : n_T G d rc rs M pc ls (vI y :: vI x :: st) sh v Q := by
  intro p e R s m args below meth c H locs cells slots mc ms la hx hb hml hr hlk hown hnm hts hKx hdf hdl hcm hsm hmc hms hRel hS hls hst hl
  refine lv_ixor hx hb hd ?_
  rw [n_gvI G]
  exact (K p e R s m args below meth c H locs cells slots mc ms la hx hb hml hr hlk hown hnm hts hKx hdf hdl hcm hsm hmc hms hRel hS hls (okc (r32_toInt _) (ok1 (ok1 hst).2).2) hl)
theorem T_ishl {x y : Int} (hd : decode M.2.1 pc = .ok (.ishl, 1)) (K : n_T G d rc rs M (pc + 1) ls (vI (i_shl x y) :: st) sh v Q) : n_T G d rc rs M pc ls (vI y :: vI x :: st) sh v Q := by
  intro p e R s m args below meth c H locs cells slots mc ms la hx hb hml hr hlk hown hnm hts hKx hdf hdl hcm hsm hmc hms hRel hS hls hst hl
  refine lv_ishl hx hb hd ?_
  rw [n_gvI G]
  exact (K p e R s m args below meth c H locs cells slots mc ms la hx hb hml hr hlk hown hnm hts hKx hdf hdl hcm hsm hmc hms hRel hS hls (okc (r32_toInt _) (ok1 (ok1 hst).2).2) hl)
theorem T_ishr {x y : Int} (hd : decode M.2.1 pc = .ok (.ishr, 1)) (K : n_T G d rc rs M (pc + 1) ls (vI (i_shr x y) :: st) sh v Q) : n_T G d rc rs M pc ls (vI y :: vI x :: st) sh v Q := by
  intro p e R s m args below meth c H locs cells slots mc ms la hx hb hml hr hlk hown hnm hts hKx hdf hdl hcm hsm hmc hms hRel hS hls hst hl
  refine lv_ishr hx hb hd ?_
  rw [n_gvI G]
  exact (K p e R s m args below meth c H locs cells slots mc ms la hx hb hml hr hlk hown hnm hts hKx hdf hdl hcm hsm hmc hms hRel hS hls (okc (r32_toInt _) (ok1 (ok1 hst).2).2) hl)
theorem T_idiv {x y : Int} (hd : decode M.2.1 pc = .ok (.idiv, 1)) (hne : y ≠ 0) (K : n_T G d rc rs M (pc + 1) ls (vI (i_div x y) :: st) sh v Q) : n_T G d rc rs M pc ls (vI y :: vI x :: st) sh v Q := by
  intro p e R s m args below meth c H locs cells slots mc ms la hx hb hml hr hlk hown hnm hts hKx hdf hdl hcm hsm hmc hms hRel hS hls hst hl
  refine lv_idiv hx hb hd (i32_ne0 (ok1 hst).1 hne) ?_
  rw [n_gvI G]
  exact (K p e R s m args below meth c H locs cells slots mc ms la hx hb hml hr hlk hown hnm hts hKx hdf hdl hcm hsm hmc hms hRel hS hls (okc (r32_toInt _) (ok1 (ok1 hst).2).2) hl)
theorem T_irem {x y : Int} (hd : decode M.2.1 pc = .ok (.irem, 1)) (hne : y ≠ 0) (K : n_T G d rc rs M (pc + 1) ls (vI (i_rem x y) :: st) sh v Q) : n_T G d rc rs M pc ls (vI y :: vI x :: st) sh v Q := by
  intro p e R s m args below meth c H locs cells slots mc ms la hx hb hml hr hlk hown hnm hts hKx hdf hdl hcm hsm hmc hms hRel hS hls hst hl
  refine lv_irem hx hb hd (i32_ne0 (ok1 hst).1 hne) ?_
  rw [n_gvI G]
  exact (K p e R s m args below meth c H locs cells slots mc ms la hx hb hml hr hlk hown hnm hts hKx hdf hdl hcm hsm hmc hms hRel hS hls (okc (r32_toInt _) (ok1 (ok1 hst).2).2) hl)
theorem T_ladd {x y : Int} (hd : decode M.2.1 pc = .ok (.ladd, 1)) (K : n_T G d rc rs M (pc + 1) ls (vJ (w64 (x + y)) :: st) sh v Q) : n_T G d rc rs M pc ls (vJ y :: vJ x :: st) sh v Q := by
  intro p e R s m args below meth c H locs cells slots mc ms la hx hb hml hr hlk hown hnm hts hKx hdf hdl hcm hsm hmc hms hRel hS hls hst hl
  refine lv_ladd hx hb hd ?_
  rw [n_gvJ G, ← w64_add]
  exact (K p e R s m args below meth c H locs cells slots mc ms la hx hb hml hr hlk hown hnm hts hKx hdf hdl hcm hsm hmc hms hRel hS hls (okc (by show r64 _; first | exact w32_r _ | exact w64_r _) (ok1 (ok1 hst).2).2) hl)
theorem T_lmul {x y : Int} (hd : decode M.2.1 pc = .ok (.lmul, 1)) (K : n_T G d rc rs M (pc + 1) ls (vJ (w64 (x * y)) :: st) sh v Q) : n_T G d rc rs M pc ls (vJ y :: vJ x :: st) sh v Q := by
  intro p e R s m args below meth c H locs cells slots mc ms la hx hb hml hr hlk hown hnm hts hKx hdf hdl hcm hsm hmc hms hRel hS hls hst hl
  refine lv_lmul hx hb hd ?_
  rw [n_gvJ G, ← w64_mul]
  exact (K p e R s m args below meth c H locs cells slots mc ms la hx hb hml hr hlk hown hnm hts hKx hdf hdl hcm hsm hmc hms hRel hS hls (okc (by show r64 _; first | exact w32_r _ | exact w64_r _) (ok1 (ok1 hst).2).2) hl)
theorem T_ldiv {x y : Int} (hd : decode M.2.1 pc = .ok (.ldiv, 1)) (hne : y ≠ 0) (K : n_T G d rc rs M (pc + 1) ls (vJ (l_div x y) :: st) sh v Q) : n_T G d rc rs M pc ls (vJ y :: vJ x :: st) sh v Q := by
  intro p e R s m args below meth c H locs cells slots mc ms la hx hb hml hr hlk hown hnm hts hKx hdf hdl hcm hsm hmc hms hRel hS hls hst hl
  refine lv_ldiv hx hb hd (i64_ne0 (ok1 hst).1 hne) ?_
  rw [n_gvJ G]
  exact (K p e R s m args below meth c H locs cells slots mc ms la hx hb hml hr hlk hown hnm hts hKx hdf hdl hcm hsm hmc hms hRel hS hls (okc (r64_toInt _) (ok1 (ok1 hst).2).2) hl)
theorem T_lrem {x y : Int} (hd : decode M.2.1 pc = .ok (.lrem, 1)) (hne : y ≠ 0) (K : n_T G d rc rs M (pc + 1) ls (vJ (l_rem x y) :: st) sh v Q) : n_T G d rc rs M pc ls (vJ y :: vJ x :: st) sh v Q := by
  intro p e R s m args below meth c H locs cells slots mc ms la hx hb hml hr hlk hown hnm hts hKx hdf hdl hcm hsm hmc hms hRel hS hls hst hl
  refine lv_lrem hx hb hd (i64_ne0 (ok1 hst).1 hne) ?_
  rw [n_gvJ G]
  exact (K p e R s m args below meth c H locs cells slots mc ms la hx hb hml hr hlk hown hnm hts hKx hdf hdl hcm hsm hmc hms hRel hS hls (okc (r64_toInt _) (ok1 (ok1 hst).2).2) hl)
theorem T_iushr {x y : Int} (hd : decode M.2.1 pc = .ok (.iushr, 1)) (K : n_T G d rc rs M (pc + 1) ls (vI (i_ushr x y) :: st) sh v Q) : n_T G d rc rs M pc ls (vI y :: vI x :: st) sh v Q := by
  intro p e R s m args below meth c H locs cells slots mc ms la hx hb hml hr hlk hown hnm hts hKx hdf hdl hcm hsm hmc hms hRel hS hls hst hl
  refine lv_iushr hx hb hd rfl ?_
  rw [n_gvI G]
  exact (K p e R s m args below meth c H locs cells slots mc ms la hx hb hml hr hlk hown hnm hts hKx hdf hdl hcm hsm hmc hms hRel hS hls (okc (r32_toInt _) (ok1 (ok1 hst).2).2) hl)
theorem T_lcmp {x y : Int} (hd : decode M.2.1 pc = .ok (.lcmp, 1)) (K : n_T G d rc rs M (pc + 1) ls (vI (l_cmp x y) :: st) sh v Q) : n_T G d rc rs M pc ls (vJ y :: vJ x :: st) sh v Q := by
  intro p e R s m args below meth c H locs cells slots mc ms la hx hb hml hr hlk hown hnm hts hKx hdf hdl hcm hsm hmc hms hRel hS hls hst hl
  refine W.lcmp hx hb hd ?_
  rw [n_gvI G]
  exact (K p e R s m args below meth c H locs cells slots mc ms la hx hb hml hr hlk hown hnm hts hKx hdf hdl hcm hsm hmc hms hRel hS hls (okc (r32_toInt _) (ok1 (ok1 hst).2).2) hl)
theorem i2l_eq {x : Int} (h : r32 x) : (Int32.ofInt x).toInt64 = Int64.ofInt x := by
  have h1 : (Int32.ofInt x).toInt64.toInt = x := by rw [Int32.toInt_toInt64, toInt_ofInt32 h]
  have h2 : Int64.ofInt (Int32.ofInt x).toInt64.toInt = (Int32.ofInt x).toInt64 := Int64.ofInt_toInt _
  rw [← h2, h1]
theorem T_i2l {x : Int} (hd : decode M.2.1 pc = .ok (.i2l, 1)) (K : n_T G d rc rs M (pc + 1) ls (vJ x :: st) sh v Q) : n_T G d rc rs M pc ls (vI x :: st) sh v Q := by
  intro p e R s m args below meth c H locs cells slots mc ms la hx hb hml hr hlk hown hnm hts hKx hdf hdl hcm hsm hmc hms hRel hS hls hst hl
  have h0 : r32 x := (ok1 hst).1
  exact lv_i2l hx hb hd (i2l_eq h0) (K p e R s m args below meth c H locs cells slots mc ms la hx hb hml hr hlk hown hnm hts hKx hdf hdl hcm hsm hmc hms hRel hS hls (okc (by have h1 := h0; unfold r32 at h1; show r64 x; unfold r64; omega) (ok1 hst).2) hl)
theorem l2i_eq (x : Int) : (Int64.ofInt x).toInt32 = Int32.ofInt (w32 x) := by
  rw [of_w32]
  exact Int64.toInt32_ofInt
theorem T_l2i {x : Int} (hd : decode M.2.1 pc = .ok (.l2i, 1)) (K : n_T G d rc rs M (pc + 1) ls (vI (w32 x) :: st) sh v Q) : n_T G d rc rs M pc ls (vJ x :: st) sh v Q := by
  intro p e R s m args below meth c H locs cells slots mc ms la hx hb hml hr hlk hown hnm hts hKx hdf hdl hcm hsm hmc hms hRel hS hls hst hl
  exact lv_l2i hx hb hd (l2i_eq x) (K p e R s m args below meth c H locs cells slots mc ms la hx hb hml hr hlk hown hnm hts hKx hdf hdl hcm hsm hmc hms hRel hS hls (okc (w32_r _) (ok1 hst).2) hl)
theorem T_i2b {x : Int} (hd : decode M.2.1 pc = .ok (.i2b, 1)) (K : n_T G d rc rs M (pc + 1) ls (vI (i_b x) :: st) sh v Q) : n_T G d rc rs M pc ls (vI x :: st) sh v Q := by
  intro p e R s m args below meth c H locs cells slots mc ms la hx hb hml hr hlk hown hnm hts hKx hdf hdl hcm hsm hmc hms hRel hS hls hst hl
  refine lv_i2b hx hb hd rfl ?_
  rw [n_gvI G]
  exact (K p e R s m args below meth c H locs cells slots mc ms la hx hb hml hr hlk hown hnm hts hKx hdf hdl hcm hsm hmc hms hRel hS hls (okc (r32_toInt _) (ok1 hst).2) hl)
theorem T_i2c {x : Int} (hd : decode M.2.1 pc = .ok (.i2c, 1)) (K : n_T G d rc rs M (pc + 1) ls (vI (i_c x) :: st) sh v Q) : n_T G d rc rs M pc ls (vI x :: st) sh v Q := by
  intro p e R s m args below meth c H locs cells slots mc ms la hx hb hml hr hlk hown hnm hts hKx hdf hdl hcm hsm hmc hms hRel hS hls hst hl
  refine lv_i2c hx hb hd rfl ?_
  rw [n_gvI G]
  exact (K p e R s m args below meth c H locs cells slots mc ms la hx hb hml hr hlk hown hnm hts hKx hdf hdl hcm hsm hmc hms hRel hS hls (okc (r32_toInt _) (ok1 hst).2) hl)
theorem T_dup {x : Vl} (hd : decode M.2.1 pc = .ok (.dup, 1)) (hj : n_isJ x = false) (K : n_T G d rc rs M (pc + 1) ls (x :: x :: st) sh v Q) : n_T G d rc rs M pc ls (x :: st) sh v Q := by
  intro p e R s m args below meth c H locs cells slots mc ms la hx hb hml hr hlk hown hnm hts hKx hdf hdl hcm hsm hmc hms hRel hS hls hst hl
  exact lv_dup hx hb hd (n_cat1 hj) (K p e R s m args below meth c H locs cells slots mc ms la hx hb hml hr hlk hown hnm hts hKx hdf hdl hcm hsm hmc hms hRel hS hls (okc (ok1 hst).1 hst) hl)
theorem T_dup2 {x y : Vl} (hd : decode M.2.1 pc = .ok (.dup2, 1)) (hj : n_isJ x = false) (hj' : n_isJ y = false) (K : n_T G d rc rs M (pc + 1) ls (x :: y :: x :: y :: st) sh v Q) : n_T G d rc rs M pc ls (x :: y :: st) sh v Q := by
  intro p e R s m args below meth c H locs cells slots mc ms la hx hb hml hr hlk hown hnm hts hKx hdf hdl hcm hsm hmc hms hRel hS hls hst hl
  exact lv_dup2_11 hx hb hd (n_cat1 hj) (n_cat1 hj') (K p e R s m args below meth c H locs cells slots mc ms la hx hb hml hr hlk hown hnm hts hKx hdf hdl hcm hsm hmc hms hRel hS hls (okc (ok1 hst).1 (okc (ok1 (ok1 hst).2).1 hst)) hl)
theorem T_pop {x : Vl} (hd : decode M.2.1 pc = .ok (.pop, 1)) (hj : n_isJ x = false) (K : n_T G d rc rs M (pc + 1) ls st sh v Q) : n_T G d rc rs M pc ls (x :: st) sh v Q := by
  intro p e R s m args below meth c H locs cells slots mc ms la hx hb hml hr hlk hown hnm hts hKx hdf hdl hcm hsm hmc hms hRel hS hls hst hl
  exact lv_pop hx hb hd (n_cat1 hj) (K p e R s m args below meth c H locs cells slots mc ms la hx hb hml hr hlk hown hnm hts hKx hdf hdl hcm hsm hmc hms hRel hS hls (ok1 hst).2 hl)
theorem T_if_eq {x : Int} {off : Int} {tgt : Nat} (hd : decode M.2.1 pc = .ok (.ifCond .eq off, 3)) (ht : (pc : Int) + off = (tgt : Int)) (Kt : x = 0 → n_T G d rc rs M tgt ls st sh v Q) (Kf : ¬ x = 0 → n_T G d rc rs M (pc + 3) ls st sh v Q) : n_T G d rc rs M pc ls (vI x :: st) sh v Q := by
  intro p e R s m args below meth c H locs cells slots mc ms la hx hb hml hr hlk hown hnm hts hKx hdf hdl hcm hsm hmc hms hRel hS hls hst hl
  have h0 : r32 x := (ok1 hst).1
  exact lv_if_eq hx hb hd ht (fun q9 => (Kt ((i32_eq h0 r32_0).mp q9) p e R s m args below meth c H locs cells slots mc ms la hx hb hml hr hlk hown hnm hts hKx hdf hdl hcm hsm hmc hms hRel hS hls (ok1 hst).2 hl)) (fun q9 => (Kf (fun q => q9 ((i32_eq h0 r32_0).mpr q)) p e R s m args below meth c H locs cells slots mc ms la hx hb hml hr hlk hown hnm hts hKx hdf hdl hcm hsm hmc hms hRel hS hls (ok1 hst).2 hl))
theorem T_icmp_eq {x y : Int} {off : Int} {tgt : Nat} (hd : decode M.2.1 pc = .ok (.if_icmp .eq off, 3)) (ht : (pc : Int) + off = (tgt : Int)) (Kt : x = y → n_T G d rc rs M tgt ls st sh v Q) (Kf : ¬ x = y → n_T G d rc rs M (pc + 3) ls st sh v Q) : n_T G d rc rs M pc ls (vI y :: vI x :: st) sh v Q := by
  intro p e R s m args below meth c H locs cells slots mc ms la hx hb hml hr hlk hown hnm hts hKx hdf hdl hcm hsm hmc hms hRel hS hls hst hl
  have h1 : r32 y := (ok1 hst).1
  have h0 : r32 x := (ok1 (ok1 hst).2).1
  exact lv_icmp_eq hx hb hd ht (fun q9 => (Kt ((i32_eq h0 h1).mp q9) p e R s m args below meth c H locs cells slots mc ms la hx hb hml hr hlk hown hnm hts hKx hdf hdl hcm hsm hmc hms hRel hS hls (ok1 (ok1 hst).2).2 hl)) (fun q9 => (Kf (fun q => q9 ((i32_eq h0 h1).mpr q)) p e R s m args below meth c H locs cells slots mc ms la hx hb hml hr hlk hown hnm hts hKx hdf hdl hcm hsm hmc hms hRel hS hls (ok1 (ok1 hst).2).2 hl))
theorem T_if_ne {x : Int} {off : Int} {tgt : Nat} (hd : decode M.2.1 pc = .ok (.ifCond .ne off, 3)) (ht : (pc : Int) + off = (tgt : Int)) (Kt : ¬ x = 0 → n_T G d rc rs M tgt ls st sh v Q) (Kf : x = 0 → n_T G d rc rs M (pc + 3) ls st sh v Q) : n_T G d rc rs M pc ls (vI x :: st) sh v Q := by
  intro p e R s m args below meth c H locs cells slots mc ms la hx hb hml hr hlk hown hnm hts hKx hdf hdl hcm hsm hmc hms hRel hS hls hst hl
  have h0 : r32 x := (ok1 hst).1
  exact lv_if_ne hx hb hd ht (fun q9 => (Kt (fun q => q9 ((i32_eq h0 r32_0).mpr q)) p e R s m args below meth c H locs cells slots mc ms la hx hb hml hr hlk hown hnm hts hKx hdf hdl hcm hsm hmc hms hRel hS hls (ok1 hst).2 hl)) (fun q9 => (Kf ((i32_eq h0 r32_0).mp q9) p e R s m args below meth c H locs cells slots mc ms la hx hb hml hr hlk hown hnm hts hKx hdf hdl hcm hsm hmc hms hRel hS hls (ok1 hst).2 hl))
theorem T_icmp_ne {x y : Int} {off : Int} {tgt : Nat} (hd : decode M.2.1 pc = .ok (.if_icmp .ne off, 3)) (ht : (pc : Int) + off = (tgt : Int)) (Kt : ¬ x = y → n_T G d rc rs M tgt ls st sh v Q) (Kf : x = y → n_T G d rc rs M (pc + 3) ls st sh v Q) : n_T G d rc rs M pc ls (vI y :: vI x :: st) sh v Q := by
  intro p e R s m args below meth c H locs cells slots mc ms la hx hb hml hr hlk hown hnm hts hKx hdf hdl hcm hsm hmc hms hRel hS hls hst hl
  have h1 : r32 y := (ok1 hst).1
  have h0 : r32 x := (ok1 (ok1 hst).2).1
  exact lv_icmp_ne hx hb hd ht (fun q9 => (Kt (fun q => q9 ((i32_eq h0 h1).mpr q)) p e R s m args below meth c H locs cells slots mc ms la hx hb hml hr hlk hown hnm hts hKx hdf hdl hcm hsm hmc hms hRel hS hls (ok1 (ok1 hst).2).2 hl)) (fun q9 => (Kf ((i32_eq h0 h1).mp q9) p e R s m args below meth c H locs cells slots mc ms la hx hb hml hr hlk hown hnm hts hKx hdf hdl hcm hsm hmc hms hRel hS hls (ok1 (ok1 hst).2).2 hl))
theorem T_if_lt {x : Int} {off : Int} {tgt : Nat} (hd : decode M.2.1 pc = .ok (.ifCond .lt off, 3)) (ht : (pc : Int) + off = (tgt : Int)) (Kt : x < 0 → n_T G d rc rs M tgt ls st sh v Q) (Kf : ¬ x < 0 → n_T G d rc rs M (pc + 3) ls st sh v Q) : n_T G d rc rs M pc ls (vI x :: st) sh v Q := by
  intro p e R s m args below meth c H locs cells slots mc ms la hx hb hml hr hlk hown hnm hts hKx hdf hdl hcm hsm hmc hms hRel hS hls hst hl
  have h0 : r32 x := (ok1 hst).1
  exact lv_if_lt hx hb hd ht (fun q9 => (Kt ((i32_lt h0 r32_0).mp q9) p e R s m args below meth c H locs cells slots mc ms la hx hb hml hr hlk hown hnm hts hKx hdf hdl hcm hsm hmc hms hRel hS hls (ok1 hst).2 hl)) (fun q9 => (Kf (fun q => q9 ((i32_lt h0 r32_0).mpr q)) p e R s m args below meth c H locs cells slots mc ms la hx hb hml hr hlk hown hnm hts hKx hdf hdl hcm hsm hmc hms hRel hS hls (ok1 hst).2 hl))
theorem T_icmp_lt {x y : Int} {off : Int} {tgt : Nat} (hd : decode M.2.1 pc = .ok (.if_icmp .lt off, 3)) (ht : (pc : Int) + off = (tgt : Int)) (Kt : x < y → n_T G d rc rs M tgt ls st sh v Q) (Kf : ¬ x < y → n_T G d rc rs M (pc + 3) ls st sh v Q) : n_T G d rc rs M pc ls (vI y :: vI x :: st) sh v Q := by
  intro p e R s m args below meth c H locs cells slots mc ms la hx hb hml hr hlk hown hnm hts hKx hdf hdl hcm hsm hmc hms hRel hS hls hst hl
  have h1 : r32 y := (ok1 hst).1
  have h0 : r32 x := (ok1 (ok1 hst).2).1
  exact lv_icmp_lt hx hb hd ht (fun q9 => (Kt ((i32_lt h0 h1).mp q9) p e R s m args below meth c H locs cells slots mc ms la hx hb hml hr hlk hown hnm hts hKx hdf hdl hcm hsm hmc hms hRel hS hls (ok1 (ok1 hst).2).2 hl)) (fun q9 => (Kf (fun q => q9 ((i32_lt h0 h1).mpr q)) p e R s m args below meth c H locs cells slots mc ms la hx hb hml hr hlk hown hnm hts hKx hdf hdl hcm hsm hmc hms hRel hS hls (ok1 (ok1 hst).2).2 hl))
theorem T_if_ge {x : Int} {off : Int} {tgt : Nat} (hd : decode M.2.1 pc = .ok (.ifCond .ge off, 3)) (ht : (pc : Int) + off = (tgt : Int)) (Kt : 0 ≤ x → n_T G d rc rs M tgt ls st sh v Q) (Kf : ¬ 0 ≤ x → n_T G d rc rs M (pc + 3) ls st sh v Q) : n_T G d rc rs M pc ls (vI x :: st) sh v Q := by
  intro p e R s m args below meth c H locs cells slots mc ms la hx hb hml hr hlk hown hnm hts hKx hdf hdl hcm hsm hmc hms hRel hS hls hst hl
  have h0 : r32 x := (ok1 hst).1
  exact lv_if_ge hx hb hd ht (fun q9 => (Kt ((i32_le r32_0 h0).mp q9) p e R s m args below meth c H locs cells slots mc ms la hx hb hml hr hlk hown hnm hts hKx hdf hdl hcm hsm hmc hms hRel hS hls (ok1 hst).2 hl)) (fun q9 => (Kf (fun q => q9 ((i32_le r32_0 h0).mpr q)) p e R s m args below meth c H locs cells slots mc ms la hx hb hml hr hlk hown hnm hts hKx hdf hdl hcm hsm hmc hms hRel hS hls (ok1 hst).2 hl))
theorem T_icmp_ge {x y : Int} {off : Int} {tgt : Nat} (hd : decode M.2.1 pc = .ok (.if_icmp .ge off, 3)) (ht : (pc : Int) + off = (tgt : Int)) (Kt : y ≤ x → n_T G d rc rs M tgt ls st sh v Q) (Kf : ¬ y ≤ x → n_T G d rc rs M (pc + 3) ls st sh v Q) : n_T G d rc rs M pc ls (vI y :: vI x :: st) sh v Q := by
  intro p e R s m args below meth c H locs cells slots mc ms la hx hb hml hr hlk hown hnm hts hKx hdf hdl hcm hsm hmc hms hRel hS hls hst hl
  have h1 : r32 y := (ok1 hst).1
  have h0 : r32 x := (ok1 (ok1 hst).2).1
  exact lv_icmp_ge hx hb hd ht (fun q9 => (Kt ((i32_le h1 h0).mp q9) p e R s m args below meth c H locs cells slots mc ms la hx hb hml hr hlk hown hnm hts hKx hdf hdl hcm hsm hmc hms hRel hS hls (ok1 (ok1 hst).2).2 hl)) (fun q9 => (Kf (fun q => q9 ((i32_le h1 h0).mpr q)) p e R s m args below meth c H locs cells slots mc ms la hx hb hml hr hlk hown hnm hts hKx hdf hdl hcm hsm hmc hms hRel hS hls (ok1 (ok1 hst).2).2 hl))
theorem T_if_gt {x : Int} {off : Int} {tgt : Nat} (hd : decode M.2.1 pc = .ok (.ifCond .gt off, 3)) (ht : (pc : Int) + off = (tgt : Int)) (Kt : 0 < x → n_T G d rc rs M tgt ls st sh v Q) (Kf : ¬ 0 < x → n_T G d rc rs M (pc + 3) ls st sh v Q) : n_T G d rc rs M pc ls (vI x :: st) sh v Q := by
  intro p e R s m args below meth c H locs cells slots mc ms la hx hb hml hr hlk hown hnm hts hKx hdf hdl hcm hsm hmc hms hRel hS hls hst hl
  have h0 : r32 x := (ok1 hst).1
  exact lv_if_gt hx hb hd ht (fun q9 => (Kt ((i32_lt r32_0 h0).mp q9) p e R s m args below meth c H locs cells slots mc ms la hx hb hml hr hlk hown hnm hts hKx hdf hdl hcm hsm hmc hms hRel hS hls (ok1 hst).2 hl)) (fun q9 => (Kf (fun q => q9 ((i32_lt r32_0 h0).mpr q)) p e R s m args below meth c H locs cells slots mc ms la hx hb hml hr hlk hown hnm hts hKx hdf hdl hcm hsm hmc hms hRel hS hls (ok1 hst).2 hl))
theorem T_icmp_gt {x y : Int} {off : Int} {tgt : Nat} (hd : decode M.2.1 pc = .ok (.if_icmp .gt off, 3)) (ht : (pc : Int) + off = (tgt : Int)) (Kt : y < x → n_T G d rc rs M tgt ls st sh v Q) (Kf : ¬ y < x → n_T G d rc rs M (pc + 3) ls st sh v Q) : n_T G d rc rs M pc ls (vI y :: vI x :: st) sh v Q := by
  intro p e R s m args below meth c H locs cells slots mc ms la hx hb hml hr hlk hown hnm hts hKx hdf hdl hcm hsm hmc hms hRel hS hls hst hl
  have h1 : r32 y := (ok1 hst).1
  have h0 : r32 x := (ok1 (ok1 hst).2).1
  exact lv_icmp_gt hx hb hd ht (fun q9 => (Kt ((i32_lt h1 h0).mp q9) p e R s m args below meth c H locs cells slots mc ms la hx hb hml hr hlk hown hnm hts hKx hdf hdl hcm hsm hmc hms hRel hS hls (ok1 (ok1 hst).2).2 hl)) (fun q9 => (Kf (fun q => q9 ((i32_lt h1 h0).mpr q)) p e R s m args below meth c H locs cells slots mc ms la hx hb hml hr hlk hown hnm hts hKx hdf hdl hcm hsm hmc hms hRel hS hls (ok1 (ok1 hst).2).2 hl))
theorem T_if_le {x : Int} {off : Int} {tgt : Nat} (hd : decode M.2.1 pc = .ok (.ifCond .le off, 3)) (ht : (pc : Int) + off = (tgt : Int)) (Kt : x ≤ 0 → n_T G d rc rs M tgt ls st sh v Q) (Kf : ¬ x ≤ 0 → n_T G d rc rs M (pc + 3) ls st sh v Q) : n_T G d rc rs M pc ls (vI x :: st) sh v Q := by
  intro p e R s m args below meth c H locs cells slots mc ms la hx hb hml hr hlk hown hnm hts hKx hdf hdl hcm hsm hmc hms hRel hS hls hst hl
  have h0 : r32 x := (ok1 hst).1
  exact lv_if_le hx hb hd ht (fun q9 => (Kt ((i32_le h0 r32_0).mp q9) p e R s m args below meth c H locs cells slots mc ms la hx hb hml hr hlk hown hnm hts hKx hdf hdl hcm hsm hmc hms hRel hS hls (ok1 hst).2 hl)) (fun q9 => (Kf (fun q => q9 ((i32_le h0 r32_0).mpr q)) p e R s m args below meth c H locs cells slots mc ms la hx hb hml hr hlk hown hnm hts hKx hdf hdl hcm hsm hmc hms hRel hS hls (ok1 hst).2 hl))
theorem T_icmp_le {x y : Int} {off : Int} {tgt : Nat} (hd : decode M.2.1 pc = .ok (.if_icmp .le off, 3)) (ht : (pc : Int) + off = (tgt : Int)) (Kt : x ≤ y → n_T G d rc rs M tgt ls st sh v Q) (Kf : ¬ x ≤ y → n_T G d rc rs M (pc + 3) ls st sh v Q) : n_T G d rc rs M pc ls (vI y :: vI x :: st) sh v Q := by
  intro p e R s m args below meth c H locs cells slots mc ms la hx hb hml hr hlk hown hnm hts hKx hdf hdl hcm hsm hmc hms hRel hS hls hst hl
  have h1 : r32 y := (ok1 hst).1
  have h0 : r32 x := (ok1 (ok1 hst).2).1
  exact lv_icmp_le hx hb hd ht (fun q9 => (Kt ((i32_le h0 h1).mp q9) p e R s m args below meth c H locs cells slots mc ms la hx hb hml hr hlk hown hnm hts hKx hdf hdl hcm hsm hmc hms hRel hS hls (ok1 (ok1 hst).2).2 hl)) (fun q9 => (Kf (fun q => q9 ((i32_le h0 h1).mpr q)) p e R s m args below meth c H locs cells slots mc ms la hx hb hml hr hlk hown hnm hts hKx hdf hdl hcm hsm hmc hms hRel hS hls (ok1 (ok1 hst).2).2 hl))
theorem T_goto {off : Int} {tgt : Nat} (hd : decode M.2.1 pc = .ok (.goto off, 3)) (ht : (pc : Int) + off = (tgt : Int)) (K : n_T G d rc rs M tgt ls st sh v Q) : n_T G d rc rs M pc ls st sh v Q := by
  intro p e R s m args below meth c H locs cells slots mc ms la hx hb hml hr hlk hown hnm hts hKx hdf hdl hcm hsm hmc hms hRel hS hls hst hl
  exact lv_goto hx hb hd ht (K p e R s m args below meth c H locs cells slots mc ms la hx hb hml hr hlk hown hnm hts hKx hdf hdl hcm hsm hmc hms hRel hS hls hst hl)
theorem T_tabIn {x dflt lo hi off : Int} {offs : Array Int} {len tgt : Nat} (hd : decode M.2.1 pc = .ok (.tableswitch dflt lo hi offs, len)) (h1 : lo ≤ x) (h2 : x ≤ hi) (ho : offs[(x - lo).toNat]? = some off) (ht : (pc : Int) + off = (tgt : Int)) (K : n_T G d rc rs M tgt ls st sh v Q) : n_T G d rc rs M pc ls (vI x :: st) sh v Q := by
  intro p e R s m args below meth c H locs cells slots mc ms la hx hb hml hr hlk hown hnm hts hKx hdf hdl hcm hsm hmc hms hRel hS hls hst hl
  have h0 : r32 x := (ok1 hst).1
  have e0 := toInt_ofInt32 h0
  exact lv_tableIn hx hb hd (by rw [e0]; omega) (by rw [e0]; omega) (by rw [e0]; exact ho) ht (K p e R s m args below meth c H locs cells slots mc ms la hx hb hml hr hlk hown hnm hts hKx hdf hdl hcm hsm hmc hms hRel hS hls (ok1 hst).2 hl)
theorem T_tabOut {x dflt lo hi : Int} {offs : Array Int} {len tgt : Nat} (hd : decode M.2.1 pc = .ok (.tableswitch dflt lo hi offs, len)) (h : x < lo ∨ hi < x) (ht : (pc : Int) + dflt = (tgt : Int)) (K : n_T G d rc rs M tgt ls st sh v Q) : n_T G d rc rs M pc ls (vI x :: st) sh v Q := by
  intro p e R s m args below meth c H locs cells slots mc ms la hx hb hml hr hlk hown hnm hts hKx hdf hdl hcm hsm hmc hms hRel hS hls hst hl
  have h0 : r32 x := (ok1 hst).1
  have e0 := toInt_ofInt32 h0
  exact lv_tableOut hx hb hd (by rw [e0]; exact h) ht (K p e R s m args below meth c H locs cells slots mc ms la hx hb hml hr hlk hown hnm hts hKx hdf hdl hcm hsm hmc hms hRel hS hls (ok1 hst).2 hl)
theorem n_ret {G : GT} {Q : Option Vl → List Sh → VT → Prop} {sh : List Sh} {v : VT} {s t : State} {args : Array Value} {H : Heap} {locs : List Loc} {r : Option Vl} (hRel : n_Rel G sh v H) (hS : va_S (n_A G) s.heap H locs) (hok : ∀ x, r = some x → n_okv x) (hQ : Q r sh v) (ht : t.heap = H) : n_Qc G Q args s (.returned (r.map (n_gv G))) t :=
  ⟨⟨r, sh, v, rfl, by rw [ht]; exact hRel, hok, hQ⟩, hS.F ht⟩
theorem T_iret {x : Int} (hd : decode M.2.1 pc = .ok (.ireturn, 1)) (hM : M.2.2.2 = some .int) (hQ : Q (some (vI x)) sh v) : n_T G d rc rs M pc ls [vI x] sh v Q := by
  intro p e R s m args below meth c H locs cells slots mc ms la hx hb hml hr hlk hown hnm hts hKx hdf hdl hcm hsm hmc hms hRel hS hls hst hl
  refine W.widen (k := mc) (n := ms) (by omega) (by omega) ?_
  exact W.iret hx hb (hr.trans hM) (fun t ht hW => n_ret (r := some (vI x)) hRel hS (fun y hy => by cases hy; exact (ok1 hst).1) hQ ht) hS.2.2 hd
theorem T_zret {x : Int} (hd : decode M.2.1 pc = .ok (.ireturn, 1)) (hM : M.2.2.2 = some .boolean) (h01 : x = 0 ∨ x = 1) (hQ : Q (some (vI x)) sh v) : n_T G d rc rs M pc ls [vI x] sh v Q := by
  intro p e R s m args below meth c H locs cells slots mc ms la hx hb hml hr hlk hown hnm hts hKx hdf hdl hcm hsm hmc hms hRel hS hls hst hl
  refine W.widen (k := mc) (n := ms) (by omega) (by omega) ?_
  exact W.zret hx hb (hr.trans hM) (by rcases h01 with rfl | rfl <;> decide) (fun t ht hW => n_ret (r := some (vI x)) hRel hS (fun y hy => by cases hy; exact (ok1 hst).1) hQ ht) hS.2.2 hd
theorem T_cret {x : Int} (hd : decode M.2.1 pc = .ok (.ireturn, 1)) (hM : M.2.2.2 = some .char) (h01 : narrow .char (.int (Int32.ofInt x)) = .int (Int32.ofInt x)) (hQ : Q (some (vI x)) sh v) : n_T G d rc rs M pc ls [vI x] sh v Q := by
  intro p e R s m args below meth c H locs cells slots mc ms la hx hb hml hr hlk hown hnm hts hKx hdf hdl hcm hsm hmc hms hRel hS hls hst hl
  refine W.widen (k := mc) (n := ms) (by omega) (by omega) ?_
  exact W.zret hx hb (hr.trans hM) h01 (fun t ht hW => n_ret (r := some (vI x)) hRel hS (fun y hy => by cases hy; exact (ok1 hst).1) hQ ht) hS.2.2 hd
theorem T_bret {x : Int} (hd : decode M.2.1 pc = .ok (.ireturn, 1)) (hM : M.2.2.2 = some .byte) (h01 : narrow .byte (.int (Int32.ofInt x)) = .int (Int32.ofInt x)) (hQ : Q (some (vI x)) sh v) : n_T G d rc rs M pc ls [vI x] sh v Q := by
  intro p e R s m args below meth c H locs cells slots mc ms la hx hb hml hr hlk hown hnm hts hKx hdf hdl hcm hsm hmc hms hRel hS hls hst hl
  refine W.widen (k := mc) (n := ms) (by omega) (by omega) ?_
  exact W.zret hx hb (hr.trans hM) h01 (fun t ht hW => n_ret (r := some (vI x)) hRel hS (fun y hy => by cases hy; exact (ok1 hst).1) hQ ht) hS.2.2 hd
theorem T_lret {x : Int} (hd : decode M.2.1 pc = .ok (.lreturn, 1)) (hM : M.2.2.2 = some .long) (hQ : Q (some (vJ x)) sh v) : n_T G d rc rs M pc ls [vJ x] sh v Q := by
  intro p e R s m args below meth c H locs cells slots mc ms la hx hb hml hr hlk hown hnm hts hKx hdf hdl hcm hsm hmc hms hRel hS hls hst hl
  refine W.widen (k := mc) (n := ms) (by omega) (by omega) ?_
  exact W.lret hx hb (hr.trans hM) (fun t ht hW => n_ret (r := some (vJ x)) hRel hS (fun y hy => by cases hy; exact (ok1 hst).1) hQ ht) hS.2.2 hd
theorem T_aret {x : Nat} {rt : FieldType} (hd : decode M.2.1 pc = .ok (.areturn, 1)) (hM : M.2.2.2 = some rt) (hrt : (∃ n, rt = .object n) ∨ ∃ t, rt = .array t) (hQ : Q (some (vR x)) sh v) : n_T G d rc rs M pc ls [vR x] sh v Q := by
  intro p e R s m args below meth c H locs cells slots mc ms la hx hb hml hr hlk hown hnm hts hKx hdf hdl hcm hsm hmc hms hRel hS hls hst hl
  refine W.widen (k := mc) (n := ms) (by omega) (by omega) ?_
  exact W.aret hx hb (hr.trans hM) hrt (Or.inr ⟨_, rfl⟩) (fun t ht hW => n_ret (r := some (vR x)) hRel hS (fun y hy => by cases hy; exact (ok1 hst).1) hQ ht) hS.2.2 hd
theorem T_vret (hd : decode M.2.1 pc = .ok (.return_, 1)) (hM : M.2.2.2 = none) (hQ : Q none sh v) : n_T G d rc rs M pc ls [] sh v Q := by
  intro p e R s m args below meth c H locs cells slots mc ms la hx hb hml hr hlk hown hnm hts hKx hdf hdl hcm hsm hmc hms hRel hS hls hst hl
  refine W.widen (k := mc) (n := ms) (by omega) (by omega) ?_
  exact W.vret hx hb (hr.trans hM) (fun t ht hW => n_ret (r := none) hRel hS (fun y hy => by cases hy) hQ ht) hS.2.2 hd
end Rules

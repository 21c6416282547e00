/-! ===== the machine over whole numbers: values, cells, a judgement 'n_T' over the kit's W ===== -/
/-- a value: an int, a long, a cell of ours (by its number), a given cell (0: the script, 1, 2: texts, 3, 4: their bytes; 9: nothing is known) -/
abbrev Vl : Type := Int ⊕ Int ⊕ Nat ⊕ Nat
abbrev vI (x : Int) : Vl := .inl x
abbrev vJ (x : Int) : Vl := .inr (.inl x)
abbrev vR (a : Nat) : Vl := .inr (.inr (.inl a))
abbrev vS (k : Nat) : Vl := .inr (.inr (.inr k))
/-- a cell's shape: an object (its class, its references: 0 null, r + 1 cell r), an array (kind, length, its references) -/
abbrev Sh : Type := (Nat × List Nat) ⊕ (Nat × Nat × List Nat)
abbrev VT : Type := Nat → Nat → Int
abbrev GT : Type := Launch × Nat × (Nat → Nat) × (Nat → ClassId) × (Nat → Nat → Nat) × (Nat → ClassId) × Nat × (Nat → Int)
abbrev MT : Type := MethodName × ByteArray × Nat × Option FieldType
abbrev g_l (G : GT) : Launch := G.1
abbrev g_base (G : GT) : Nat := G.2.1
abbrev g_sp (G : GT) : Nat → Nat := G.2.2.1
abbrev g_D (G : GT) : va_G := (G.2.2.2.1, G.2.2.2.2.1)
abbrev g_cA (G : GT) : Nat → ClassId := G.2.2.2.2.2.1
abbrev g_L (G : GT) : Nat := G.2.2.2.2.2.2.1
abbrev g_xs (G : GT) : Nat → Int := G.2.2.2.2.2.2.2
def r32 (x : Int) : Prop := -2147483648 ≤ x ∧ x ≤ 2147483647
def r64 (x : Int) : Prop := -9223372036854775808 ≤ x ∧ x ≤ 9223372036854775807
/-- a given cell, as a value: number 5 may be null (then number 6 is 0) -/
def n_sv (G : GT) (k : Nat) : Value := if k = 5 then va_rf (if g_sp G 6 = 0 then none else some (g_sp G 5)) else .ref (g_sp G k)
theorem n_sv_cat (G : GT) (k : Nat) : (n_sv G k).category = 1 := by
  unfold n_sv
  split
  · split <;> rfl
  · rfl
def n_gv (G : GT) : Vl → Value
  | .inl x => .int (Int32.ofInt x)
  | .inr (.inl x) => .long (Int64.ofInt x)
  | .inr (.inr (.inl a)) => .ref (g_base G + a)
  | .inr (.inr (.inr k)) => n_sv G k
def n_okv : Vl → Prop
  | .inl x => r32 x
  | .inr (.inl x) => r64 x
  | _ => True
def c_ft (ci : Nat) : Nat → FieldType := match ci with
  | 0 => tyX0
  | 1 => tyX1
  | 2 => tyX2
  | 3 => tyX3
  | 4 => tyX4
  | 5 => tyX5
  | 6 => tyX6
  | 7 => tyX7
  | 8 => tyX8
  | 9 => tyX9
  | 10 => tyX10
  | _ => tyX11
def c_nf (ci : Nat) : Nat := [7, 7, 8, 3, 3, 8, 3, 3, 9, 2, 18, 44].getD ci 0
def n_rf (G : GT) : Nat → Option Nat
  | 0 => none
  | r + 1 => some (g_base G + r)
def n_val (G : GT) (ty : FieldType) (x : Int) (r : Nat) : Value := match ty with
  | .long => .long (Int64.ofInt x)
  | .object _ => va_rf (n_rf G r)
  | .array _ => va_rf (n_rf G r)
  | _ => .int (Int32.ofInt x)
def n_fs (G : GT) (ci : Nat) (rs : List Nat) (f : Nat → Int) : List Value := (List.range (c_nf ci)).map fun k => n_val G (c_ft ci k) (f k) (rs.getD k 0)
def n_ent (G : GT) (s : Sh) (f : Nat → Int) : va_E := match s with
  | .inl (ci, rs) => .inr (ci, n_fs G ci rs f)
  | .inr (0, n, _) => .inl (g_cA G 0, n, .inl (fun j => Int32.ofInt (f j)))
  | .inr (1, n, _) => .inl (g_cA G 1, n, .inr (.inl (fun j => Int64.ofInt (f j))))
  | .inr (2, n, _) => .inl (g_cA G 2, n, .inl (fun j => Int32.ofInt (f j)))
  | .inr (3, n, rs) => .inl (g_cA G 3, n, .inr (.inr (.inr (.inr (fun j => n_rf G (rs.getD j 0))))))
  | .inr (_, n, rs) => .inl (g_cA G 4, n, .inr (.inr (.inr (.inr (fun j => n_rf G (rs.getD j 0))))))
def n_ws (G : GT) (sh : List Sh) (v : VT) : va_W := sh.mapIdx (fun a s => (g_base G + a, n_ent G s (v a)))
def n_slot (s : Sh) (j : Nat) (x : Int) : Prop := match s with
  | .inl (ci, _) => (match c_ft ci j with
    | .long => r64 x
    | _ => r32 x)
  | .inr (1, _) => r64 x
  | _ => r32 x
def n_Rel (G : GT) (sh : List Sh) (v : VT) (H : Heap) : Prop :=
  va_P (g_D G) vwCl (n_ws G sh v) H ∧ H.size = g_base G + sh.length ∧ ∀ (a : Nat) (s : Sh) (j : Nat), sh[a]? = some s → n_slot s j (v a j)
def n_A (G : GT) : Nat → Prop := fun q => g_base G ≤ q
def n_tys (G : GT) : List (ClassId × FieldType) := [(g_cA G 0, .int), (g_cA G 1, .long), (g_cA G 2, .byte), (g_cA G 3, .array .int), (g_cA G 4, .object "CubeNets$Graph")]
/-- the words that hold through all calls; the nest mates' links -/
def wsAll : List Cond := lw_tbl.filter goodWord
def n_isNest : Cond → Bool
  | .methodLinkNest _ _ _ _ => true
  | _ => false
def wsNest : List Cond := lw_tbl.filter n_isNest
theorem wsAll_place (i : Nat) {w : Cond} (h : lw_tbl[i]? = some w) (hg : goodWord w = true) : w ∈ wsAll := List.mem_filter.mpr ⟨List.mem_of_getElem? h, hg⟩
theorem wsNest_place (i : Nat) {w : Cond} (h : lw_tbl[i]? = some w) (hg : n_isNest w = true) : w ∈ wsNest := List.mem_filter.mpr ⟨List.mem_of_getElem? h, hg⟩
def va_AOB (t : FieldType) (U : State) : Prop := (Cond.arrayOver (.array t)).before #[] U = true
theorem va_AOB.moved {t : FieldType} {u U : State} (hvm : u.vm.Alike U.vm) (h : va_AOB t u) : va_AOB t U := by
  have h1 := Cond.arrayOver_setVmC (args := #[]) (s := u) hvm (.array t)
  have h2 : (Cond.arrayOver (.array t)).before #[] (u.setVm U.vm) = true := by rw [h1]; exact h
  first
    | exact h2
    | (simp only [va_AOB, Cond.before, Cond.holds, Cond.value, State.setVm] at h2 ⊢; exact h2)
/-- what is known of a state, whatever the arguments -/
def n_Kx (G : GT) (s : State) : Prop :=
  va_K (g_D G) vwCl (n_tys G) s ∧ (∀ w ∈ wsNest, va_Nw w s) ∧ va_AO "CubeNets$Graph" s ∧ va_AOB .int s ∧
  (g_base G ≤ s.heap.size ∧ va_X (g_sp G 0) (g_L G) (fun j => Int32.ofInt (g_xs G j)) s s.heap ∧ g_sp G 0 < g_base G) ∧
  (vk_R "CubeNets$Reader" 74 "nodes" (g_sp G 1) s ∧ vk_R "CubeNets$Reader" 72 "way" (g_sp G 2) s ∧
   vk_S 2 [5, 3] [[110, 111, 100, 101, 115], [119, 97, 121]] (fun i => g_sp G (1 + i)) (fun i => g_sp G (3 + i)) (n_A G) s s.heap ∧
   va_Z "java/lang/String" "COMPACT_STRINGS" "Z" (.int 1) (n_A G) s s.heap ∧ va_Z "jdk/internal/util/Preconditions" "SIOOBE_FORMATTER" "Ljava/util/function/BiFunction;" (n_sv G 5) (n_A G) s s.heap)
def n_Qc (G : GT) (Q : Option Vl → List Sh → VT → Prop) : Array Value → State → Outcome → State → Prop := fun _ st o t =>
  (∃ (r : Option Vl) (sh : List Sh) (v : VT), o = .returned (r.map (n_gv G)) ∧ n_Rel G sh v t.heap ∧ (∀ x, r = some x → n_okv x) ∧ Q r sh v) ∧ va_F (n_A G) st t
def n_nd : Vl → Bool
  | .inr (.inr (.inr 9)) => false
  | .inr (.inr (.inr 5)) => false
  | _ => true
theorem n_sv_ref {G : GT} {a : Nat} (h : n_nd (vS a) = true) : n_sv G a = .ref (g_sp G a) := by
  unfold n_sv
  rw [if_neg (fun e => by subst e; cases h)]
theorem n_nd_ok {y : Vl} (h : n_nd y = false) : n_okv y := by
  match y, h with
  | .inr (.inr (.inr _)), _ => trivial
  | .inr (.inr (.inl _)), _ => trivial
/-- locals, by their places -/
def n_asc (G : GT) : Nat → List Vl → List (Nat × Value)
  | _, [] => []
  | i, x :: r => if n_nd x = true then (i, n_gv G x) :: n_asc G (i + 1) r else n_asc G (i + 1) r
/-- THE JUDGEMENT: method M, standing at pc with these locals, this operand stack, these cells, comes to its end with Q; d frames, rc cells and rs slots are left to it -/
def n_T (G : GT) (d rc rs : Nat) (M : MT) (pc : Nat) (ls st : List Vl) (sh : List Sh) (v : VT) (Q : Option Vl → List Sh → VT → Prop) : Prop :=
  ∀ (p : Program) (e : Env) (R : Room) (s : State) (m : MethodId) (args : Array Value) (below : List Frame) (meth : Method) (c : Code) (H : Heap) (locs : List Loc) (cells slots mc ms : Nat) (la : Array Slot),
    p.tables.exec = Jvm.exec → c.code = M.2.1 → c.maxLocals = M.2.2.1 → meth.sig.returnType = M.2.2.2 → meth.locks = false → s.vm.findClass M.1.cls = some m.cls → meth.name = M.1.name →
    (∀ w ∈ wsAll, w.before args s = true) → n_Kx G s →
    d ≤ R.frames → 64 * d ≤ R.locals → cells + rc ≤ mc → slots + rs ≤ ms → mc ≤ R.cells → ms ≤ R.slots →
    n_Rel G sh v H → va_S (n_A G) s.heap H locs → (∀ x ∈ ls, n_okv x) → (∀ x ∈ st, n_okv x) → lv_has la M.2.2.1 (n_asc G 0 ls) →
    W p (g_l G) e R s m args below meth c H locs cells slots (MQ below (n_Qc G Q) args s mc ms (n_A G)) (F0 m pc la (st.map (n_gv G)))
/-! ===== numbers ===== -/
theorem Int32_ofInt_toInt' (x : Int32) : Int32.ofInt x.toInt = x := by simp
theorem r32_toInt (x : Int32) : r32 x.toInt := by
  have h1 := x.le_toInt
  have h2 := x.toInt_lt
  unfold r32
  omega
theorem r64_toInt (x : Int64) : r64 x.toInt := by
  have h1 := x.le_toInt
  have h2 := x.toInt_lt
  unfold r64
  omega
theorem toInt_ofInt32 {x : Int} (h : r32 x) : (Int32.ofInt x).toInt = x := by
  unfold r32 at h
  exact Int32.toInt_ofInt_of_le (by omega) (by omega)
theorem toInt_ofInt64 {x : Int} (h : r64 x) : (Int64.ofInt x).toInt = x := by
  unfold r64 at h
  exact Int64.toInt_ofInt_of_le (by omega) (by omega)
def w32 (x : Int) : Int := (Int32.ofInt x).toInt
def w64 (x : Int) : Int := (Int64.ofInt x).toInt
theorem w32_id {x : Int} (h : -2147483648 ≤ x ∧ x ≤ 2147483647) : w32 x = x := toInt_ofInt32 h
theorem w64_id {x : Int} (h : -9223372036854775808 ≤ x ∧ x ≤ 9223372036854775807) : w64 x = x := toInt_ofInt64 h
theorem i32_eq {x y : Int} (hx : r32 x) (hy : r32 y) : Int32.ofInt x = Int32.ofInt y ↔ x = y := by
  constructor
  · intro h
    have h1 := congrArg Int32.toInt h
    rwa [toInt_ofInt32 hx, toInt_ofInt32 hy] at h1
  · intro h; rw [h]
theorem i32_lt {x y : Int} (hx : r32 x) (hy : r32 y) : Int32.ofInt x < Int32.ofInt y ↔ x < y := by
  rw [Int32.lt_iff_toInt_lt, toInt_ofInt32 hx, toInt_ofInt32 hy]
theorem i32_le {x y : Int} (hx : r32 x) (hy : r32 y) : Int32.ofInt x ≤ Int32.ofInt y ↔ x ≤ y := by
  rw [Int32.le_iff_toInt_le, toInt_ofInt32 hx, toInt_ofInt32 hy]
theorem i32_0 : (0 : Int32) = Int32.ofInt 0 := by decide
theorem r32_0 : r32 0 := by unfold r32; omega
theorem i32_in {x : Int} {n : Nat} (hx : r32 x) (h : 0 ≤ x ∧ x < n) : vp_in (Int32.ofInt x) n := by
  unfold vp_in
  intro q
  rcases q with q | q
  · rw [i32_0, i32_lt hx r32_0] at q; omega
  · have h1 : (Int32.ofInt x).toNatClampNeg = x.toNat := by
      show (Int32.ofInt x).toInt.toNat = x.toNat
      rw [toInt_ofInt32 hx]
    rw [h1] at q
    omega
theorem i32_clamp {x : Int} (hx : r32 x) : (Int32.ofInt x).toNatClampNeg = x.toNat := by
  show (Int32.ofInt x).toInt.toNat = x.toNat
  rw [toInt_ofInt32 hx]
/-! ===== cells ===== -/
theorem n_ws_get {G : GT} {sh : List Sh} {v : VT} {a : Nat} {s : Sh} (h : sh[a]? = some s) : (n_ws G sh v)[a]? = some (g_base G + a, n_ent G s (v a)) := by
  unfold n_ws
  rw [List.getElem?_mapIdx, h]
  rfl
theorem n_ws_inv {G : GT} {sh : List Sh} {v : VT} {a : Nat} {q : Nat × va_E} (h : (n_ws G sh v)[a]? = some q) : ∃ s, sh[a]? = some s ∧ q = (g_base G + a, n_ent G s (v a)) := by
  unfold n_ws at h
  rw [List.getElem?_mapIdx] at h
  cases hs : sh[a]? with
  | none => rw [hs] at h; cases h
  | some s => rw [hs] at h; exact ⟨s, rfl, (Option.some.inj h).symm⟩
theorem n_ws_D (G : GT) (sh : List Sh) (v : VT) : va_D (n_A G) (n_ws G sh v) := by
  refine ⟨fun i j x y hi hj hxy => ?_, fun k q hk => ?_⟩
  · obtain ⟨s1, -, rfl⟩ := n_ws_inv hi
    obtain ⟨s2, -, rfl⟩ := n_ws_inv hj
    have h : g_base G + i = g_base G + j := hxy
    omega
  · obtain ⟨s1, -, rfl⟩ := n_ws_inv hk
    exact Nat.le_add_right _ _
def upd2 (v : VT) (a j : Nat) (x : Int) : VT := fun a' j' => if a' = a ∧ j' = j then x else v a' j'
theorem upd2_same (v : VT) (a j : Nat) (x : Int) : upd2 v a j x a j = x := by simp [upd2]
theorem upd2_ne (v : VT) {a j a' j' : Nat} (x : Int) (h : ¬ (a' = a ∧ j' = j)) : upd2 v a j x a' j' = v a' j' := by simp [upd2, h]
theorem upd2_off (v : VT) {a a' : Nat} (j : Nat) (x : Int) (h : a' ≠ a) : upd2 v a j x a' = v a' := by
  funext j'
  simp [upd2, h]
theorem n_ws_set {G : GT} {sh : List Sh} {v v' : VT} {a : Nat} {s : Sh} (h : sh[a]? = some s) (hv : ∀ a', a' ≠ a → v' a' = v a') {e : va_E} (he : e = n_ent G s (v' a)) : (n_ws G sh v).set a (g_base G + a, e) = n_ws G sh v' := by
  apply List.ext_getElem?
  intro i
  by_cases hi : i = a
  · subst hi
    have hl : i < (n_ws G sh v).length := (List.getElem?_eq_some_iff.mp (n_ws_get h)).1
    rw [List.getElem?_set_self hl, n_ws_get h, he]
  · rw [List.getElem?_set_ne (Ne.symm hi)]
    cases hs : sh[i]? with
    | none => unfold n_ws; rw [List.getElem?_mapIdx, List.getElem?_mapIdx, hs]; rfl
    | some s2 => rw [n_ws_get hs, n_ws_get hs, hv i hi]

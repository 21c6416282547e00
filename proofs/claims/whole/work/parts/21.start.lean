/-! THE CLAIM OUT OF ONE WALK OF THE LAW'S BODY. Your part is whole_start (and what it stands on); all else here is the same for every law, but numbers. -/
def R_law : String := "CubeNetsLaw"
def lw_P (b : Addr) (xs : List Int32) (args : Array Value) (s : State) : Prop := args = #[.ref b] ∧ s.IntsAt b xs ∧ xs.length ≤ 3072 ∧ (Jvm.Cond.and given_1 narrow_1).before args s = true
def lw_Q (_ : Array Value) (s : State) (o : Outcome) (t : State) : Prop := o = .returned (some (.int 1)) ∧ Framed s o t [] 600000 7302250
def lw_Z (below : List Frame) (a : Array Value) (s : State) : State → Prop := fun t => ∃ o, t.status = .running ∧ Ended t below o ∧ lw_Q a s o t
/-- the law's own end, with 1 on the stack, nothing written that was there before, its room as the claim has it -/
theorem lw_ret {p : Program} {l : Launch} {e : Env} {s : State} {m : MethodId} {below : List Frame} {meth : Method} {c : Code} {b : Nat} (hx : p.tables.exec = Jvm.exec) (hb : c.code = code) (hr : meth.sig.returnType = ret) (hlocks : meth.locks = false) {pc : Nat} {H : Heap} {ls : Array Slot} (hdg : decode code pc = .ok (.ireturn, 1)) : W p l e room_1 s m #[Value.ref b] below meth c H [] 600000 7302250 (lw_Z below #[Value.ref b] s) (F0 m pc ls [.int 1]) := by
  intro T hT X
  obtain ⟨fs, hret, hrun, hended, hW, hframe⟩ := X.leave (v := some (.int 1)) (hlocks := hlocks) (fun h => by rw [hr] at h; cases h)
  have hmeth' : T.vm.method? m = some meth := X.method'
  refine ⟨T.setFrames fs, ?_, .returned (some (.int 1)), hrun, hended, rfl, ⟨_, rfl⟩, hW, hframe⟩
  jvm_step X.here [X.here.top, hx, hb, hdg, hmeth', hr, ret, narrow_b1]
  (try refine ⟨rfl, ?_⟩); (try refine ⟨rfl, ?_⟩)
  first | (intro acts; rw [hret _ acts rfl rfl rfl]) | rw [hret _ _ rfl rfl rfl]
  exact Steps.refl _
/-- what holds at the law's entry: the machine, the code, the tables' words (any of lw_tbl by 'hts w (by decide +kernel)'), the script of L ints xs at the cell b, what the Statement gives of the start (any of its parts by flat_of_before) -/
def lw_At (p : Program) (s : State) (m : MethodId) (meth : Method) (c : Code) (b L : Nat) (xs : Nat → Int32) : Prop :=
  p.tables.exec = Jvm.exec ∧ c.code = code ∧ meth.sig.returnType = ret ∧ c.maxLocals = 4 ∧ s.vm.findClass R_law = some m.cls ∧ (∀ w ∈ lw_tbl, w.before #[Value.ref b] s = true) ∧ va_X b L xs s s.heap ∧ b < s.heap.size ∧ meth.locks = false ∧ (Jvm.Cond.and given_1 narrow_1).before #[Value.ref b] s = true ∧ meth.name = yL_law.name

theorem s_known {args : Array Value} {s : State} (hts : ∀ w ∈ wsAll, w.before args s = true) : ∃ (dC : Nat → ClassId) (dI : Nat → Nat → Nat), ∀ (k : Nat) (q : vw_C), vwCl[k]? = some q → u_Kn s q.1 q.2.1 q.2.2 (dC k) (dI k) := by
  obtain ⟨c0, i0, h0⟩ := u_known (C := RX0) (T := TX0) (N := 7) (n := 7) hts cok0.2.2.1 (hts (.instantiable RX0 7) (wsAll_place 181 (by decide +kernel) (by decide +kernel)))
  obtain ⟨c1, i1, h1⟩ := u_known (C := RX1) (T := TX1) (N := 7) (n := 7) hts cok1.2.2.1 (hts (.instantiable RX1 7) (wsAll_place 328 (by decide +kernel) (by decide +kernel)))
  obtain ⟨c2, i2, h2⟩ := u_known (C := RX2) (T := TX2) (N := 8) (n := 8) hts cok2.2.2.1 (hts (.instantiable RX2 8) (wsAll_place 289 (by decide +kernel) (by decide +kernel)))
  obtain ⟨c3, i3, h3⟩ := u_known (C := RX3) (T := TX3) (N := 3) (n := 3) hts cok3.2.2.1 (hts (.instantiable RX3 3) (wsAll_place 269 (by decide +kernel) (by decide +kernel)))
  obtain ⟨c4, i4, h4⟩ := u_known (C := RX4) (T := TX4) (N := 3) (n := 3) hts cok4.2.2.1 (hts (.instantiable RX4 3) (wsAll_place 445 (by decide +kernel) (by decide +kernel)))
  obtain ⟨c5, i5, h5⟩ := u_known (C := RX5) (T := TX5) (N := 8) (n := 8) hts cok5.2.2.1 (hts (.instantiable RX5 8) (wsAll_place 175 (by decide +kernel) (by decide +kernel)))
  obtain ⟨c6, i6, h6⟩ := u_known (C := RX6) (T := TX6) (N := 3) (n := 3) hts cok6.2.2.1 (hts (.instantiable RX6 3) (wsAll_place 408 (by decide +kernel) (by decide +kernel)))
  obtain ⟨c7, i7, h7⟩ := u_known (C := RX7) (T := TX7) (N := 3) (n := 3) hts cok7.2.2.1 (hts (.instantiable RX7 3) (wsAll_place 427 (by decide +kernel) (by decide +kernel)))
  obtain ⟨c8, i8, h8⟩ := u_known (C := RX8) (T := TX8) (N := 9) (n := 9) hts cok8.2.2.1 (hts (.instantiable RX8 9) (wsAll_place 365 (by decide +kernel) (by decide +kernel)))
  obtain ⟨c9, i9, h9⟩ := u_known (C := RX9) (T := TX9) (N := 2) (n := 2) hts cok9.2.2.1 (hts (.instantiable RX9 2) (wsAll_place 156 (by decide +kernel) (by decide +kernel)))
  obtain ⟨c10, i10, h10⟩ := u_known (C := RX10) (T := TX10) (N := 18) (n := 18) hts cok10.2.2.1 (hts (.instantiable RX10 18) (wsAll_place 148 (by decide +kernel) (by decide +kernel)))
  obtain ⟨c11, i11, h11⟩ := u_known (C := RX11) (T := TX11) (N := 44) (n := 44) hts cok11.2.2.1 (hts (.instantiable RX11 44) (wsAll_place 1257 (by decide +kernel) (by decide +kernel)))
  refine ⟨fun k => match k with | 0 => c0 | 1 => c1 | 2 => c2 | 3 => c3 | 4 => c4 | 5 => c5 | 6 => c6 | 7 => c7 | 8 => c8 | 9 => c9 | 10 => c10 | _ => c11, fun k => match k with | 0 => i0 | 1 => i1 | 2 => i2 | 3 => i3 | 4 => i4 | 5 => i5 | 6 => i6 | 7 => i7 | 8 => i8 | 9 => i9 | 10 => i10 | _ => i11, ?_⟩
  intro k q hq
  match k, hq with
  | 0, hq => cases hq; exact h0
  | 1, hq => cases hq; exact h1
  | 2, hq => cases hq; exact h2
  | 3, hq => cases hq; exact h3
  | 4, hq => cases hq; exact h4
  | 5, hq => cases hq; exact h5
  | 6, hq => cases hq; exact h6
  | 7, hq => cases hq; exact h7
  | 8, hq => cases hq; exact h8
  | 9, hq => cases hq; exact h9
  | 10, hq => cases hq; exact h10
  | 11, hq => cases hq; exact h11
  | k + 12, hq => simp [vwCl] at hq
theorem s_arr {args : Array Value} {s : State} (hts : ∀ w ∈ lw_tbl, w.before args s = true) : ∃ cA : Nat → ClassId, ∀ (k : Nat) (q : ClassId × FieldType), ([(cA 0, .int), (cA 1, .long), (cA 2, .byte), (cA 3, .array .int), (cA 4, .object "CubeNets$Graph")] : List (ClassId × FieldType))[k]? = some q → ArrOfT s q.1 q.2 ∧ va_RA s q.1 q.2 := by
  obtain ⟨cI, kI, pI, f1, f2, f3⟩ := Cond.arrayClass_spec (hts (.arrayClass .int) (List.mem_of_getElem? (i := 173) (by decide +kernel)))
  obtain ⟨cL, kL, pL, g1, g2, g3⟩ := Cond.arrayClass_spec (hts (.arrayClass .long) (List.mem_of_getElem? (i := 326) (by decide +kernel)))
  obtain ⟨cB, kB, pB, b1, b2, b3⟩ := Cond.arrayClass_spec (hts (.arrayClass .byte) (List.mem_of_getElem? (i := 679) (by decide +kernel)))
  obtain ⟨pA, cAA, kA, a1, a2, a3, a4⟩ := Cond.arrayOver_specA (hts (.arrayOver (.array .int)) (List.mem_of_getElem? (i := 295) (by decide +kernel)))
  obtain ⟨pO, cO, kO, o1, o2, o3, o4, o5⟩ := Cond.arrayOver_spec (hts (.arrayOver (.object "CubeNets$Graph")) (List.mem_of_getElem? (i := 275) (by decide +kernel)))
  refine ⟨fun k => match k with | 0 => cI | 1 => cL | 2 => cB | 3 => cAA | _ => cO, ?_⟩
  intro k q hq
  match k, hq with
  | 0, hq => cases hq; exact ⟨fun n z => ⟨fun k h => (by cases h), kI, f2, pI, f3⟩, f1⟩
  | 1, hq => cases hq; exact ⟨fun n z => ⟨fun k h => (by cases h), kL, g2, pL, g3⟩, g1⟩
  | 2, hq => cases hq; exact ⟨fun n z => ⟨fun k h => (by cases h), kB, b2, pB, b3⟩, b1⟩
  | 3, hq => cases hq; exact ⟨fun n z => ⟨fun k h => (by cases h), kA, a2, pA, a3⟩, a4⟩
  | 4, hq => cases hq; exact ⟨fun n z => ⟨fun k h => (by cases h), kO, o3, pO, o4⟩, kO, pO, o3, o4, o1, o5⟩
  | k + 5, hq => simp at hq
def s_tm (i : Nat) : Term := if i = 0 then .string "CubeNets$Reader" 74 else .string "CubeNets$Reader" 72
theorem s_two {P : Nat → Prop} (h0 : P 0) (h1 : P 1) : ∀ i, i < 2 → P i := by
  intro i hi
  match i, hi with
  | 0, _ => exact h0
  | 1, _ => exact h1
theorem s_str {b : Nat} {s : State} {A : Nat → Prop} (hgv : (Jvm.Cond.and given_1 narrow_1).before #[Value.ref b] s = true) (hA : ∀ a : Nat, a < s.heap.size → ¬ A a) : ∃ adK adV : Nat → Nat, vk_S 2 [5, 3] [[110, 111, 100, 101, 115], [119, 97, 121]] adK adV A s s.heap ∧ ∀ i : Nat, i < 2 → (s_tm i).eval #[Value.ref b] s none [] s = some (.ref (adK i)) := by
  have hs := flat_of_before _ hgv
  refine vk_Sof (tm := s_tm) (s_two (by decide) (by decide)) (s_two ?_ ?_) (s_two ?_ ?_) (s_two ?_ ?_) (s_two ?_ ?_) (s_two ?_ ?_) ?_ hA
  · exact hs (.exactly (.string "CubeNets$Reader" 74) "java/lang/String") (by decide +kernel)
  · exact hs (.exactly (.string "CubeNets$Reader" 72) "java/lang/String") (by decide +kernel)
  · exact hs (.eq (.field (.string "CubeNets$Reader" 74) "java/lang/String" "coder" "B") (.int 0)) (by decide +kernel)
  · exact hs (.eq (.field (.string "CubeNets$Reader" 72) "java/lang/String" "coder" "B") (.int 0)) (by decide +kernel)
  · exact hs (.arrayOf (.field (.string "CubeNets$Reader" 74) "java/lang/String" "value" "[B") .byte) (by decide +kernel)
  · exact hs (.arrayOf (.field (.string "CubeNets$Reader" 72) "java/lang/String" "value" "[B") .byte) (by decide +kernel)
  · exact hs (.eq (.length (.field (.string "CubeNets$Reader" 74) "java/lang/String" "value" "[B")) (.int 5)) (by decide +kernel)
  · exact hs (.eq (.length (.field (.string "CubeNets$Reader" 72) "java/lang/String" "value" "[B")) (.int 3)) (by decide +kernel)
  · intro j hj
    have hj : j < 5 := hj
    match j, hj with
    | 0, _ => exact hs (.eq (.elem (.field (.string "CubeNets$Reader" 74) "java/lang/String" "value" "[B") (.int 0)) (.int 110)) (by decide +kernel)
    | 1, _ => exact hs (.eq (.elem (.field (.string "CubeNets$Reader" 74) "java/lang/String" "value" "[B") (.int 1)) (.int 111)) (by decide +kernel)
    | 2, _ => exact hs (.eq (.elem (.field (.string "CubeNets$Reader" 74) "java/lang/String" "value" "[B") (.int 2)) (.int 100)) (by decide +kernel)
    | 3, _ => exact hs (.eq (.elem (.field (.string "CubeNets$Reader" 74) "java/lang/String" "value" "[B") (.int 3)) (.int 101)) (by decide +kernel)
    | 4, _ => exact hs (.eq (.elem (.field (.string "CubeNets$Reader" 74) "java/lang/String" "value" "[B") (.int 4)) (.int 115)) (by decide +kernel)
  · intro j hj
    have hj : j < 3 := hj
    match j, hj with
    | 0, _ => exact hs (.eq (.elem (.field (.string "CubeNets$Reader" 72) "java/lang/String" "value" "[B") (.int 0)) (.int 119)) (by decide +kernel)
    | 1, _ => exact hs (.eq (.elem (.field (.string "CubeNets$Reader" 72) "java/lang/String" "value" "[B") (.int 1)) (.int 97)) (by decide +kernel)
    | 2, _ => exact hs (.eq (.elem (.field (.string "CubeNets$Reader" 72) "java/lang/String" "value" "[B") (.int 2)) (.int 121)) (by decide +kernel)
  · have hne := hs (.not (.eq (.string "CubeNets$Reader" 72) (.string "CubeNets$Reader" 74))) (by decide +kernel)
    intro i j hi hj hij
    match i, hi, j, hj with
    | 0, _, 0, _ => exact absurd rfl hij
    | 0, _, 1, _ => exact Or.inr hne
    | 1, _, 0, _ => exact Or.inl hne
    | 1, _, 1, _ => exact absurd rfl hij
theorem whole_open (hP : ∀ (G : GT) (w : VT), ini w 244 [] → g_L G ≤ 3072 → P_L_law G w (fun r _ => r = 1)) {p : Program} {e : Env} {s : State} {m : MethodId} {below : List Frame} {meth : Method} {c : Code} (l : Launch) {b L : Nat} {xs : Nat → Int32} (hL : L ≤ 3072) (C0 : lw_At p s m meth c b L xs) : W p l e room_1 s m #[Value.ref b] below meth c s.heap [] 0 0 (lw_Z below #[Value.ref b] s) (entryFrame m ([Value.ref b] : List Value).toArray 4) := by
  obtain ⟨hx, hb, hr, hml, hown, hts, hX, hbl, hlocks, hgv, hnm⟩ := C0
  have htsA : ∀ w ∈ wsAll, w.before #[Value.ref b] s = true := fun w hw => hts w (List.mem_filter.mp hw).1
  obtain ⟨dC, dI, hKc⟩ := s_known htsA
  obtain ⟨cA, hKa⟩ := s_arr hts
  have hA : ∀ a : Nat, a < s.heap.size → ¬ (fun q : Nat => s.heap.size ≤ q) a := fun a ha => Nat.not_le.mpr ha
  obtain ⟨adK, adV, hSt, hTm⟩ := s_str (A := fun q : Nat => s.heap.size ≤ q) hgv hA
  have hs := flat_of_before _ hgv
  have hZ1 : va_Z "java/lang/String" "COMPACT_STRINGS" "Z" (.int 1) (fun q : Nat => s.heap.size ≤ q) s s.heap := va_Zof (hts (.laysStatic "java/lang/String" "COMPACT_STRINGS" "Z") (List.mem_of_getElem? (i := 583) (by decide +kernel))) (hts (.initialized "java/lang/String") (List.mem_of_getElem? (i := 140) (by decide +kernel))) (va_eqt (hs (.eq (.static "java/lang/String" "COMPACT_STRINGS" "Z") (.int 1)) (by decide +kernel))) hA
  have hZ2 : va_Zq "jdk/internal/util/Preconditions" "SIOOBE_FORMATTER" "Ljava/util/function/BiFunction;" (fun q : Nat => s.heap.size ≤ q) s s.heap := va_Zqof (hts (.laysStatic "jdk/internal/util/Preconditions" "SIOOBE_FORMATTER" "Ljava/util/function/BiFunction;") (List.mem_of_getElem? (i := 599) (by decide +kernel))) (hts (.initialized "jdk/internal/util/Preconditions") (List.mem_of_getElem? (i := 142) (by decide +kernel))) (hs (.isRef (.static "jdk/internal/util/Preconditions" "SIOOBE_FORMATTER" "Ljava/util/function/BiFunction;")) (by decide +kernel)) hA
  obtain ⟨t5, t6, hZ3⟩ : ∃ t5 t6 : Nat, va_Z "jdk/internal/util/Preconditions" "SIOOBE_FORMATTER" "Ljava/util/function/BiFunction;" (va_rf (if t6 = 0 then none else some t5)) (fun q : Nat => s.heap.size ≤ q) s s.heap := by
    rcases hZ2 with h | ⟨t, h⟩
    · exact ⟨0, 0, h⟩
    · exact ⟨t, 1, h⟩
  obtain ⟨sp, sp0, sp1, sp2, sp3, sp4, sp5, sp6⟩ : ∃ sp : Nat → Nat, sp 0 = b ∧ sp 1 = adK 0 ∧ sp 2 = adK 1 ∧ sp 3 = adV 0 ∧ sp 4 = adV 1 ∧ sp 5 = t5 ∧ sp 6 = t6 := ⟨fun k => match k with | 0 => b | 1 => adK 0 | 2 => adK 1 | 3 => adV 0 | 4 => adV 1 | 5 => t5 | _ => t6, rfl, rfl, rfl, rfl, rfl, rfl, rfl⟩
  obtain ⟨G, hG⟩ : ∃ G : GT, G = (l, s.heap.size, sp, dC, dI, cA, L, fun j => (xs j).toInt) := ⟨_, rfl⟩
  have hKx : n_Kx G s := by
    subst hG
    refine ⟨⟨hKc, hKa⟩, fun w hw => ?_, va_AO.of (hts (.arrayOver (.object "CubeNets$Graph")) (List.mem_of_getElem? (i := 275) (by decide +kernel))), hts (.arrayOver (.array .int)) (List.mem_of_getElem? (i := 295) (by decide +kernel)), ⟨Nat.le_refl _, ?_, ?_⟩, ?_, ?_, ?_, hZ1, ?_⟩
    · have h1 := (List.mem_filter.mp hw).2
      have h2 := hts w (List.mem_filter.mp hw).1
      cases w <;> first | exact va_Nw.of rfl h2 | cases h1
    · show va_X (sp 0) L (fun j => Int32.ofInt (xs j).toInt) s s.heap
      rw [sp0, show (fun j => Int32.ofInt (xs j).toInt) = xs from funext fun j => Int32_ofInt_toInt' _]
      exact hX
    · show sp 0 < s.heap.size
      rw [sp0]; exact hbl
    · show vk_R "CubeNets$Reader" 74 "nodes" (sp 1) s
      rw [sp1]
      exact vk_R.of (hts (.stringRef "CubeNets$Reader" 74 "nodes") (List.mem_of_getElem? (i := 569) (by decide +kernel))) (hTm 0 (by omega))
    · show vk_R "CubeNets$Reader" 72 "way" (sp 2) s
      rw [sp2]
      exact vk_R.of (hts (.stringRef "CubeNets$Reader" 72 "way") (List.mem_of_getElem? (i := 568) (by decide +kernel))) (hTm 1 (by omega))
    · show vk_S 2 [5, 3] [[110, 111, 100, 101, 115], [119, 97, 121]] (fun i => sp (1 + i)) (fun i => sp (3 + i)) (fun q : Nat => s.heap.size ≤ q) s s.heap
      have e1 : ∀ i, i < 2 → sp (1 + i) = adK i := s_two sp1 sp2
      have e2 : ∀ i, i < 2 → sp (3 + i) = adV i := s_two sp3 sp4
      refine ⟨fun i hi => ?_, fun i j hi hj h => hSt.2 i j hi hj ?_⟩
      · dsimp only
        rw [e1 i hi, e2 i hi]; exact hSt.1 i hi
      · have h : sp (1 + i) = sp (1 + j) := h
        rwa [e1 i hi, e1 j hj] at h
    · show va_Z _ _ _ (if 5 = 5 then va_rf (if sp 6 = 0 then none else some (sp 5)) else .ref (sp 5)) (fun q : Nat => s.heap.size ≤ q) s s.heap
      rw [if_pos rfl, sp5, sp6]
      exact hZ3
  have hgL : g_L G = L := by subst hG; rfl
  have hgB : g_base G = s.heap.size := by subst hG; rfl
  have hgl : g_l G = l := by subst hG; rfl
  have hg0 : n_gv G (vS 0) = .ref b := by subst hG; show Value.ref (sp 0) = _; rw [sp0]
  have T0 : n_T G 1000 244 81016 mL_law 0 [vS 0, vS 9, vS 9, vS 9] [] [] (fun _ _ => 0) (fun r _ _ => r = some (vI 1)) :=
    z_start (by omega) (fun w hw => W_L_law (by omega) (by omega) (hP G w hw (by omega)) (fun r w h => by rw [h]))
  intro T hT X
  have hl := lv_entry ([.ref b]) (n := 4) (Nat.le_of_ble_eq_true rfl)
  rw [lg_entry_eq]
  generalize (lg_sl ([.ref b]) ++ List.replicate (4 - (lg_sl ([.ref b])).length) Slot.unset).toArray = la at hl ⊢
  have hl2 : lv_has la 4 (n_asc G 0 [vS 0, vS 9, vS 9, vS 9]) := by
    show lv_has la 4 [(0, n_gv G (vS 0))]
    rw [hg0]
    exact hl
  have W0 := T0 p e room_1 s m #[Value.ref b] below meth c s.heap [] 0 0 600000 7302250 la hx hb hml hr hlocks hown hnm htsA hKx (by decide) (by decide) (by decide) (by decide) (by decide) (by decide) ⟨fun k q h => by simp [n_ws] at h, by rw [hgB]; rfl, fun a s j h => by simp at h⟩ va_S.rf (fun x hx => by
    rcases List.mem_cons.mp hx with h | h
    · rw [h]; trivial
    · rcases List.mem_cons.mp h with h | h
      · rw [h]; trivial
      · rcases List.mem_cons.mp h with h | h
        · rw [h]; trivial
        · rcases List.mem_cons.mp h with h | h
          · rw [h]; trivial
          · cases h) (fun x hx => by cases hx) hl2
  rw [hgl] at W0
  obtain ⟨t, a1, o, b1, b2, ⟨⟨r, sh', v', c1, c2, c3, c4⟩, c5⟩, Lc, ⟨fe1, fe2, fe3⟩, hfree⟩ := W0 T hT X
  refine ⟨t, a1, o, b1, b2, ?_, fe1, fe2, fe3.weaken (fun y hy hlt => ?_) (Nat.le_refl _) (Nat.le_refl _)⟩
  · rw [c1, c4]; rfl
  · have h9 : g_base G ≤ y.base := hfree y hy
    rw [hgB] at h9
    exact absurd hlt (Nat.not_lt.mpr h9)


/-! ===== the constructors, walked ===== -/
theorem okty0 : n_okTy 0 := by unfold n_okTy; decide
theorem okty1 : n_okTy 1 := by unfold n_okTy; decide
theorem okty2 : n_okTy 2 := by unfold n_okTy; decide
theorem okty3 : n_okTy 3 := by unfold n_okTy; decide
theorem okty4 : n_okTy 4 := by unfold n_okTy; decide
theorem okty5 : n_okTy 5 := by unfold n_okTy; decide
theorem okty6 : n_okTy 6 := by unfold n_okTy; decide
theorem okty7 : n_okTy 7 := by unfold n_okTy; decide
theorem okty8 : n_okTy 8 := by unfold n_okTy; decide
theorem okty9 : n_okTy 9 := by unfold n_okTy; decide
theorem okty10 : n_okTy 10 := by unfold n_okTy; decide
theorem okty11 : n_okTy 11 := by unfold n_okTy; decide
theorem w_oi : Cond.instanceMethod Lib.objectInit ∈ wsAll := wsAll_place 153 (by decide +kernel) (by decide +kernel)
theorem w_oc : Cond.code Lib.objectInit ⟨#[0xb1]⟩ 1 none ∈ wsAll := wsAll_place 154 (by decide +kernel) (by decide +kernel)
def zs1 : List Sh := ([] : List Sh) ++ [.inl (10, [0, 0, 0, 0, 0, 0, 0, 0, 0, 0, 0, 0, 0, 0, 0, 0, 0, 0])]
def zs2 : List Sh := zs1 ++ [.inl (9, [0, 0])]
def zs3 : List Sh := zs2 ++ [.inr (0, 800, [])]
def zs4 : List Sh := zs3.set 1 (.inl (9, [3, 0]))
def zq4 : List Sh := [.inl (10, [0, 0, 0, 0, 0, 0, 0, 0, 0, 0, 0, 0, 0, 0, 0, 0, 0, 0]), .inl (9, [3, 0]), .inr (0, 800, [])]
theorem zX9_init_1 {G : GT} {d : Nat} (hd : 1 ≤ d) {w : VT} {Q : Option Vl → List Sh → VT → Prop} (hv : ini w 2 [(0, 17)]) (hQ : ∀ w, ini w 3 [(0, 17)] → Q none zq4 w) : n_T G d 1 800 mX9_init 0 [vR 1] [] zs2 w Q := by
  refine T_aload_n dX9_init_0 rfl ?_
  refine T_objI dX9_init_1 lX9_3 w_oi w_oc (by omega) (Nat.le_of_ble_eq_true rfl) ?_
  refine T_aload_n dX9_init_4 rfl ?_
  refine T_sipush dX9_init_5 (by decide) ?_
  refine V_newa0 (n := 800) (L := 2) (rc' := 0) (rs' := 0) (sh' := zs3) dX9_init_8 (wsAll_place 173 (by decide +kernel) (by decide +kernel)) (by decide) (by decide +kernel) rfl (by decide) (by decide) (fun w ew => ?_)
  replace hv := ini_new (E' := [(0, 17)]) hv ew (by decide) (by decide)
  clear ew
  refine V_putF (sh' := zs4) (rs' := [0, 0]) dX9_init_10 fX9_9 rfl rfl rfl rfl (by decide +kernel) rfl (by decide +kernel) ?_
  refine T_aload_n dX9_init_13 rfl ?_
  refine T_iconst dX9_init_14 (by decide) ?_
  refine U_putI (rs' := [3, 0]) dX9_init_15 fX9_15 rfl rfl (by decide +kernel) (fun w ew => ?_)
  replace hv := ini_put (E' := [(0, 17)]) hv ew (by decide) (by decide)
  clear ew
  have ez : zs4 = zq4 := by decide +kernel
  rw [ez]
  exact T_vret dX9_init_18 rfl (hQ _ hv)
def zs6 : List Sh := zq4.set 0 (.inl (10, [2, 0, 0, 0, 0, 0, 0, 0, 0, 0, 0, 0, 0, 0, 0, 0, 0, 0]))
def zs7 : List Sh := zs6 ++ [.inl (5, [0, 0, 0, 0, 0, 0, 0, 0])]
def zs8 : List Sh := zs7 ++ [.inl (0, [0, 0, 0, 0, 0, 0, 0])]
def zs9 : List Sh := zs8 ++ [.inr (0, 24, [])]
def zs10 : List Sh := zs9.set 4 (.inl (0, [0, 0, 6, 0, 0, 0, 0]))
def zs11 : List Sh := zs10 ++ [.inr (0, 60, [])]
def zs12 : List Sh := zs11.set 4 (.inl (0, [0, 0, 6, 7, 0, 0, 0]))
def zs13 : List Sh := zs12 ++ [.inr (0, 60, [])]
def zs14 : List Sh := zs13.set 4 (.inl (0, [0, 0, 6, 7, 8, 0, 0]))
def zs15 : List Sh := zs14 ++ [.inr (0, 60, [])]
def zs16 : List Sh := zs15.set 4 (.inl (0, [0, 0, 6, 7, 8, 9, 0]))
def zs17 : List Sh := zs16 ++ [.inr (0, 24, [])]
def zs18 : List Sh := zs17.set 4 (.inl (0, [0, 0, 6, 7, 8, 9, 10]))
def zq18 : List Sh := [.inl (10, [2, 0, 0, 0, 0, 0, 0, 0, 0, 0, 0, 0, 0, 0, 0, 0, 0, 0]), .inl (9, [3, 0]), .inr (0, 800, []), .inl (5, [0, 0, 0, 0, 0, 0, 0, 0]), .inl (0, [0, 0, 6, 7, 8, 9, 10]), .inr (0, 24, []), .inr (0, 60, []), .inr (0, 60, []), .inr (0, 60, []), .inr (0, 24, [])]
theorem zX0_init_4 {G : GT} {d : Nat} (hd : 1 ≤ d) {w : VT} {Q : Option Vl → List Sh → VT → Prop} (hv : ini w 5 [(0, 17), (3, 2)]) (hQ : ∀ w, ini w 10 [(0, 17), (3, 2)] → Q none zq18 w) : n_T G d 5 228 mX0_init 0 [vR 4] [] zs8 w Q := by
  refine T_aload_n dX0_init_0 rfl ?_
  refine T_objI dX0_init_1 lX0_3 w_oi w_oc (by omega) (Nat.le_of_ble_eq_true rfl) ?_
  refine T_aload_n dX0_init_4 rfl ?_
  refine T_iconst dX0_init_5 (by decide) ?_
  refine U_putI (rs' := [0, 0, 0, 0, 0, 0, 0]) dX0_init_6 fX0_9 rfl rfl (by decide +kernel) (fun w ew => ?_)
  replace hv := ini_put (E' := [(0, 17), (3, 2)]) hv ew (by decide) (by decide)
  clear ew
  refine T_aload_n dX0_init_9 rfl ?_
  refine T_iconst dX0_init_10 (by decide) ?_
  refine U_putI (rs' := [0, 0, 0, 0, 0, 0, 0]) dX0_init_11 fX0_15 rfl rfl (by decide +kernel) (fun w ew => ?_)
  replace hv := ini_put (E' := [(0, 17), (3, 2)]) hv ew (by decide) (by decide)
  clear ew
  refine T_aload_n dX0_init_14 rfl ?_
  refine T_bipush dX0_init_15 (by decide) ?_
  refine V_newa0 (n := 24) (L := 5) (rc' := 4) (rs' := 204) (sh' := zs9) dX0_init_17 (wsAll_place 173 (by decide +kernel) (by decide +kernel)) (by decide) (by decide +kernel) rfl (by decide) (by decide) (fun w ew => ?_)
  replace hv := ini_new (E' := [(0, 17), (3, 2)]) hv ew (by decide) (by decide)
  clear ew
  refine V_putF (sh' := zs10) (rs' := [0, 0, 0, 0, 0, 0, 0]) dX0_init_19 fX0_18 rfl rfl rfl rfl (by decide +kernel) rfl (by decide +kernel) ?_
  refine T_aload_n dX0_init_22 rfl ?_
  refine T_bipush dX0_init_23 (by decide) ?_
  refine V_newa0 (n := 60) (L := 6) (rc' := 3) (rs' := 144) (sh' := zs11) dX0_init_25 (wsAll_place 173 (by decide +kernel) (by decide +kernel)) (by decide) (by decide +kernel) rfl (by decide) (by decide) (fun w ew => ?_)
  replace hv := ini_new (E' := [(0, 17), (3, 2)]) hv ew (by decide) (by decide)
  clear ew
  refine V_putF (sh' := zs12) (rs' := [0, 0, 6, 0, 0, 0, 0]) dX0_init_27 fX0_22 rfl rfl rfl rfl (by decide +kernel) rfl (by decide +kernel) ?_
  refine T_aload_n dX0_init_30 rfl ?_
  refine T_bipush dX0_init_31 (by decide) ?_
  refine V_newa0 (n := 60) (L := 7) (rc' := 2) (rs' := 84) (sh' := zs13) dX0_init_33 (wsAll_place 173 (by decide +kernel) (by decide +kernel)) (by decide) (by decide +kernel) rfl (by decide) (by decide) (fun w ew => ?_)
  replace hv := ini_new (E' := [(0, 17), (3, 2)]) hv ew (by decide) (by decide)
  clear ew
  refine V_putF (sh' := zs14) (rs' := [0, 0, 6, 7, 0, 0, 0]) dX0_init_35 fX0_25 rfl rfl rfl rfl (by decide +kernel) rfl (by decide +kernel) ?_
  refine T_aload_n dX0_init_38 rfl ?_
  refine T_bipush dX0_init_39 (by decide) ?_
  refine V_newa0 (n := 60) (L := 8) (rc' := 1) (rs' := 24) (sh' := zs15) dX0_init_41 (wsAll_place 173 (by decide +kernel) (by decide +kernel)) (by decide) (by decide +kernel) rfl (by decide) (by decide) (fun w ew => ?_)
  replace hv := ini_new (E' := [(0, 17), (3, 2)]) hv ew (by decide) (by decide)
  clear ew
  refine V_putF (sh' := zs16) (rs' := [0, 0, 6, 7, 8, 0, 0]) dX0_init_43 fX0_28 rfl rfl rfl rfl (by decide +kernel) rfl (by decide +kernel) ?_
  refine T_aload_n dX0_init_46 rfl ?_
  refine T_bipush dX0_init_47 (by decide) ?_
  refine V_newa0 (n := 24) (L := 9) (rc' := 0) (rs' := 0) (sh' := zs17) dX0_init_49 (wsAll_place 173 (by decide +kernel) (by decide +kernel)) (by decide) (by decide +kernel) rfl (by decide) (by decide) (fun w ew => ?_)
  replace hv := ini_new (E' := [(0, 17), (3, 2)]) hv ew (by decide) (by decide)
  clear ew
  refine V_putF (sh' := zs18) (rs' := [0, 0, 6, 7, 8, 9, 0]) dX0_init_51 fX0_31 rfl rfl rfl rfl (by decide +kernel) rfl (by decide +kernel) ?_
  have ez : zs18 = zq18 := by decide +kernel
  rw [ez]
  exact T_vret dX0_init_54 rfl (hQ _ hv)
def zs20 : List Sh := zq18.set 3 (.inl (5, [5, 0, 0, 0, 0, 0, 0, 0]))
def zq20 : List Sh := [.inl (10, [2, 0, 0, 0, 0, 0, 0, 0, 0, 0, 0, 0, 0, 0, 0, 0, 0, 0]), .inl (9, [3, 0]), .inr (0, 800, []), .inl (5, [5, 0, 0, 0, 0, 0, 0, 0]), .inl (0, [0, 0, 6, 7, 8, 9, 10]), .inr (0, 24, []), .inr (0, 60, []), .inr (0, 60, []), .inr (0, 60, []), .inr (0, 24, [])]
theorem zX5_init_3 {G : GT} {d : Nat} (hd : 2 ≤ d) {w : VT} {Q : Option Vl → List Sh → VT → Prop} (hv : ini w 4 [(0, 17), (3, 2)]) (hQ : ∀ w, ini w 10 [(0, 17)] → Q none zq20 w) : n_T G d 6 235 mX5_init 0 [vR 3] [] zs7 w Q := by
  refine T_aload_n dX5_init_0 rfl ?_
  refine T_objI dX5_init_1 lX5_3 w_oi w_oc (by omega) (Nat.le_of_ble_eq_true rfl) ?_
  refine T_aload_n dX5_init_4 rfl ?_
  refine V_new (L := 4) (rc' := 5) (rs' := 228) (sh' := zs8) dX5_init_5 cok0 okty0 (wsAll_place 180 (by decide +kernel) (by decide +kernel)) (wsAll_place 181 (by decide +kernel) (by decide +kernel)) (wsAll_place 131 (by decide +kernel) (by decide +kernel)) (by decide +kernel) (by decide +kernel) (by decide) (by decide) (fun w ew => ?_)
  replace hv := ini_new (E' := [(0, 17), (3, 2)]) hv ew (by decide) (by decide)
  clear ew
  refine T_dup dX5_init_8 rfl ?_
  refine V_callI (rc1 := 5) (rs1 := 228) (rc2 := 0) (rs2 := 0) dX5_init_9 kX0_init lX5_11 (by decide) (Nat.le_of_ble_eq_true rfl) (by omega) (by decide) (by decide) ?_
  refine zX0_init_4 (by omega) hv (fun w hv => ?_)
  show n_T G d 0 0 mX5_init 12 [vR 3] [vR 4, vR 3] zq18 w Q
  refine V_putF (sh' := zs20) (rs' := [0, 0, 0, 0, 0, 0, 0, 0]) dX5_init_12 fX5_12 rfl rfl rfl rfl (by decide +kernel) rfl (by decide +kernel) ?_
  refine T_aload_n dX5_init_15 rfl ?_
  refine T_iconst dX5_init_16 (by decide) ?_
  refine U_putI (rs' := [5, 0, 0, 0, 0, 0, 0, 0]) dX5_init_17 fX5_18 rfl rfl (by decide +kernel) (fun w ew => ?_)
  replace hv := ini_put (E' := [(0, 17), (3, 2)]) hv ew (by decide) (by decide)
  clear ew
  refine T_aload_n dX5_init_20 rfl ?_
  refine T_iconst dX5_init_21 (by decide) ?_
  refine U_putI (rs' := [5, 0, 0, 0, 0, 0, 0, 0]) dX5_init_22 fX5_22 rfl rfl (by decide +kernel) (fun w ew => ?_)
  replace hv := ini_put (E' := [(0, 17)]) hv ew (by decide) (by decide)
  clear ew
  refine T_aload_n dX5_init_25 rfl ?_
  refine T_iconst dX5_init_26 (by decide) ?_
  refine U_putI (rs' := [5, 0, 0, 0, 0, 0, 0, 0]) dX5_init_27 fX5_25 rfl rfl (by decide +kernel) (fun w ew => ?_)
  replace hv := ini_put (E' := [(0, 17)]) hv ew (by decide) (by decide)
  clear ew
  refine T_aload_n dX5_init_30 rfl ?_
  refine T_iconst dX5_init_31 (by decide) ?_
  refine U_putI (rs' := [5, 0, 0, 0, 0, 0, 0, 0]) dX5_init_32 fX5_28 rfl rfl (by decide +kernel) (fun w ew => ?_)
  replace hv := ini_put (E' := [(0, 17)]) hv ew (by decide) (by decide)
  clear ew
  refine T_aload_n dX5_init_35 rfl ?_
  refine T_iconst dX5_init_36 (by decide) ?_
  refine U_putI (rs' := [5, 0, 0, 0, 0, 0, 0, 0]) dX5_init_37 fX5_31 rfl rfl (by decide +kernel) (fun w ew => ?_)
  replace hv := ini_put (E' := [(0, 17)]) hv ew (by decide) (by decide)
  clear ew
  refine T_aload_n dX5_init_40 rfl ?_
  refine T_iconst dX5_init_41 (by decide) ?_
  refine U_putI (rs' := [5, 0, 0, 0, 0, 0, 0, 0]) dX5_init_42 fX5_34 rfl rfl (by decide +kernel) (fun w ew => ?_)
  replace hv := ini_put (E' := [(0, 17)]) hv ew (by decide) (by decide)
  clear ew
  refine T_aload_n dX5_init_45 rfl ?_
  refine T_iconst dX5_init_46 (by decide) ?_
  refine U_putI (rs' := [5, 0, 0, 0, 0, 0, 0, 0]) dX5_init_47 fX5_37 rfl rfl (by decide +kernel) (fun w ew => ?_)
  replace hv := ini_put (E' := [(0, 17)]) hv ew (by decide) (by decide)
  clear ew
  have ez : zs20 = zq20 := by decide +kernel
  rw [ez]
  exact T_vret dX5_init_50 rfl (hQ _ hv)
def zs22 : List Sh := zq20.set 0 (.inl (10, [2, 4, 0, 0, 0, 0, 0, 0, 0, 0, 0, 0, 0, 0, 0, 0, 0, 0]))
def zs23 : List Sh := zs22 ++ [.inl (0, [0, 0, 0, 0, 0, 0, 0])]
def zs24 : List Sh := zs23 ++ [.inr (0, 24, [])]
def zs25 : List Sh := zs24.set 10 (.inl (0, [0, 0, 12, 0, 0, 0, 0]))
def zs26 : List Sh := zs25 ++ [.inr (0, 60, [])]
def zs27 : List Sh := zs26.set 10 (.inl (0, [0, 0, 12, 13, 0, 0, 0]))
def zs28 : List Sh := zs27 ++ [.inr (0, 60, [])]
def zs29 : List Sh := zs28.set 10 (.inl (0, [0, 0, 12, 13, 14, 0, 0]))
def zs30 : List Sh := zs29 ++ [.inr (0, 60, [])]
def zs31 : List Sh := zs30.set 10 (.inl (0, [0, 0, 12, 13, 14, 15, 0]))
def zs32 : List Sh := zs31 ++ [.inr (0, 24, [])]
def zs33 : List Sh := zs32.set 10 (.inl (0, [0, 0, 12, 13, 14, 15, 16]))
def zq33 : List Sh := [.inl (10, [2, 4, 0, 0, 0, 0, 0, 0, 0, 0, 0, 0, 0, 0, 0, 0, 0, 0]), .inl (9, [3, 0]), .inr (0, 800, []), .inl (5, [5, 0, 0, 0, 0, 0, 0, 0]), .inl (0, [0, 0, 6, 7, 8, 9, 10]), .inr (0, 24, []), .inr (0, 60, []), .inr (0, 60, []), .inr (0, 60, []), .inr (0, 24, []), .inl (0, [0, 0, 12, 13, 14, 15, 16]), .inr (0, 24, []), .inr (0, 60, []), .inr (0, 60, []), .inr (0, 60, []), .inr (0, 24, [])]
theorem zX0_init_10 {G : GT} {d : Nat} (hd : 1 ≤ d) {w : VT} {Q : Option Vl → List Sh → VT → Prop} (hv : ini w 11 [(0, 17)]) (hQ : ∀ w, ini w 16 [(0, 17)] → Q none zq33 w) : n_T G d 5 228 mX0_init 0 [vR 10] [] zs23 w Q := by
  refine T_aload_n dX0_init_0 rfl ?_
  refine T_objI dX0_init_1 lX0_3 w_oi w_oc (by omega) (Nat.le_of_ble_eq_true rfl) ?_
  refine T_aload_n dX0_init_4 rfl ?_
  refine T_iconst dX0_init_5 (by decide) ?_
  refine U_putI (rs' := [0, 0, 0, 0, 0, 0, 0]) dX0_init_6 fX0_9 rfl rfl (by decide +kernel) (fun w ew => ?_)
  replace hv := ini_put (E' := [(0, 17)]) hv ew (by decide) (by decide)
  clear ew
  refine T_aload_n dX0_init_9 rfl ?_
  refine T_iconst dX0_init_10 (by decide) ?_
  refine U_putI (rs' := [0, 0, 0, 0, 0, 0, 0]) dX0_init_11 fX0_15 rfl rfl (by decide +kernel) (fun w ew => ?_)
  replace hv := ini_put (E' := [(0, 17)]) hv ew (by decide) (by decide)
  clear ew
  refine T_aload_n dX0_init_14 rfl ?_
  refine T_bipush dX0_init_15 (by decide) ?_
  refine V_newa0 (n := 24) (L := 11) (rc' := 4) (rs' := 204) (sh' := zs24) dX0_init_17 (wsAll_place 173 (by decide +kernel) (by decide +kernel)) (by decide) (by decide +kernel) rfl (by decide) (by decide) (fun w ew => ?_)
  replace hv := ini_new (E' := [(0, 17)]) hv ew (by decide) (by decide)
  clear ew
  refine V_putF (sh' := zs25) (rs' := [0, 0, 0, 0, 0, 0, 0]) dX0_init_19 fX0_18 rfl rfl rfl rfl (by decide +kernel) rfl (by decide +kernel) ?_
  refine T_aload_n dX0_init_22 rfl ?_
  refine T_bipush dX0_init_23 (by decide) ?_
  refine V_newa0 (n := 60) (L := 12) (rc' := 3) (rs' := 144) (sh' := zs26) dX0_init_25 (wsAll_place 173 (by decide +kernel) (by decide +kernel)) (by decide) (by decide +kernel) rfl (by decide) (by decide) (fun w ew => ?_)
  replace hv := ini_new (E' := [(0, 17)]) hv ew (by decide) (by decide)
  clear ew
  refine V_putF (sh' := zs27) (rs' := [0, 0, 12, 0, 0, 0, 0]) dX0_init_27 fX0_22 rfl rfl rfl rfl (by decide +kernel) rfl (by decide +kernel) ?_
  refine T_aload_n dX0_init_30 rfl ?_
  refine T_bipush dX0_init_31 (by decide) ?_
  refine V_newa0 (n := 60) (L := 13) (rc' := 2) (rs' := 84) (sh' := zs28) dX0_init_33 (wsAll_place 173 (by decide +kernel) (by decide +kernel)) (by decide) (by decide +kernel) rfl (by decide) (by decide) (fun w ew => ?_)
  replace hv := ini_new (E' := [(0, 17)]) hv ew (by decide) (by decide)
  clear ew
  refine V_putF (sh' := zs29) (rs' := [0, 0, 12, 13, 0, 0, 0]) dX0_init_35 fX0_25 rfl rfl rfl rfl (by decide +kernel) rfl (by decide +kernel) ?_
  refine T_aload_n dX0_init_38 rfl ?_
  refine T_bipush dX0_init_39 (by decide) ?_
  refine V_newa0 (n := 60) (L := 14) (rc' := 1) (rs' := 24) (sh' := zs30) dX0_init_41 (wsAll_place 173 (by decide +kernel) (by decide +kernel)) (by decide) (by decide +kernel) rfl (by decide) (by decide) (fun w ew => ?_)
  replace hv := ini_new (E' := [(0, 17)]) hv ew (by decide) (by decide)
  clear ew
  refine V_putF (sh' := zs31) (rs' := [0, 0, 12, 13, 14, 0, 0]) dX0_init_43 fX0_28 rfl rfl rfl rfl (by decide +kernel) rfl (by decide +kernel) ?_
  refine T_aload_n dX0_init_46 rfl ?_
  refine T_bipush dX0_init_47 (by decide) ?_
  refine V_newa0 (n := 24) (L := 15) (rc' := 0) (rs' := 0) (sh' := zs32) dX0_init_49 (wsAll_place 173 (by decide +kernel) (by decide +kernel)) (by decide) (by decide +kernel) rfl (by decide) (by decide) (fun w ew => ?_)
  replace hv := ini_new (E' := [(0, 17)]) hv ew (by decide) (by decide)
  clear ew
  refine V_putF (sh' := zs33) (rs' := [0, 0, 12, 13, 14, 15, 0]) dX0_init_51 fX0_31 rfl rfl rfl rfl (by decide +kernel) rfl (by decide +kernel) ?_
  have ez : zs33 = zq33 := by decide +kernel
  rw [ez]
  exact T_vret dX0_init_54 rfl (hQ _ hv)
def zs35 : List Sh := zq33.set 0 (.inl (10, [2, 4, 11, 0, 0, 0, 0, 0, 0, 0, 0, 0, 0, 0, 0, 0, 0, 0]))
def zs36 : List Sh := zs35 ++ [.inl (3, [0, 0, 0])]
def zs37 : List Sh := zs36 ++ [.inr (4, 20, [0, 0, 0, 0, 0, 0, 0, 0, 0, 0, 0, 0, 0, 0, 0, 0, 0, 0, 0, 0])]
def zs38 : List Sh := zs37.set 16 (.inl (3, [0, 0, 18]))
def zs39 : List Sh := zs38 ++ [.inl (0, [0, 0, 0, 0, 0, 0, 0])]
def zs40 : List Sh := zs39 ++ [.inr (0, 24, [])]
def zs41 : List Sh := zs40.set 18 (.inl (0, [0, 0, 20, 0, 0, 0, 0]))
def zs42 : List Sh := zs41 ++ [.inr (0, 60, [])]
def zs43 : List Sh := zs42.set 18 (.inl (0, [0, 0, 20, 21, 0, 0, 0]))
def zs44 : List Sh := zs43 ++ [.inr (0, 60, [])]
def zs45 : List Sh := zs44.set 18 (.inl (0, [0, 0, 20, 21, 22, 0, 0]))
def zs46 : List Sh := zs45 ++ [.inr (0, 60, [])]
def zs47 : List Sh := zs46.set 18 (.inl (0, [0, 0, 20, 21, 22, 23, 0]))
def zs48 : List Sh := zs47 ++ [.inr (0, 24, [])]
def zs49 : List Sh := zs48.set 18 (.inl (0, [0, 0, 20, 21, 22, 23, 24]))
def zq49 : List Sh := [.inl (10, [2, 4, 11, 0, 0, 0, 0, 0, 0, 0, 0, 0, 0, 0, 0, 0, 0, 0]), .inl (9, [3, 0]), .inr (0, 800, []), .inl (5, [5, 0, 0, 0, 0, 0, 0, 0]), .inl (0, [0, 0, 6, 7, 8, 9, 10]), .inr (0, 24, []), .inr (0, 60, []), .inr (0, 60, []), .inr (0, 60, []), .inr (0, 24, []), .inl (0, [0, 0, 12, 13, 14, 15, 16]), .inr (0, 24, []), .inr (0, 60, []), .inr (0, 60, []), .inr (0, 60, []), .inr (0, 24, []), .inl (3, [0, 0, 18]), .inr (4, 20, [0, 0, 0, 0, 0, 0, 0, 0, 0, 0, 0, 0, 0, 0, 0, 0, 0, 0, 0, 0]), .inl (0, [0, 0, 20, 21, 22, 23, 24]), .inr (0, 24, []), .inr (0, 60, []), .inr (0, 60, []), .inr (0, 60, []), .inr (0, 24, [])]
theorem zX0_init_18 {G : GT} {d : Nat} (hd : 1 ≤ d) {w : VT} {Q : Option Vl → List Sh → VT → Prop} (hv : ini w 19 [(0, 17)]) (hQ : ∀ w, ini w 24 [(0, 17)] → Q none zq49 w) : n_T G d 5 228 mX0_init 0 [vR 18] [] zs39 w Q := by
  refine T_aload_n dX0_init_0 rfl ?_
  refine T_objI dX0_init_1 lX0_3 w_oi w_oc (by omega) (Nat.le_of_ble_eq_true rfl) ?_
  refine T_aload_n dX0_init_4 rfl ?_
  refine T_iconst dX0_init_5 (by decide) ?_
  refine U_putI (rs' := [0, 0, 0, 0, 0, 0, 0]) dX0_init_6 fX0_9 rfl rfl (by decide +kernel) (fun w ew => ?_)
  replace hv := ini_put (E' := [(0, 17)]) hv ew (by decide) (by decide)
  clear ew
  refine T_aload_n dX0_init_9 rfl ?_
  refine T_iconst dX0_init_10 (by decide) ?_
  refine U_putI (rs' := [0, 0, 0, 0, 0, 0, 0]) dX0_init_11 fX0_15 rfl rfl (by decide +kernel) (fun w ew => ?_)
  replace hv := ini_put (E' := [(0, 17)]) hv ew (by decide) (by decide)
  clear ew
  refine T_aload_n dX0_init_14 rfl ?_
  refine T_bipush dX0_init_15 (by decide) ?_
  refine V_newa0 (n := 24) (L := 19) (rc' := 4) (rs' := 204) (sh' := zs40) dX0_init_17 (wsAll_place 173 (by decide +kernel) (by decide +kernel)) (by decide) (by decide +kernel) rfl (by decide) (by decide) (fun w ew => ?_)
  replace hv := ini_new (E' := [(0, 17)]) hv ew (by decide) (by decide)
  clear ew
  refine V_putF (sh' := zs41) (rs' := [0, 0, 0, 0, 0, 0, 0]) dX0_init_19 fX0_18 rfl rfl rfl rfl (by decide +kernel) rfl (by decide +kernel) ?_
  refine T_aload_n dX0_init_22 rfl ?_
  refine T_bipush dX0_init_23 (by decide) ?_
  refine V_newa0 (n := 60) (L := 20) (rc' := 3) (rs' := 144) (sh' := zs42) dX0_init_25 (wsAll_place 173 (by decide +kernel) (by decide +kernel)) (by decide) (by decide +kernel) rfl (by decide) (by decide) (fun w ew => ?_)
  replace hv := ini_new (E' := [(0, 17)]) hv ew (by decide) (by decide)
  clear ew
  refine V_putF (sh' := zs43) (rs' := [0, 0, 20, 0, 0, 0, 0]) dX0_init_27 fX0_22 rfl rfl rfl rfl (by decide +kernel) rfl (by decide +kernel) ?_
  refine T_aload_n dX0_init_30 rfl ?_
  refine T_bipush dX0_init_31 (by decide) ?_
  refine V_newa0 (n := 60) (L := 21) (rc' := 2) (rs' := 84) (sh' := zs44) dX0_init_33 (wsAll_place 173 (by decide +kernel) (by decide +kernel)) (by decide) (by decide +kernel) rfl (by decide) (by decide) (fun w ew => ?_)
  replace hv := ini_new (E' := [(0, 17)]) hv ew (by decide) (by decide)
  clear ew
  refine V_putF (sh' := zs45) (rs' := [0, 0, 20, 21, 0, 0, 0]) dX0_init_35 fX0_25 rfl rfl rfl rfl (by decide +kernel) rfl (by decide +kernel) ?_
  refine T_aload_n dX0_init_38 rfl ?_
  refine T_bipush dX0_init_39 (by decide) ?_
  refine V_newa0 (n := 60) (L := 22) (rc' := 1) (rs' := 24) (sh' := zs46) dX0_init_41 (wsAll_place 173 (by decide +kernel) (by decide +kernel)) (by decide) (by decide +kernel) rfl (by decide) (by decide) (fun w ew => ?_)
  replace hv := ini_new (E' := [(0, 17)]) hv ew (by decide) (by decide)
  clear ew
  refine V_putF (sh' := zs47) (rs' := [0, 0, 20, 21, 22, 0, 0]) dX0_init_43 fX0_28 rfl rfl rfl rfl (by decide +kernel) rfl (by decide +kernel) ?_
  refine T_aload_n dX0_init_46 rfl ?_
  refine T_bipush dX0_init_47 (by decide) ?_
  refine V_newa0 (n := 24) (L := 23) (rc' := 0) (rs' := 0) (sh' := zs48) dX0_init_49 (wsAll_place 173 (by decide +kernel) (by decide +kernel)) (by decide) (by decide +kernel) rfl (by decide) (by decide) (fun w ew => ?_)
  replace hv := ini_new (E' := [(0, 17)]) hv ew (by decide) (by decide)
  clear ew
  refine V_putF (sh' := zs49) (rs' := [0, 0, 20, 21, 22, 23, 0]) dX0_init_51 fX0_31 rfl rfl rfl rfl (by decide +kernel) rfl (by decide +kernel) ?_
  have ez : zs49 = zq49 := by decide +kernel
  rw [ez]
  exact T_vret dX0_init_54 rfl (hQ _ hv)
def zs51 : List Sh := zq49.set 17 (.inr (4, 20, [19, 0, 0, 0, 0, 0, 0, 0, 0, 0, 0, 0, 0, 0, 0, 0, 0, 0, 0, 0]))
def zs52 : List Sh := zs51 ++ [.inl (0, [0, 0, 0, 0, 0, 0, 0])]
def zs53 : List Sh := zs52 ++ [.inr (0, 24, [])]
def zs54 : List Sh := zs53.set 24 (.inl (0, [0, 0, 26, 0, 0, 0, 0]))
def zs55 : List Sh := zs54 ++ [.inr (0, 60, [])]
def zs56 : List Sh := zs55.set 24 (.inl (0, [0, 0, 26, 27, 0, 0, 0]))
def zs57 : List Sh := zs56 ++ [.inr (0, 60, [])]
def zs58 : List Sh := zs57.set 24 (.inl (0, [0, 0, 26, 27, 28, 0, 0]))
def zs59 : List Sh := zs58 ++ [.inr (0, 60, [])]
def zs60 : List Sh := zs59.set 24 (.inl (0, [0, 0, 26, 27, 28, 29, 0]))
def zs61 : List Sh := zs60 ++ [.inr (0, 24, [])]
def zs62 : List Sh := zs61.set 24 (.inl (0, [0, 0, 26, 27, 28, 29, 30]))
def zq62 : List Sh := [.inl (10, [2, 4, 11, 0, 0, 0, 0, 0, 0, 0, 0, 0, 0, 0, 0, 0, 0, 0]), .inl (9, [3, 0]), .inr (0, 800, []), .inl (5, [5, 0, 0, 0, 0, 0, 0, 0]), .inl (0, [0, 0, 6, 7, 8, 9, 10]), .inr (0, 24, []), .inr (0, 60, []), .inr (0, 60, []), .inr (0, 60, []), .inr (0, 24, []), .inl (0, [0, 0, 12, 13, 14, 15, 16]), .inr (0, 24, []), .inr (0, 60, []), .inr (0, 60, []), .inr (0, 60, []), .inr (0, 24, []), .inl (3, [0, 0, 18]), .inr (4, 20, [19, 0, 0, 0, 0, 0, 0, 0, 0, 0, 0, 0, 0, 0, 0, 0, 0, 0, 0, 0]), .inl (0, [0, 0, 20, 21, 22, 23, 24]), .inr (0, 24, []), .inr (0, 60, []), .inr (0, 60, []), .inr (0, 60, []), .inr (0, 24, []), .inl (0, [0, 0, 26, 27, 28, 29, 30]), .inr (0, 24, []), .inr (0, 60, []), .inr (0, 60, []), .inr (0, 60, []), .inr (0, 24, [])]
theorem zX0_init_24 {G : GT} {d : Nat} (hd : 1 ≤ d) {w : VT} {Q : Option Vl → List Sh → VT → Prop} (hv : ini w 25 [(0, 17)]) (hQ : ∀ w, ini w 30 [(0, 17)] → Q none zq62 w) : n_T G d 5 228 mX0_init 0 [vR 24] [] zs52 w Q := by
  refine T_aload_n dX0_init_0 rfl ?_
  refine T_objI dX0_init_1 lX0_3 w_oi w_oc (by omega) (Nat.le_of_ble_eq_true rfl) ?_
  refine T_aload_n dX0_init_4 rfl ?_
  refine T_iconst dX0_init_5 (by decide) ?_
  refine U_putI (rs' := [0, 0, 0, 0, 0, 0, 0]) dX0_init_6 fX0_9 rfl rfl (by decide +kernel) (fun w ew => ?_)
  replace hv := ini_put (E' := [(0, 17)]) hv ew (by decide) (by decide)
  clear ew
  refine T_aload_n dX0_init_9 rfl ?_
  refine T_iconst dX0_init_10 (by decide) ?_
  refine U_putI (rs' := [0, 0, 0, 0, 0, 0, 0]) dX0_init_11 fX0_15 rfl rfl (by decide +kernel) (fun w ew => ?_)
  replace hv := ini_put (E' := [(0, 17)]) hv ew (by decide) (by decide)
  clear ew
  refine T_aload_n dX0_init_14 rfl ?_
  refine T_bipush dX0_init_15 (by decide) ?_
  refine V_newa0 (n := 24) (L := 25) (rc' := 4) (rs' := 204) (sh' := zs53) dX0_init_17 (wsAll_place 173 (by decide +kernel) (by decide +kernel)) (by decide) (by decide +kernel) rfl (by decide) (by decide) (fun w ew => ?_)
  replace hv := ini_new (E' := [(0, 17)]) hv ew (by decide) (by decide)
  clear ew
  refine V_putF (sh' := zs54) (rs' := [0, 0, 0, 0, 0, 0, 0]) dX0_init_19 fX0_18 rfl rfl rfl rfl (by decide +kernel) rfl (by decide +kernel) ?_
  refine T_aload_n dX0_init_22 rfl ?_
  refine T_bipush dX0_init_23 (by decide) ?_
  refine V_newa0 (n := 60) (L := 26) (rc' := 3) (rs' := 144) (sh' := zs55) dX0_init_25 (wsAll_place 173 (by decide +kernel) (by decide +kernel)) (by decide) (by decide +kernel) rfl (by decide) (by decide) (fun w ew => ?_)
  replace hv := ini_new (E' := [(0, 17)]) hv ew (by decide) (by decide)
  clear ew
  refine V_putF (sh' := zs56) (rs' := [0, 0, 26, 0, 0, 0, 0]) dX0_init_27 fX0_22 rfl rfl rfl rfl (by decide +kernel) rfl (by decide +kernel) ?_
  refine T_aload_n dX0_init_30 rfl ?_
  refine T_bipush dX0_init_31 (by decide) ?_
  refine V_newa0 (n := 60) (L := 27) (rc' := 2) (rs' := 84) (sh' := zs57) dX0_init_33 (wsAll_place 173 (by decide +kernel) (by decide +kernel)) (by decide) (by decide +kernel) rfl (by decide) (by decide) (fun w ew => ?_)
  replace hv := ini_new (E' := [(0, 17)]) hv ew (by decide) (by decide)
  clear ew
  refine V_putF (sh' := zs58) (rs' := [0, 0, 26, 27, 0, 0, 0]) dX0_init_35 fX0_25 rfl rfl rfl rfl (by decide +kernel) rfl (by decide +kernel) ?_
  refine T_aload_n dX0_init_38 rfl ?_
  refine T_bipush dX0_init_39 (by decide) ?_
  refine V_newa0 (n := 60) (L := 28) (rc' := 1) (rs' := 24) (sh' := zs59) dX0_init_41 (wsAll_place 173 (by decide +kernel) (by decide +kernel)) (by decide) (by decide +kernel) rfl (by decide) (by decide) (fun w ew => ?_)
  replace hv := ini_new (E' := [(0, 17)]) hv ew (by decide) (by decide)
  clear ew
  refine V_putF (sh' := zs60) (rs' := [0, 0, 26, 27, 28, 0, 0]) dX0_init_43 fX0_28 rfl rfl rfl rfl (by decide +kernel) rfl (by decide +kernel) ?_
  refine T_aload_n dX0_init_46 rfl ?_
  refine T_bipush dX0_init_47 (by decide) ?_
  refine V_newa0 (n := 24) (L := 29) (rc' := 0) (rs' := 0) (sh' := zs61) dX0_init_49 (wsAll_place 173 (by decide +kernel) (by decide +kernel)) (by decide) (by decide +kernel) rfl (by decide) (by decide) (fun w ew => ?_)
  replace hv := ini_new (E' := [(0, 17)]) hv ew (by decide) (by decide)
  clear ew
  refine V_putF (sh' := zs62) (rs' := [0, 0, 26, 27, 28, 29, 0]) dX0_init_51 fX0_31 rfl rfl rfl rfl (by decide +kernel) rfl (by decide +kernel) ?_
  have ez : zs62 = zq62 := by decide +kernel
  rw [ez]
  exact T_vret dX0_init_54 rfl (hQ _ hv)
def zs64 : List Sh := zq62.set 17 (.inr (4, 20, [19, 25, 0, 0, 0, 0, 0, 0, 0, 0, 0, 0, 0, 0, 0, 0, 0, 0, 0, 0]))
def zs65 : List Sh := zs64 ++ [.inl (0, [0, 0, 0, 0, 0, 0, 0])]
def zs66 : List Sh := zs65 ++ [.inr (0, 24, [])]
def zs67 : List Sh := zs66.set 30 (.inl (0, [0, 0, 32, 0, 0, 0, 0]))
def zs68 : List Sh := zs67 ++ [.inr (0, 60, [])]
def zs69 : List Sh := zs68.set 30 (.inl (0, [0, 0, 32, 33, 0, 0, 0]))
def zs70 : List Sh := zs69 ++ [.inr (0, 60, [])]
def zs71 : List Sh := zs70.set 30 (.inl (0, [0, 0, 32, 33, 34, 0, 0]))
def zs72 : List Sh := zs71 ++ [.inr (0, 60, [])]
def zs73 : List Sh := zs72.set 30 (.inl (0, [0, 0, 32, 33, 34, 35, 0]))
def zs74 : List Sh := zs73 ++ [.inr (0, 24, [])]
def zs75 : List Sh := zs74.set 30 (.inl (0, [0, 0, 32, 33, 34, 35, 36]))
def zq75 : List Sh := [.inl (10, [2, 4, 11, 0, 0, 0, 0, 0, 0, 0, 0, 0, 0, 0, 0, 0, 0, 0]), .inl (9, [3, 0]), .inr (0, 800, []), .inl (5, [5, 0, 0, 0, 0, 0, 0, 0]), .inl (0, [0, 0, 6, 7, 8, 9, 10]), .inr (0, 24, []), .inr (0, 60, []), .inr (0, 60, []), .inr (0, 60, []), .inr (0, 24, []), .inl (0, [0, 0, 12, 13, 14, 15, 16]), .inr (0, 24, []), .inr (0, 60, []), .inr (0, 60, []), .inr (0, 60, []), .inr (0, 24, []), .inl (3, [0, 0, 18]), .inr (4, 20, [19, 25, 0, 0, 0, 0, 0, 0, 0, 0, 0, 0, 0, 0, 0, 0, 0, 0, 0, 0]), .inl (0, [0, 0, 20, 21, 22, 23, 24]), .inr (0, 24, []), .inr (0, 60, []), .inr (0, 60, []), .inr (0, 60, []), .inr (0, 24, []), .inl (0, [0, 0, 26, 27, 28, 29, 30]), .inr (0, 24, []), .inr (0, 60, []), .inr (0, 60, []), .inr (0, 60, []), .inr (0, 24, []), .inl (0, [0, 0, 32, 33, 34, 35, 36]), .inr (0, 24, []), .inr (0, 60, []), .inr (0, 60, []), .inr (0, 60, []), .inr (0, 24, [])]
theorem zX0_init_30 {G : GT} {d : Nat} (hd : 1 ≤ d) {w : VT} {Q : Option Vl → List Sh → VT → Prop} (hv : ini w 31 [(0, 17)]) (hQ : ∀ w, ini w 36 [(0, 17)] → Q none zq75 w) : n_T G d 5 228 mX0_init 0 [vR 30] [] zs65 w Q := by
  refine T_aload_n dX0_init_0 rfl ?_
  refine T_objI dX0_init_1 lX0_3 w_oi w_oc (by omega) (Nat.le_of_ble_eq_true rfl) ?_
  refine T_aload_n dX0_init_4 rfl ?_
  refine T_iconst dX0_init_5 (by decide) ?_
  refine U_putI (rs' := [0, 0, 0, 0, 0, 0, 0]) dX0_init_6 fX0_9 rfl rfl (by decide +kernel) (fun w ew => ?_)
  replace hv := ini_put (E' := [(0, 17)]) hv ew (by decide) (by decide)
  clear ew
  refine T_aload_n dX0_init_9 rfl ?_
  refine T_iconst dX0_init_10 (by decide) ?_
  refine U_putI (rs' := [0, 0, 0, 0, 0, 0, 0]) dX0_init_11 fX0_15 rfl rfl (by decide +kernel) (fun w ew => ?_)
  replace hv := ini_put (E' := [(0, 17)]) hv ew (by decide) (by decide)
  clear ew
  refine T_aload_n dX0_init_14 rfl ?_
  refine T_bipush dX0_init_15 (by decide) ?_
  refine V_newa0 (n := 24) (L := 31) (rc' := 4) (rs' := 204) (sh' := zs66) dX0_init_17 (wsAll_place 173 (by decide +kernel) (by decide +kernel)) (by decide) (by decide +kernel) rfl (by decide) (by decide) (fun w ew => ?_)
  replace hv := ini_new (E' := [(0, 17)]) hv ew (by decide) (by decide)
  clear ew
  refine V_putF (sh' := zs67) (rs' := [0, 0, 0, 0, 0, 0, 0]) dX0_init_19 fX0_18 rfl rfl rfl rfl (by decide +kernel) rfl (by decide +kernel) ?_
  refine T_aload_n dX0_init_22 rfl ?_
  refine T_bipush dX0_init_23 (by decide) ?_
  refine V_newa0 (n := 60) (L := 32) (rc' := 3) (rs' := 144) (sh' := zs68) dX0_init_25 (wsAll_place 173 (by decide +kernel) (by decide +kernel)) (by decide) (by decide +kernel) rfl (by decide) (by decide) (fun w ew => ?_)
  replace hv := ini_new (E' := [(0, 17)]) hv ew (by decide) (by decide)
  clear ew
  refine V_putF (sh' := zs69) (rs' := [0, 0, 32, 0, 0, 0, 0]) dX0_init_27 fX0_22 rfl rfl rfl rfl (by decide +kernel) rfl (by decide +kernel) ?_
  refine T_aload_n dX0_init_30 rfl ?_
  refine T_bipush dX0_init_31 (by decide) ?_
  refine V_newa0 (n := 60) (L := 33) (rc' := 2) (rs' := 84) (sh' := zs70) dX0_init_33 (wsAll_place 173 (by decide +kernel) (by decide +kernel)) (by decide) (by decide +kernel) rfl (by decide) (by decide) (fun w ew => ?_)
  replace hv := ini_new (E' := [(0, 17)]) hv ew (by decide) (by decide)
  clear ew
  refine V_putF (sh' := zs71) (rs' := [0, 0, 32, 33, 0, 0, 0]) dX0_init_35 fX0_25 rfl rfl rfl rfl (by decide +kernel) rfl (by decide +kernel) ?_
  refine T_aload_n dX0_init_38 rfl ?_
  refine T_bipush dX0_init_39 (by decide) ?_
  refine V_newa0 (n := 60) (L := 34) (rc' := 1) (rs' := 24) (sh' := zs72) dX0_init_41 (wsAll_place 173 (by decide +kernel) (by decide +kernel)) (by decide) (by decide +kernel) rfl (by decide) (by decide) (fun w ew => ?_)
  replace hv := ini_new (E' := [(0, 17)]) hv ew (by decide) (by decide)
  clear ew
  refine V_putF (sh' := zs73) (rs' := [0, 0, 32, 33, 34, 0, 0]) dX0_init_43 fX0_28 rfl rfl rfl rfl (by decide +kernel) rfl (by decide +kernel) ?_
  refine T_aload_n dX0_init_46 rfl ?_
  refine T_bipush dX0_init_47 (by decide) ?_
  refine V_newa0 (n := 24) (L := 35) (rc' := 0) (rs' := 0) (sh' := zs74) dX0_init_49 (wsAll_place 173 (by decide +kernel) (by decide +kernel)) (by decide) (by decide +kernel) rfl (by decide) (by decide) (fun w ew => ?_)
  replace hv := ini_new (E' := [(0, 17)]) hv ew (by decide) (by decide)
  clear ew
  refine V_putF (sh' := zs75) (rs' := [0, 0, 32, 33, 34, 35, 0]) dX0_init_51 fX0_31 rfl rfl rfl rfl (by decide +kernel) rfl (by decide +kernel) ?_
  have ez : zs75 = zq75 := by decide +kernel
  rw [ez]
  exact T_vret dX0_init_54 rfl (hQ _ hv)
def zs77 : List Sh := zq75.set 17 (.inr (4, 20, [19, 25, 31, 0, 0, 0, 0, 0, 0, 0, 0, 0, 0, 0, 0, 0, 0, 0, 0, 0]))
def zs78 : List Sh := zs77 ++ [.inl (0, [0, 0, 0, 0, 0, 0, 0])]
def zs79 : List Sh := zs78 ++ [.inr (0, 24, [])]
def zs80 : List Sh := zs79.set 36 (.inl (0, [0, 0, 38, 0, 0, 0, 0]))
def zs81 : List Sh := zs80 ++ [.inr (0, 60, [])]
def zs82 : List Sh := zs81.set 36 (.inl (0, [0, 0, 38, 39, 0, 0, 0]))
def zs83 : List Sh := zs82 ++ [.inr (0, 60, [])]
def zs84 : List Sh := zs83.set 36 (.inl (0, [0, 0, 38, 39, 40, 0, 0]))
def zs85 : List Sh := zs84 ++ [.inr (0, 60, [])]
def zs86 : List Sh := zs85.set 36 (.inl (0, [0, 0, 38, 39, 40, 41, 0]))
def zs87 : List Sh := zs86 ++ [.inr (0, 24, [])]
def zs88 : List Sh := zs87.set 36 (.inl (0, [0, 0, 38, 39, 40, 41, 42]))
def zq88 : List Sh := [.inl (10, [2, 4, 11, 0, 0, 0, 0, 0, 0, 0, 0, 0, 0, 0, 0, 0, 0, 0]), .inl (9, [3, 0]), .inr (0, 800, []), .inl (5, [5, 0, 0, 0, 0, 0, 0, 0]), .inl (0, [0, 0, 6, 7, 8, 9, 10]), .inr (0, 24, []), .inr (0, 60, []), .inr (0, 60, []), .inr (0, 60, []), .inr (0, 24, []), .inl (0, [0, 0, 12, 13, 14, 15, 16]), .inr (0, 24, []), .inr (0, 60, []), .inr (0, 60, []), .inr (0, 60, []), .inr (0, 24, []), .inl (3, [0, 0, 18]), .inr (4, 20, [19, 25, 31, 0, 0, 0, 0, 0, 0, 0, 0, 0, 0, 0, 0, 0, 0, 0, 0, 0]), .inl (0, [0, 0, 20, 21, 22, 23, 24]), .inr (0, 24, []), .inr (0, 60, []), .inr (0, 60, []), .inr (0, 60, []), .inr (0, 24, []), .inl (0, [0, 0, 26, 27, 28, 29, 30]), .inr (0, 24, []), .inr (0, 60, []), .inr (0, 60, []), .inr (0, 60, []), .inr (0, 24, []), .inl (0, [0, 0, 32, 33, 34, 35, 36]), .inr (0, 24, []), .inr (0, 60, []), .inr (0, 60, []), .inr (0, 60, []), .inr (0, 24, []), .inl (0, [0, 0, 38, 39, 40, 41, 42]), .inr (0, 24, []), .inr (0, 60, []), .inr (0, 60, []), .inr (0, 60, []), .inr (0, 24, [])]
theorem zX0_init_36 {G : GT} {d : Nat} (hd : 1 ≤ d) {w : VT} {Q : Option Vl → List Sh → VT → Prop} (hv : ini w 37 [(0, 17)]) (hQ : ∀ w, ini w 42 [(0, 17)] → Q none zq88 w) : n_T G d 5 228 mX0_init 0 [vR 36] [] zs78 w Q := by
  refine T_aload_n dX0_init_0 rfl ?_
  refine T_objI dX0_init_1 lX0_3 w_oi w_oc (by omega) (Nat.le_of_ble_eq_true rfl) ?_
  refine T_aload_n dX0_init_4 rfl ?_
  refine T_iconst dX0_init_5 (by decide) ?_
  refine U_putI (rs' := [0, 0, 0, 0, 0, 0, 0]) dX0_init_6 fX0_9 rfl rfl (by decide +kernel) (fun w ew => ?_)
  replace hv := ini_put (E' := [(0, 17)]) hv ew (by decide) (by decide)
  clear ew
  refine T_aload_n dX0_init_9 rfl ?_
  refine T_iconst dX0_init_10 (by decide) ?_
  refine U_putI (rs' := [0, 0, 0, 0, 0, 0, 0]) dX0_init_11 fX0_15 rfl rfl (by decide +kernel) (fun w ew => ?_)
  replace hv := ini_put (E' := [(0, 17)]) hv ew (by decide) (by decide)
  clear ew
  refine T_aload_n dX0_init_14 rfl ?_
  refine T_bipush dX0_init_15 (by decide) ?_
  refine V_newa0 (n := 24) (L := 37) (rc' := 4) (rs' := 204) (sh' := zs79) dX0_init_17 (wsAll_place 173 (by decide +kernel) (by decide +kernel)) (by decide) (by decide +kernel) rfl (by decide) (by decide) (fun w ew => ?_)
  replace hv := ini_new (E' := [(0, 17)]) hv ew (by decide) (by decide)
  clear ew
  refine V_putF (sh' := zs80) (rs' := [0, 0, 0, 0, 0, 0, 0]) dX0_init_19 fX0_18 rfl rfl rfl rfl (by decide +kernel) rfl (by decide +kernel) ?_
  refine T_aload_n dX0_init_22 rfl ?_
  refine T_bipush dX0_init_23 (by decide) ?_
  refine V_newa0 (n := 60) (L := 38) (rc' := 3) (rs' := 144) (sh' := zs81) dX0_init_25 (wsAll_place 173 (by decide +kernel) (by decide +kernel)) (by decide) (by decide +kernel) rfl (by decide) (by decide) (fun w ew => ?_)
  replace hv := ini_new (E' := [(0, 17)]) hv ew (by decide) (by decide)
  clear ew
  refine V_putF (sh' := zs82) (rs' := [0, 0, 38, 0, 0, 0, 0]) dX0_init_27 fX0_22 rfl rfl rfl rfl (by decide +kernel) rfl (by decide +kernel) ?_
  refine T_aload_n dX0_init_30 rfl ?_
  refine T_bipush dX0_init_31 (by decide) ?_
  refine V_newa0 (n := 60) (L := 39) (rc' := 2) (rs' := 84) (sh' := zs83) dX0_init_33 (wsAll_place 173 (by decide +kernel) (by decide +kernel)) (by decide) (by decide +kernel) rfl (by decide) (by decide) (fun w ew => ?_)
  replace hv := ini_new (E' := [(0, 17)]) hv ew (by decide) (by decide)
  clear ew
  refine V_putF (sh' := zs84) (rs' := [0, 0, 38, 39, 0, 0, 0]) dX0_init_35 fX0_25 rfl rfl rfl rfl (by decide +kernel) rfl (by decide +kernel) ?_
  refine T_aload_n dX0_init_38 rfl ?_
  refine T_bipush dX0_init_39 (by decide) ?_
  refine V_newa0 (n := 60) (L := 40) (rc' := 1) (rs' := 24) (sh' := zs85) dX0_init_41 (wsAll_place 173 (by decide +kernel) (by decide +kernel)) (by decide) (by decide +kernel) rfl (by decide) (by decide) (fun w ew => ?_)
  replace hv := ini_new (E' := [(0, 17)]) hv ew (by decide) (by decide)
  clear ew
  refine V_putF (sh' := zs86) (rs' := [0, 0, 38, 39, 40, 0, 0]) dX0_init_43 fX0_28 rfl rfl rfl rfl (by decide +kernel) rfl (by decide +kernel) ?_
  refine T_aload_n dX0_init_46 rfl ?_
  refine T_bipush dX0_init_47 (by decide) ?_
  refine V_newa0 (n := 24) (L := 41) (rc' := 0) (rs' := 0) (sh' := zs87) dX0_init_49 (wsAll_place 173 (by decide +kernel) (by decide +kernel)) (by decide) (by decide +kernel) rfl (by decide) (by decide) (fun w ew => ?_)
  replace hv := ini_new (E' := [(0, 17)]) hv ew (by decide) (by decide)
  clear ew
  refine V_putF (sh' := zs88) (rs' := [0, 0, 38, 39, 40, 41, 0]) dX0_init_51 fX0_31 rfl rfl rfl rfl (by decide +kernel) rfl (by decide +kernel) ?_
  have ez : zs88 = zq88 := by decide +kernel
  rw [ez]
  exact T_vret dX0_init_54 rfl (hQ _ hv)
def zs90 : List Sh := zq88.set 17 (.inr (4, 20, [19, 25, 31, 37, 0, 0, 0, 0, 0, 0, 0, 0, 0, 0, 0, 0, 0, 0, 0, 0]))
def zs91 : List Sh := zs90 ++ [.inl (0, [0, 0, 0, 0, 0, 0, 0])]
def zs92 : List Sh := zs91 ++ [.inr (0, 24, [])]
def zs93 : List Sh := zs92.set 42 (.inl (0, [0, 0, 44, 0, 0, 0, 0]))
def zs94 : List Sh := zs93 ++ [.inr (0, 60, [])]
def zs95 : List Sh := zs94.set 42 (.inl (0, [0, 0, 44, 45, 0, 0, 0]))
def zs96 : List Sh := zs95 ++ [.inr (0, 60, [])]
def zs97 : List Sh := zs96.set 42 (.inl (0, [0, 0, 44, 45, 46, 0, 0]))
def zs98 : List Sh := zs97 ++ [.inr (0, 60, [])]
def zs99 : List Sh := zs98.set 42 (.inl (0, [0, 0, 44, 45, 46, 47, 0]))
def zs100 : List Sh := zs99 ++ [.inr (0, 24, [])]
def zs101 : List Sh := zs100.set 42 (.inl (0, [0, 0, 44, 45, 46, 47, 48]))
def zq101 : List Sh := [.inl (10, [2, 4, 11, 0, 0, 0, 0, 0, 0, 0, 0, 0, 0, 0, 0, 0, 0, 0]), .inl (9, [3, 0]), .inr (0, 800, []), .inl (5, [5, 0, 0, 0, 0, 0, 0, 0]), .inl (0, [0, 0, 6, 7, 8, 9, 10]), .inr (0, 24, []), .inr (0, 60, []), .inr (0, 60, []), .inr (0, 60, []), .inr (0, 24, []), .inl (0, [0, 0, 12, 13, 14, 15, 16]), .inr (0, 24, []), .inr (0, 60, []), .inr (0, 60, []), .inr (0, 60, []), .inr (0, 24, []), .inl (3, [0, 0, 18]), .inr (4, 20, [19, 25, 31, 37, 0, 0, 0, 0, 0, 0, 0, 0, 0, 0, 0, 0, 0, 0, 0, 0]), .inl (0, [0, 0, 20, 21, 22, 23, 24]), .inr (0, 24, []), .inr (0, 60, []), .inr (0, 60, []), .inr (0, 60, []), .inr (0, 24, []), .inl (0, [0, 0, 26, 27, 28, 29, 30]), .inr (0, 24, []), .inr (0, 60, []), .inr (0, 60, []), .inr (0, 60, []), .inr (0, 24, []), .inl (0, [0, 0, 32, 33, 34, 35, 36]), .inr (0, 24, []), .inr (0, 60, []), .inr (0, 60, []), .inr (0, 60, []), .inr (0, 24, []), .inl (0, [0, 0, 38, 39, 40, 41, 42]), .inr (0, 24, []), .inr (0, 60, []), .inr (0, 60, []), .inr (0, 60, []), .inr (0, 24, []), .inl (0, [0, 0, 44, 45, 46, 47, 48]), .inr (0, 24, []), .inr (0, 60, []), .inr (0, 60, []), .inr (0, 60, []), .inr (0, 24, [])]
theorem zX0_init_42 {G : GT} {d : Nat} (hd : 1 ≤ d) {w : VT} {Q : Option Vl → List Sh → VT → Prop} (hv : ini w 43 [(0, 17)]) (hQ : ∀ w, ini w 48 [(0, 17)] → Q none zq101 w) : n_T G d 5 228 mX0_init 0 [vR 42] [] zs91 w Q := by
  refine T_aload_n dX0_init_0 rfl ?_
  refine T_objI dX0_init_1 lX0_3 w_oi w_oc (by omega) (Nat.le_of_ble_eq_true rfl) ?_
  refine T_aload_n dX0_init_4 rfl ?_
  refine T_iconst dX0_init_5 (by decide) ?_
  refine U_putI (rs' := [0, 0, 0, 0, 0, 0, 0]) dX0_init_6 fX0_9 rfl rfl (by decide +kernel) (fun w ew => ?_)
  replace hv := ini_put (E' := [(0, 17)]) hv ew (by decide) (by decide)
  clear ew
  refine T_aload_n dX0_init_9 rfl ?_
  refine T_iconst dX0_init_10 (by decide) ?_
  refine U_putI (rs' := [0, 0, 0, 0, 0, 0, 0]) dX0_init_11 fX0_15 rfl rfl (by decide +kernel) (fun w ew => ?_)
  replace hv := ini_put (E' := [(0, 17)]) hv ew (by decide) (by decide)
  clear ew
  refine T_aload_n dX0_init_14 rfl ?_
  refine T_bipush dX0_init_15 (by decide) ?_
  refine V_newa0 (n := 24) (L := 43) (rc' := 4) (rs' := 204) (sh' := zs92) dX0_init_17 (wsAll_place 173 (by decide +kernel) (by decide +kernel)) (by decide) (by decide +kernel) rfl (by decide) (by decide) (fun w ew => ?_)
  replace hv := ini_new (E' := [(0, 17)]) hv ew (by decide) (by decide)
  clear ew
  refine V_putF (sh' := zs93) (rs' := [0, 0, 0, 0, 0, 0, 0]) dX0_init_19 fX0_18 rfl rfl rfl rfl (by decide +kernel) rfl (by decide +kernel) ?_
  refine T_aload_n dX0_init_22 rfl ?_
  refine T_bipush dX0_init_23 (by decide) ?_
  refine V_newa0 (n := 60) (L := 44) (rc' := 3) (rs' := 144) (sh' := zs94) dX0_init_25 (wsAll_place 173 (by decide +kernel) (by decide +kernel)) (by decide) (by decide +kernel) rfl (by decide) (by decide) (fun w ew => ?_)
  replace hv := ini_new (E' := [(0, 17)]) hv ew (by decide) (by decide)
  clear ew
  refine V_putF (sh' := zs95) (rs' := [0, 0, 44, 0, 0, 0, 0]) dX0_init_27 fX0_22 rfl rfl rfl rfl (by decide +kernel) rfl (by decide +kernel) ?_
  refine T_aload_n dX0_init_30 rfl ?_
  refine T_bipush dX0_init_31 (by decide) ?_
  refine V_newa0 (n := 60) (L := 45) (rc' := 2) (rs' := 84) (sh' := zs96) dX0_init_33 (wsAll_place 173 (by decide +kernel) (by decide +kernel)) (by decide) (by decide +kernel) rfl (by decide) (by decide) (fun w ew => ?_)
  replace hv := ini_new (E' := [(0, 17)]) hv ew (by decide) (by decide)
  clear ew
  refine V_putF (sh' := zs97) (rs' := [0, 0, 44, 45, 0, 0, 0]) dX0_init_35 fX0_25 rfl rfl rfl rfl (by decide +kernel) rfl (by decide +kernel) ?_
  refine T_aload_n dX0_init_38 rfl ?_
  refine T_bipush dX0_init_39 (by decide) ?_
  refine V_newa0 (n := 60) (L := 46) (rc' := 1) (rs' := 24) (sh' := zs98) dX0_init_41 (wsAll_place 173 (by decide +kernel) (by decide +kernel)) (by decide) (by decide +kernel) rfl (by decide) (by decide) (fun w ew => ?_)
  replace hv := ini_new (E' := [(0, 17)]) hv ew (by decide) (by decide)
  clear ew
  refine V_putF (sh' := zs99) (rs' := [0, 0, 44, 45, 46, 0, 0]) dX0_init_43 fX0_28 rfl rfl rfl rfl (by decide +kernel) rfl (by decide +kernel) ?_
  refine T_aload_n dX0_init_46 rfl ?_
  refine T_bipush dX0_init_47 (by decide) ?_
  refine V_newa0 (n := 24) (L := 47) (rc' := 0) (rs' := 0) (sh' := zs100) dX0_init_49 (wsAll_place 173 (by decide +kernel) (by decide +kernel)) (by decide) (by decide +kernel) rfl (by decide) (by decide) (fun w ew => ?_)
  replace hv := ini_new (E' := [(0, 17)]) hv ew (by decide) (by decide)
  clear ew
  refine V_putF (sh' := zs101) (rs' := [0, 0, 44, 45, 46, 47, 0]) dX0_init_51 fX0_31 rfl rfl rfl rfl (by decide +kernel) rfl (by decide +kernel) ?_
  have ez : zs101 = zq101 := by decide +kernel
  rw [ez]
  exact T_vret dX0_init_54 rfl (hQ _ hv)
def zs103 : List Sh := zq101.set 17 (.inr (4, 20, [19, 25, 31, 37, 43, 0, 0, 0, 0, 0, 0, 0, 0, 0, 0, 0, 0, 0, 0, 0]))
def zs104 : List Sh := zs103 ++ [.inl (0, [0, 0, 0, 0, 0, 0, 0])]
def zs105 : List Sh := zs104 ++ [.inr (0, 24, [])]
def zs106 : List Sh := zs105.set 48 (.inl (0, [0, 0, 50, 0, 0, 0, 0]))
def zs107 : List Sh := zs106 ++ [.inr (0, 60, [])]
def zs108 : List Sh := zs107.set 48 (.inl (0, [0, 0, 50, 51, 0, 0, 0]))
def zs109 : List Sh := zs108 ++ [.inr (0, 60, [])]
def zs110 : List Sh := zs109.set 48 (.inl (0, [0, 0, 50, 51, 52, 0, 0]))
def zs111 : List Sh := zs110 ++ [.inr (0, 60, [])]
def zs112 : List Sh := zs111.set 48 (.inl (0, [0, 0, 50, 51, 52, 53, 0]))
def zs113 : List Sh := zs112 ++ [.inr (0, 24, [])]
def zs114 : List Sh := zs113.set 48 (.inl (0, [0, 0, 50, 51, 52, 53, 54]))
def zq114 : List Sh := [.inl (10, [2, 4, 11, 0, 0, 0, 0, 0, 0, 0, 0, 0, 0, 0, 0, 0, 0, 0]), .inl (9, [3, 0]), .inr (0, 800, []), .inl (5, [5, 0, 0, 0, 0, 0, 0, 0]), .inl (0, [0, 0, 6, 7, 8, 9, 10]), .inr (0, 24, []), .inr (0, 60, []), .inr (0, 60, []), .inr (0, 60, []), .inr (0, 24, []), .inl (0, [0, 0, 12, 13, 14, 15, 16]), .inr (0, 24, []), .inr (0, 60, []), .inr (0, 60, []), .inr (0, 60, []), .inr (0, 24, []), .inl (3, [0, 0, 18]), .inr (4, 20, [19, 25, 31, 37, 43, 0, 0, 0, 0, 0, 0, 0, 0, 0, 0, 0, 0, 0, 0, 0]), .inl (0, [0, 0, 20, 21, 22, 23, 24]), .inr (0, 24, []), .inr (0, 60, []), .inr (0, 60, []), .inr (0, 60, []), .inr (0, 24, []), .inl (0, [0, 0, 26, 27, 28, 29, 30]), .inr (0, 24, []), .inr (0, 60, []), .inr (0, 60, []), .inr (0, 60, []), .inr (0, 24, []), .inl (0, [0, 0, 32, 33, 34, 35, 36]), .inr (0, 24, []), .inr (0, 60, []), .inr (0, 60, []), .inr (0, 60, []), .inr (0, 24, []), .inl (0, [0, 0, 38, 39, 40, 41, 42]), .inr (0, 24, []), .inr (0, 60, []), .inr (0, 60, []), .inr (0, 60, []), .inr (0, 24, []), .inl (0, [0, 0, 44, 45, 46, 47, 48]), .inr (0, 24, []), .inr (0, 60, []), .inr (0, 60, []), .inr (0, 60, []), .inr (0, 24, []), .inl (0, [0, 0, 50, 51, 52, 53, 54]), .inr (0, 24, []), .inr (0, 60, []), .inr (0, 60, []), .inr (0, 60, []), .inr (0, 24, [])]
theorem zX0_init_48 {G : GT} {d : Nat} (hd : 1 ≤ d) {w : VT} {Q : Option Vl → List Sh → VT → Prop} (hv : ini w 49 [(0, 17)]) (hQ : ∀ w, ini w 54 [(0, 17)] → Q none zq114 w) : n_T G d 5 228 mX0_init 0 [vR 48] [] zs104 w Q := by
  refine T_aload_n dX0_init_0 rfl ?_
  refine T_objI dX0_init_1 lX0_3 w_oi w_oc (by omega) (Nat.le_of_ble_eq_true rfl) ?_
  refine T_aload_n dX0_init_4 rfl ?_
  refine T_iconst dX0_init_5 (by decide) ?_
  refine U_putI (rs' := [0, 0, 0, 0, 0, 0, 0]) dX0_init_6 fX0_9 rfl rfl (by decide +kernel) (fun w ew => ?_)
  replace hv := ini_put (E' := [(0, 17)]) hv ew (by decide) (by decide)
  clear ew
  refine T_aload_n dX0_init_9 rfl ?_
  refine T_iconst dX0_init_10 (by decide) ?_
  refine U_putI (rs' := [0, 0, 0, 0, 0, 0, 0]) dX0_init_11 fX0_15 rfl rfl (by decide +kernel) (fun w ew => ?_)
  replace hv := ini_put (E' := [(0, 17)]) hv ew (by decide) (by decide)
  clear ew
  refine T_aload_n dX0_init_14 rfl ?_
  refine T_bipush dX0_init_15 (by decide) ?_
  refine V_newa0 (n := 24) (L := 49) (rc' := 4) (rs' := 204) (sh' := zs105) dX0_init_17 (wsAll_place 173 (by decide +kernel) (by decide +kernel)) (by decide) (by decide +kernel) rfl (by decide) (by decide) (fun w ew => ?_)
  replace hv := ini_new (E' := [(0, 17)]) hv ew (by decide) (by decide)
  clear ew
  refine V_putF (sh' := zs106) (rs' := [0, 0, 0, 0, 0, 0, 0]) dX0_init_19 fX0_18 rfl rfl rfl rfl (by decide +kernel) rfl (by decide +kernel) ?_
  refine T_aload_n dX0_init_22 rfl ?_
  refine T_bipush dX0_init_23 (by decide) ?_
  refine V_newa0 (n := 60) (L := 50) (rc' := 3) (rs' := 144) (sh' := zs107) dX0_init_25 (wsAll_place 173 (by decide +kernel) (by decide +kernel)) (by decide) (by decide +kernel) rfl (by decide) (by decide) (fun w ew => ?_)
  replace hv := ini_new (E' := [(0, 17)]) hv ew (by decide) (by decide)
  clear ew
  refine V_putF (sh' := zs108) (rs' := [0, 0, 50, 0, 0, 0, 0]) dX0_init_27 fX0_22 rfl rfl rfl rfl (by decide +kernel) rfl (by decide +kernel) ?_
  refine T_aload_n dX0_init_30 rfl ?_
  refine T_bipush dX0_init_31 (by decide) ?_
  refine V_newa0 (n := 60) (L := 51) (rc' := 2) (rs' := 84) (sh' := zs109) dX0_init_33 (wsAll_place 173 (by decide +kernel) (by decide +kernel)) (by decide) (by decide +kernel) rfl (by decide) (by decide) (fun w ew => ?_)
  replace hv := ini_new (E' := [(0, 17)]) hv ew (by decide) (by decide)
  clear ew
  refine V_putF (sh' := zs110) (rs' := [0, 0, 50, 51, 0, 0, 0]) dX0_init_35 fX0_25 rfl rfl rfl rfl (by decide +kernel) rfl (by decide +kernel) ?_
  refine T_aload_n dX0_init_38 rfl ?_
  refine T_bipush dX0_init_39 (by decide) ?_
  refine V_newa0 (n := 60) (L := 52) (rc' := 1) (rs' := 24) (sh' := zs111) dX0_init_41 (wsAll_place 173 (by decide +kernel) (by decide +kernel)) (by decide) (by decide +kernel) rfl (by decide) (by decide) (fun w ew => ?_)
  replace hv := ini_new (E' := [(0, 17)]) hv ew (by decide) (by decide)
  clear ew
  refine V_putF (sh' := zs112) (rs' := [0, 0, 50, 51, 52, 0, 0]) dX0_init_43 fX0_28 rfl rfl rfl rfl (by decide +kernel) rfl (by decide +kernel) ?_
  refine T_aload_n dX0_init_46 rfl ?_
  refine T_bipush dX0_init_47 (by decide) ?_
  refine V_newa0 (n := 24) (L := 53) (rc' := 0) (rs' := 0) (sh' := zs113) dX0_init_49 (wsAll_place 173 (by decide +kernel) (by decide +kernel)) (by decide) (by decide +kernel) rfl (by decide) (by decide) (fun w ew => ?_)
  replace hv := ini_new (E' := [(0, 17)]) hv ew (by decide) (by decide)
  clear ew
  refine V_putF (sh' := zs114) (rs' := [0, 0, 50, 51, 52, 53, 0]) dX0_init_51 fX0_31 rfl rfl rfl rfl (by decide +kernel) rfl (by decide +kernel) ?_
  have ez : zs114 = zq114 := by decide +kernel
  rw [ez]
  exact T_vret dX0_init_54 rfl (hQ _ hv)
def zs116 : List Sh := zq114.set 17 (.inr (4, 20, [19, 25, 31, 37, 43, 49, 0, 0, 0, 0, 0, 0, 0, 0, 0, 0, 0, 0, 0, 0]))
def zs117 : List Sh := zs116 ++ [.inl (0, [0, 0, 0, 0, 0, 0, 0])]
def zs118 : List Sh := zs117 ++ [.inr (0, 24, [])]
def zs119 : List Sh := zs118.set 54 (.inl (0, [0, 0, 56, 0, 0, 0, 0]))
def zs120 : List Sh := zs119 ++ [.inr (0, 60, [])]
def zs121 : List Sh := zs120.set 54 (.inl (0, [0, 0, 56, 57, 0, 0, 0]))
def zs122 : List Sh := zs121 ++ [.inr (0, 60, [])]
def zs123 : List Sh := zs122.set 54 (.inl (0, [0, 0, 56, 57, 58, 0, 0]))
def zs124 : List Sh := zs123 ++ [.inr (0, 60, [])]
def zs125 : List Sh := zs124.set 54 (.inl (0, [0, 0, 56, 57, 58, 59, 0]))
def zs126 : List Sh := zs125 ++ [.inr (0, 24, [])]
def zs127 : List Sh := zs126.set 54 (.inl (0, [0, 0, 56, 57, 58, 59, 60]))
def zq127 : List Sh := [.inl (10, [2, 4, 11, 0, 0, 0, 0, 0, 0, 0, 0, 0, 0, 0, 0, 0, 0, 0]), .inl (9, [3, 0]), .inr (0, 800, []), .inl (5, [5, 0, 0, 0, 0, 0, 0, 0]), .inl (0, [0, 0, 6, 7, 8, 9, 10]), .inr (0, 24, []), .inr (0, 60, []), .inr (0, 60, []), .inr (0, 60, []), .inr (0, 24, []), .inl (0, [0, 0, 12, 13, 14, 15, 16]), .inr (0, 24, []), .inr (0, 60, []), .inr (0, 60, []), .inr (0, 60, []), .inr (0, 24, []), .inl (3, [0, 0, 18]), .inr (4, 20, [19, 25, 31, 37, 43, 49, 0, 0, 0, 0, 0, 0, 0, 0, 0, 0, 0, 0, 0, 0]), .inl (0, [0, 0, 20, 21, 22, 23, 24]), .inr (0, 24, []), .inr (0, 60, []), .inr (0, 60, []), .inr (0, 60, []), .inr (0, 24, []), .inl (0, [0, 0, 26, 27, 28, 29, 30]), .inr (0, 24, []), .inr (0, 60, []), .inr (0, 60, []), .inr (0, 60, []), .inr (0, 24, []), .inl (0, [0, 0, 32, 33, 34, 35, 36]), .inr (0, 24, []), .inr (0, 60, []), .inr (0, 60, []), .inr (0, 60, []), .inr (0, 24, []), .inl (0, [0, 0, 38, 39, 40, 41, 42]), .inr (0, 24, []), .inr (0, 60, []), .inr (0, 60, []), .inr (0, 60, []), .inr (0, 24, []), .inl (0, [0, 0, 44, 45, 46, 47, 48]), .inr (0, 24, []), .inr (0, 60, []), .inr (0, 60, []), .inr (0, 60, []), .inr (0, 24, []), .inl (0, [0, 0, 50, 51, 52, 53, 54]), .inr (0, 24, []), .inr (0, 60, []), .inr (0, 60, []), .inr (0, 60, []), .inr (0, 24, []), .inl (0, [0, 0, 56, 57, 58, 59, 60]), .inr (0, 24, []), .inr (0, 60, []), .inr (0, 60, []), .inr (0, 60, []), .inr (0, 24, [])]
theorem zX0_init_54 {G : GT} {d : Nat} (hd : 1 ≤ d) {w : VT} {Q : Option Vl → List Sh → VT → Prop} (hv : ini w 55 [(0, 17)]) (hQ : ∀ w, ini w 60 [(0, 17)] → Q none zq127 w) : n_T G d 5 228 mX0_init 0 [vR 54] [] zs117 w Q := by
  refine T_aload_n dX0_init_0 rfl ?_
  refine T_objI dX0_init_1 lX0_3 w_oi w_oc (by omega) (Nat.le_of_ble_eq_true rfl) ?_
  refine T_aload_n dX0_init_4 rfl ?_
  refine T_iconst dX0_init_5 (by decide) ?_
  refine U_putI (rs' := [0, 0, 0, 0, 0, 0, 0]) dX0_init_6 fX0_9 rfl rfl (by decide +kernel) (fun w ew => ?_)
  replace hv := ini_put (E' := [(0, 17)]) hv ew (by decide) (by decide)
  clear ew
  refine T_aload_n dX0_init_9 rfl ?_
  refine T_iconst dX0_init_10 (by decide) ?_
  refine U_putI (rs' := [0, 0, 0, 0, 0, 0, 0]) dX0_init_11 fX0_15 rfl rfl (by decide +kernel) (fun w ew => ?_)
  replace hv := ini_put (E' := [(0, 17)]) hv ew (by decide) (by decide)
  clear ew
  refine T_aload_n dX0_init_14 rfl ?_
  refine T_bipush dX0_init_15 (by decide) ?_
  refine V_newa0 (n := 24) (L := 55) (rc' := 4) (rs' := 204) (sh' := zs118) dX0_init_17 (wsAll_place 173 (by decide +kernel) (by decide +kernel)) (by decide) (by decide +kernel) rfl (by decide) (by decide) (fun w ew => ?_)
  replace hv := ini_new (E' := [(0, 17)]) hv ew (by decide) (by decide)
  clear ew
  refine V_putF (sh' := zs119) (rs' := [0, 0, 0, 0, 0, 0, 0]) dX0_init_19 fX0_18 rfl rfl rfl rfl (by decide +kernel) rfl (by decide +kernel) ?_
  refine T_aload_n dX0_init_22 rfl ?_
  refine T_bipush dX0_init_23 (by decide) ?_
  refine V_newa0 (n := 60) (L := 56) (rc' := 3) (rs' := 144) (sh' := zs120) dX0_init_25 (wsAll_place 173 (by decide +kernel) (by decide +kernel)) (by decide) (by decide +kernel) rfl (by decide) (by decide) (fun w ew => ?_)
  replace hv := ini_new (E' := [(0, 17)]) hv ew (by decide) (by decide)
  clear ew
  refine V_putF (sh' := zs121) (rs' := [0, 0, 56, 0, 0, 0, 0]) dX0_init_27 fX0_22 rfl rfl rfl rfl (by decide +kernel) rfl (by decide +kernel) ?_
  refine T_aload_n dX0_init_30 rfl ?_
  refine T_bipush dX0_init_31 (by decide) ?_
  refine V_newa0 (n := 60) (L := 57) (rc' := 2) (rs' := 84) (sh' := zs122) dX0_init_33 (wsAll_place 173 (by decide +kernel) (by decide +kernel)) (by decide) (by decide +kernel) rfl (by decide) (by decide) (fun w ew => ?_)
  replace hv := ini_new (E' := [(0, 17)]) hv ew (by decide) (by decide)
  clear ew
  refine V_putF (sh' := zs123) (rs' := [0, 0, 56, 57, 0, 0, 0]) dX0_init_35 fX0_25 rfl rfl rfl rfl (by decide +kernel) rfl (by decide +kernel) ?_
  refine T_aload_n dX0_init_38 rfl ?_
  refine T_bipush dX0_init_39 (by decide) ?_
  refine V_newa0 (n := 60) (L := 58) (rc' := 1) (rs' := 24) (sh' := zs124) dX0_init_41 (wsAll_place 173 (by decide +kernel) (by decide +kernel)) (by decide) (by decide +kernel) rfl (by decide) (by decide) (fun w ew => ?_)
  replace hv := ini_new (E' := [(0, 17)]) hv ew (by decide) (by decide)
  clear ew
  refine V_putF (sh' := zs125) (rs' := [0, 0, 56, 57, 58, 0, 0]) dX0_init_43 fX0_28 rfl rfl rfl rfl (by decide +kernel) rfl (by decide +kernel) ?_
  refine T_aload_n dX0_init_46 rfl ?_
  refine T_bipush dX0_init_47 (by decide) ?_
  refine V_newa0 (n := 24) (L := 59) (rc' := 0) (rs' := 0) (sh' := zs126) dX0_init_49 (wsAll_place 173 (by decide +kernel) (by decide +kernel)) (by decide) (by decide +kernel) rfl (by decide) (by decide) (fun w ew => ?_)
  replace hv := ini_new (E' := [(0, 17)]) hv ew (by decide) (by decide)
  clear ew
  refine V_putF (sh' := zs127) (rs' := [0, 0, 56, 57, 58, 59, 0]) dX0_init_51 fX0_31 rfl rfl rfl rfl (by decide +kernel) rfl (by decide +kernel) ?_
  have ez : zs127 = zq127 := by decide +kernel
  rw [ez]
  exact T_vret dX0_init_54 rfl (hQ _ hv)
def zs129 : List Sh := zq127.set 17 (.inr (4, 20, [19, 25, 31, 37, 43, 49, 55, 0, 0, 0, 0, 0, 0, 0, 0, 0, 0, 0, 0, 0]))
def zs130 : List Sh := zs129 ++ [.inl (0, [0, 0, 0, 0, 0, 0, 0])]
def zs131 : List Sh := zs130 ++ [.inr (0, 24, [])]
def zs132 : List Sh := zs131.set 60 (.inl (0, [0, 0, 62, 0, 0, 0, 0]))
def zs133 : List Sh := zs132 ++ [.inr (0, 60, [])]
def zs134 : List Sh := zs133.set 60 (.inl (0, [0, 0, 62, 63, 0, 0, 0]))
def zs135 : List Sh := zs134 ++ [.inr (0, 60, [])]
def zs136 : List Sh := zs135.set 60 (.inl (0, [0, 0, 62, 63, 64, 0, 0]))
def zs137 : List Sh := zs136 ++ [.inr (0, 60, [])]
def zs138 : List Sh := zs137.set 60 (.inl (0, [0, 0, 62, 63, 64, 65, 0]))
def zs139 : List Sh := zs138 ++ [.inr (0, 24, [])]
def zs140 : List Sh := zs139.set 60 (.inl (0, [0, 0, 62, 63, 64, 65, 66]))
def zq140 : List Sh := [.inl (10, [2, 4, 11, 0, 0, 0, 0, 0, 0, 0, 0, 0, 0, 0, 0, 0, 0, 0]), .inl (9, [3, 0]), .inr (0, 800, []), .inl (5, [5, 0, 0, 0, 0, 0, 0, 0]), .inl (0, [0, 0, 6, 7, 8, 9, 10]), .inr (0, 24, []), .inr (0, 60, []), .inr (0, 60, []), .inr (0, 60, []), .inr (0, 24, []), .inl (0, [0, 0, 12, 13, 14, 15, 16]), .inr (0, 24, []), .inr (0, 60, []), .inr (0, 60, []), .inr (0, 60, []), .inr (0, 24, []), .inl (3, [0, 0, 18]), .inr (4, 20, [19, 25, 31, 37, 43, 49, 55, 0, 0, 0, 0, 0, 0, 0, 0, 0, 0, 0, 0, 0]), .inl (0, [0, 0, 20, 21, 22, 23, 24]), .inr (0, 24, []), .inr (0, 60, []), .inr (0, 60, []), .inr (0, 60, []), .inr (0, 24, []), .inl (0, [0, 0, 26, 27, 28, 29, 30]), .inr (0, 24, []), .inr (0, 60, []), .inr (0, 60, []), .inr (0, 60, []), .inr (0, 24, []), .inl (0, [0, 0, 32, 33, 34, 35, 36]), .inr (0, 24, []), .inr (0, 60, []), .inr (0, 60, []), .inr (0, 60, []), .inr (0, 24, []), .inl (0, [0, 0, 38, 39, 40, 41, 42]), .inr (0, 24, []), .inr (0, 60, []), .inr (0, 60, []), .inr (0, 60, []), .inr (0, 24, []), .inl (0, [0, 0, 44, 45, 46, 47, 48]), .inr (0, 24, []), .inr (0, 60, []), .inr (0, 60, []), .inr (0, 60, []), .inr (0, 24, []), .inl (0, [0, 0, 50, 51, 52, 53, 54]), .inr (0, 24, []), .inr (0, 60, []), .inr (0, 60, []), .inr (0, 60, []), .inr (0, 24, []), .inl (0, [0, 0, 56, 57, 58, 59, 60]), .inr (0, 24, []), .inr (0, 60, []), .inr (0, 60, []), .inr (0, 60, []), .inr (0, 24, []), .inl (0, [0, 0, 62, 63, 64, 65, 66]), .inr (0, 24, []), .inr (0, 60, []), .inr (0, 60, []), .inr (0, 60, []), .inr (0, 24, [])]
theorem zX0_init_60 {G : GT} {d : Nat} (hd : 1 ≤ d) {w : VT} {Q : Option Vl → List Sh → VT → Prop} (hv : ini w 61 [(0, 17)]) (hQ : ∀ w, ini w 66 [(0, 17)] → Q none zq140 w) : n_T G d 5 228 mX0_init 0 [vR 60] [] zs130 w Q := by
  refine T_aload_n dX0_init_0 rfl ?_
  refine T_objI dX0_init_1 lX0_3 w_oi w_oc (by omega) (Nat.le_of_ble_eq_true rfl) ?_
  refine T_aload_n dX0_init_4 rfl ?_
  refine T_iconst dX0_init_5 (by decide) ?_
  refine U_putI (rs' := [0, 0, 0, 0, 0, 0, 0]) dX0_init_6 fX0_9 rfl rfl (by decide +kernel) (fun w ew => ?_)
  replace hv := ini_put (E' := [(0, 17)]) hv ew (by decide) (by decide)
  clear ew
  refine T_aload_n dX0_init_9 rfl ?_
  refine T_iconst dX0_init_10 (by decide) ?_
  refine U_putI (rs' := [0, 0, 0, 0, 0, 0, 0]) dX0_init_11 fX0_15 rfl rfl (by decide +kernel) (fun w ew => ?_)
  replace hv := ini_put (E' := [(0, 17)]) hv ew (by decide) (by decide)
  clear ew
  refine T_aload_n dX0_init_14 rfl ?_
  refine T_bipush dX0_init_15 (by decide) ?_
  refine V_newa0 (n := 24) (L := 61) (rc' := 4) (rs' := 204) (sh' := zs131) dX0_init_17 (wsAll_place 173 (by decide +kernel) (by decide +kernel)) (by decide) (by decide +kernel) rfl (by decide) (by decide) (fun w ew => ?_)
  replace hv := ini_new (E' := [(0, 17)]) hv ew (by decide) (by decide)
  clear ew
  refine V_putF (sh' := zs132) (rs' := [0, 0, 0, 0, 0, 0, 0]) dX0_init_19 fX0_18 rfl rfl rfl rfl (by decide +kernel) rfl (by decide +kernel) ?_
  refine T_aload_n dX0_init_22 rfl ?_
  refine T_bipush dX0_init_23 (by decide) ?_
  refine V_newa0 (n := 60) (L := 62) (rc' := 3) (rs' := 144) (sh' := zs133) dX0_init_25 (wsAll_place 173 (by decide +kernel) (by decide +kernel)) (by decide) (by decide +kernel) rfl (by decide) (by decide) (fun w ew => ?_)
  replace hv := ini_new (E' := [(0, 17)]) hv ew (by decide) (by decide)
  clear ew
  refine V_putF (sh' := zs134) (rs' := [0, 0, 62, 0, 0, 0, 0]) dX0_init_27 fX0_22 rfl rfl rfl rfl (by decide +kernel) rfl (by decide +kernel) ?_
  refine T_aload_n dX0_init_30 rfl ?_
  refine T_bipush dX0_init_31 (by decide) ?_
  refine V_newa0 (n := 60) (L := 63) (rc' := 2) (rs' := 84) (sh' := zs135) dX0_init_33 (wsAll_place 173 (by decide +kernel) (by decide +kernel)) (by decide) (by decide +kernel) rfl (by decide) (by decide) (fun w ew => ?_)
  replace hv := ini_new (E' := [(0, 17)]) hv ew (by decide) (by decide)
  clear ew
  refine V_putF (sh' := zs136) (rs' := [0, 0, 62, 63, 0, 0, 0]) dX0_init_35 fX0_25 rfl rfl rfl rfl (by decide +kernel) rfl (by decide +kernel) ?_
  refine T_aload_n dX0_init_38 rfl ?_
  refine T_bipush dX0_init_39 (by decide) ?_
  refine V_newa0 (n := 60) (L := 64) (rc' := 1) (rs' := 24) (sh' := zs137) dX0_init_41 (wsAll_place 173 (by decide +kernel) (by decide +kernel)) (by decide) (by decide +kernel) rfl (by decide) (by decide) (fun w ew => ?_)
  replace hv := ini_new (E' := [(0, 17)]) hv ew (by decide) (by decide)
  clear ew
  refine V_putF (sh' := zs138) (rs' := [0, 0, 62, 63, 64, 0, 0]) dX0_init_43 fX0_28 rfl rfl rfl rfl (by decide +kernel) rfl (by decide +kernel) ?_
  refine T_aload_n dX0_init_46 rfl ?_
  refine T_bipush dX0_init_47 (by decide) ?_
  refine V_newa0 (n := 24) (L := 65) (rc' := 0) (rs' := 0) (sh' := zs139) dX0_init_49 (wsAll_place 173 (by decide +kernel) (by decide +kernel)) (by decide) (by decide +kernel) rfl (by decide) (by decide) (fun w ew => ?_)
  replace hv := ini_new (E' := [(0, 17)]) hv ew (by decide) (by decide)
  clear ew
  refine V_putF (sh' := zs140) (rs' := [0, 0, 62, 63, 64, 65, 0]) dX0_init_51 fX0_31 rfl rfl rfl rfl (by decide +kernel) rfl (by decide +kernel) ?_
  have ez : zs140 = zq140 := by decide +kernel
  rw [ez]
  exact T_vret dX0_init_54 rfl (hQ _ hv)
def zs142 : List Sh := zq140.set 17 (.inr (4, 20, [19, 25, 31, 37, 43, 49, 55, 61, 0, 0, 0, 0, 0, 0, 0, 0, 0, 0, 0, 0]))
def zs143 : List Sh := zs142 ++ [.inl (0, [0, 0, 0, 0, 0, 0, 0])]
def zs144 : List Sh := zs143 ++ [.inr (0, 24, [])]
def zs145 : List Sh := zs144.set 66 (.inl (0, [0, 0, 68, 0, 0, 0, 0]))
def zs146 : List Sh := zs145 ++ [.inr (0, 60, [])]
def zs147 : List Sh := zs146.set 66 (.inl (0, [0, 0, 68, 69, 0, 0, 0]))
def zs148 : List Sh := zs147 ++ [.inr (0, 60, [])]
def zs149 : List Sh := zs148.set 66 (.inl (0, [0, 0, 68, 69, 70, 0, 0]))
def zs150 : List Sh := zs149 ++ [.inr (0, 60, [])]
def zs151 : List Sh := zs150.set 66 (.inl (0, [0, 0, 68, 69, 70, 71, 0]))
def zs152 : List Sh := zs151 ++ [.inr (0, 24, [])]
def zs153 : List Sh := zs152.set 66 (.inl (0, [0, 0, 68, 69, 70, 71, 72]))
def zq153 : List Sh := [.inl (10, [2, 4, 11, 0, 0, 0, 0, 0, 0, 0, 0, 0, 0, 0, 0, 0, 0, 0]), .inl (9, [3, 0]), .inr (0, 800, []), .inl (5, [5, 0, 0, 0, 0, 0, 0, 0]), .inl (0, [0, 0, 6, 7, 8, 9, 10]), .inr (0, 24, []), .inr (0, 60, []), .inr (0, 60, []), .inr (0, 60, []), .inr (0, 24, []), .inl (0, [0, 0, 12, 13, 14, 15, 16]), .inr (0, 24, []), .inr (0, 60, []), .inr (0, 60, []), .inr (0, 60, []), .inr (0, 24, []), .inl (3, [0, 0, 18]), .inr (4, 20, [19, 25, 31, 37, 43, 49, 55, 61, 0, 0, 0, 0, 0, 0, 0, 0, 0, 0, 0, 0]), .inl (0, [0, 0, 20, 21, 22, 23, 24]), .inr (0, 24, []), .inr (0, 60, []), .inr (0, 60, []), .inr (0, 60, []), .inr (0, 24, []), .inl (0, [0, 0, 26, 27, 28, 29, 30]), .inr (0, 24, []), .inr (0, 60, []), .inr (0, 60, []), .inr (0, 60, []), .inr (0, 24, []), .inl (0, [0, 0, 32, 33, 34, 35, 36]), .inr (0, 24, []), .inr (0, 60, []), .inr (0, 60, []), .inr (0, 60, []), .inr (0, 24, []), .inl (0, [0, 0, 38, 39, 40, 41, 42]), .inr (0, 24, []), .inr (0, 60, []), .inr (0, 60, []), .inr (0, 60, []), .inr (0, 24, []), .inl (0, [0, 0, 44, 45, 46, 47, 48]), .inr (0, 24, []), .inr (0, 60, []), .inr (0, 60, []), .inr (0, 60, []), .inr (0, 24, []), .inl (0, [0, 0, 50, 51, 52, 53, 54]), .inr (0, 24, []), .inr (0, 60, []), .inr (0, 60, []), .inr (0, 60, []), .inr (0, 24, []), .inl (0, [0, 0, 56, 57, 58, 59, 60]), .inr (0, 24, []), .inr (0, 60, []), .inr (0, 60, []), .inr (0, 60, []), .inr (0, 24, []), .inl (0, [0, 0, 62, 63, 64, 65, 66]), .inr (0, 24, []), .inr (0, 60, []), .inr (0, 60, []), .inr (0, 60, []), .inr (0, 24, []), .inl (0, [0, 0, 68, 69, 70, 71, 72]), .inr (0, 24, []), .inr (0, 60, []), .inr (0, 60, []), .inr (0, 60, []), .inr (0, 24, [])]
theorem zX0_init_66 {G : GT} {d : Nat} (hd : 1 ≤ d) {w : VT} {Q : Option Vl → List Sh → VT → Prop} (hv : ini w 67 [(0, 17)]) (hQ : ∀ w, ini w 72 [(0, 17)] → Q none zq153 w) : n_T G d 5 228 mX0_init 0 [vR 66] [] zs143 w Q := by
  refine T_aload_n dX0_init_0 rfl ?_
  refine T_objI dX0_init_1 lX0_3 w_oi w_oc (by omega) (Nat.le_of_ble_eq_true rfl) ?_
  refine T_aload_n dX0_init_4 rfl ?_
  refine T_iconst dX0_init_5 (by decide) ?_
  refine U_putI (rs' := [0, 0, 0, 0, 0, 0, 0]) dX0_init_6 fX0_9 rfl rfl (by decide +kernel) (fun w ew => ?_)
  replace hv := ini_put (E' := [(0, 17)]) hv ew (by decide) (by decide)
  clear ew
  refine T_aload_n dX0_init_9 rfl ?_
  refine T_iconst dX0_init_10 (by decide) ?_
  refine U_putI (rs' := [0, 0, 0, 0, 0, 0, 0]) dX0_init_11 fX0_15 rfl rfl (by decide +kernel) (fun w ew => ?_)
  replace hv := ini_put (E' := [(0, 17)]) hv ew (by decide) (by decide)
  clear ew
  refine T_aload_n dX0_init_14 rfl ?_
  refine T_bipush dX0_init_15 (by decide) ?_
  refine V_newa0 (n := 24) (L := 67) (rc' := 4) (rs' := 204) (sh' := zs144) dX0_init_17 (wsAll_place 173 (by decide +kernel) (by decide +kernel)) (by decide) (by decide +kernel) rfl (by decide) (by decide) (fun w ew => ?_)
  replace hv := ini_new (E' := [(0, 17)]) hv ew (by decide) (by decide)
  clear ew
  refine V_putF (sh' := zs145) (rs' := [0, 0, 0, 0, 0, 0, 0]) dX0_init_19 fX0_18 rfl rfl rfl rfl (by decide +kernel) rfl (by decide +kernel) ?_
  refine T_aload_n dX0_init_22 rfl ?_
  refine T_bipush dX0_init_23 (by decide) ?_
  refine V_newa0 (n := 60) (L := 68) (rc' := 3) (rs' := 144) (sh' := zs146) dX0_init_25 (wsAll_place 173 (by decide +kernel) (by decide +kernel)) (by decide) (by decide +kernel) rfl (by decide) (by decide) (fun w ew => ?_)
  replace hv := ini_new (E' := [(0, 17)]) hv ew (by decide) (by decide)
  clear ew
  refine V_putF (sh' := zs147) (rs' := [0, 0, 68, 0, 0, 0, 0]) dX0_init_27 fX0_22 rfl rfl rfl rfl (by decide +kernel) rfl (by decide +kernel) ?_
  refine T_aload_n dX0_init_30 rfl ?_
  refine T_bipush dX0_init_31 (by decide) ?_
  refine V_newa0 (n := 60) (L := 69) (rc' := 2) (rs' := 84) (sh' := zs148) dX0_init_33 (wsAll_place 173 (by decide +kernel) (by decide +kernel)) (by decide) (by decide +kernel) rfl (by decide) (by decide) (fun w ew => ?_)
  replace hv := ini_new (E' := [(0, 17)]) hv ew (by decide) (by decide)
  clear ew
  refine V_putF (sh' := zs149) (rs' := [0, 0, 68, 69, 0, 0, 0]) dX0_init_35 fX0_25 rfl rfl rfl rfl (by decide +kernel) rfl (by decide +kernel) ?_
  refine T_aload_n dX0_init_38 rfl ?_
  refine T_bipush dX0_init_39 (by decide) ?_
  refine V_newa0 (n := 60) (L := 70) (rc' := 1) (rs' := 24) (sh' := zs150) dX0_init_41 (wsAll_place 173 (by decide +kernel) (by decide +kernel)) (by decide) (by decide +kernel) rfl (by decide) (by decide) (fun w ew => ?_)
  replace hv := ini_new (E' := [(0, 17)]) hv ew (by decide) (by decide)
  clear ew
  refine V_putF (sh' := zs151) (rs' := [0, 0, 68, 69, 70, 0, 0]) dX0_init_43 fX0_28 rfl rfl rfl rfl (by decide +kernel) rfl (by decide +kernel) ?_
  refine T_aload_n dX0_init_46 rfl ?_
  refine T_bipush dX0_init_47 (by decide) ?_
  refine V_newa0 (n := 24) (L := 71) (rc' := 0) (rs' := 0) (sh' := zs152) dX0_init_49 (wsAll_place 173 (by decide +kernel) (by decide +kernel)) (by decide) (by decide +kernel) rfl (by decide) (by decide) (fun w ew => ?_)
  replace hv := ini_new (E' := [(0, 17)]) hv ew (by decide) (by decide)
  clear ew
  refine V_putF (sh' := zs153) (rs' := [0, 0, 68, 69, 70, 71, 0]) dX0_init_51 fX0_31 rfl rfl rfl rfl (by decide +kernel) rfl (by decide +kernel) ?_
  have ez : zs153 = zq153 := by decide +kernel
  rw [ez]
  exact T_vret dX0_init_54 rfl (hQ _ hv)
def zs155 : List Sh := zq153.set 17 (.inr (4, 20, [19, 25, 31, 37, 43, 49, 55, 61, 67, 0, 0, 0, 0, 0, 0, 0, 0, 0, 0, 0]))
def zs156 : List Sh := zs155 ++ [.inl (0, [0, 0, 0, 0, 0, 0, 0])]
def zs157 : List Sh := zs156 ++ [.inr (0, 24, [])]
def zs158 : List Sh := zs157.set 72 (.inl (0, [0, 0, 74, 0, 0, 0, 0]))
def zs159 : List Sh := zs158 ++ [.inr (0, 60, [])]
def zs160 : List Sh := zs159.set 72 (.inl (0, [0, 0, 74, 75, 0, 0, 0]))
def zs161 : List Sh := zs160 ++ [.inr (0, 60, [])]
def zs162 : List Sh := zs161.set 72 (.inl (0, [0, 0, 74, 75, 76, 0, 0]))
def zs163 : List Sh := zs162 ++ [.inr (0, 60, [])]
def zs164 : List Sh := zs163.set 72 (.inl (0, [0, 0, 74, 75, 76, 77, 0]))
def zs165 : List Sh := zs164 ++ [.inr (0, 24, [])]
def zs166 : List Sh := zs165.set 72 (.inl (0, [0, 0, 74, 75, 76, 77, 78]))
def zq166 : List Sh := [.inl (10, [2, 4, 11, 0, 0, 0, 0, 0, 0, 0, 0, 0, 0, 0, 0, 0, 0, 0]), .inl (9, [3, 0]), .inr (0, 800, []), .inl (5, [5, 0, 0, 0, 0, 0, 0, 0]), .inl (0, [0, 0, 6, 7, 8, 9, 10]), .inr (0, 24, []), .inr (0, 60, []), .inr (0, 60, []), .inr (0, 60, []), .inr (0, 24, []), .inl (0, [0, 0, 12, 13, 14, 15, 16]), .inr (0, 24, []), .inr (0, 60, []), .inr (0, 60, []), .inr (0, 60, []), .inr (0, 24, []), .inl (3, [0, 0, 18]), .inr (4, 20, [19, 25, 31, 37, 43, 49, 55, 61, 67, 0, 0, 0, 0, 0, 0, 0, 0, 0, 0, 0]), .inl (0, [0, 0, 20, 21, 22, 23, 24]), .inr (0, 24, []), .inr (0, 60, []), .inr (0, 60, []), .inr (0, 60, []), .inr (0, 24, []), .inl (0, [0, 0, 26, 27, 28, 29, 30]), .inr (0, 24, []), .inr (0, 60, []), .inr (0, 60, []), .inr (0, 60, []), .inr (0, 24, []), .inl (0, [0, 0, 32, 33, 34, 35, 36]), .inr (0, 24, []), .inr (0, 60, []), .inr (0, 60, []), .inr (0, 60, []), .inr (0, 24, []), .inl (0, [0, 0, 38, 39, 40, 41, 42]), .inr (0, 24, []), .inr (0, 60, []), .inr (0, 60, []), .inr (0, 60, []), .inr (0, 24, []), .inl (0, [0, 0, 44, 45, 46, 47, 48]), .inr (0, 24, []), .inr (0, 60, []), .inr (0, 60, []), .inr (0, 60, []), .inr (0, 24, []), .inl (0, [0, 0, 50, 51, 52, 53, 54]), .inr (0, 24, []), .inr (0, 60, []), .inr (0, 60, []), .inr (0, 60, []), .inr (0, 24, []), .inl (0, [0, 0, 56, 57, 58, 59, 60]), .inr (0, 24, []), .inr (0, 60, []), .inr (0, 60, []), .inr (0, 60, []), .inr (0, 24, []), .inl (0, [0, 0, 62, 63, 64, 65, 66]), .inr (0, 24, []), .inr (0, 60, []), .inr (0, 60, []), .inr (0, 60, []), .inr (0, 24, []), .inl (0, [0, 0, 68, 69, 70, 71, 72]), .inr (0, 24, []), .inr (0, 60, []), .inr (0, 60, []), .inr (0, 60, []), .inr (0, 24, []), .inl (0, [0, 0, 74, 75, 76, 77, 78]), .inr (0, 24, []), .inr (0, 60, []), .inr (0, 60, []), .inr (0, 60, []), .inr (0, 24, [])]
theorem zX0_init_72 {G : GT} {d : Nat} (hd : 1 ≤ d) {w : VT} {Q : Option Vl → List Sh → VT → Prop} (hv : ini w 73 [(0, 17)]) (hQ : ∀ w, ini w 78 [(0, 17)] → Q none zq166 w) : n_T G d 5 228 mX0_init 0 [vR 72] [] zs156 w Q := by
  refine T_aload_n dX0_init_0 rfl ?_
  refine T_objI dX0_init_1 lX0_3 w_oi w_oc (by omega) (Nat.le_of_ble_eq_true rfl) ?_
  refine T_aload_n dX0_init_4 rfl ?_
  refine T_iconst dX0_init_5 (by decide) ?_
  refine U_putI (rs' := [0, 0, 0, 0, 0, 0, 0]) dX0_init_6 fX0_9 rfl rfl (by decide +kernel) (fun w ew => ?_)
  replace hv := ini_put (E' := [(0, 17)]) hv ew (by decide) (by decide)
  clear ew
  refine T_aload_n dX0_init_9 rfl ?_
  refine T_iconst dX0_init_10 (by decide) ?_
  refine U_putI (rs' := [0, 0, 0, 0, 0, 0, 0]) dX0_init_11 fX0_15 rfl rfl (by decide +kernel) (fun w ew => ?_)
  replace hv := ini_put (E' := [(0, 17)]) hv ew (by decide) (by decide)
  clear ew
  refine T_aload_n dX0_init_14 rfl ?_
  refine T_bipush dX0_init_15 (by decide) ?_
  refine V_newa0 (n := 24) (L := 73) (rc' := 4) (rs' := 204) (sh' := zs157) dX0_init_17 (wsAll_place 173 (by decide +kernel) (by decide +kernel)) (by decide) (by decide +kernel) rfl (by decide) (by decide) (fun w ew => ?_)
  replace hv := ini_new (E' := [(0, 17)]) hv ew (by decide) (by decide)
  clear ew
  refine V_putF (sh' := zs158) (rs' := [0, 0, 0, 0, 0, 0, 0]) dX0_init_19 fX0_18 rfl rfl rfl rfl (by decide +kernel) rfl (by decide +kernel) ?_
  refine T_aload_n dX0_init_22 rfl ?_
  refine T_bipush dX0_init_23 (by decide) ?_
  refine V_newa0 (n := 60) (L := 74) (rc' := 3) (rs' := 144) (sh' := zs159) dX0_init_25 (wsAll_place 173 (by decide +kernel) (by decide +kernel)) (by decide) (by decide +kernel) rfl (by decide) (by decide) (fun w ew => ?_)
  replace hv := ini_new (E' := [(0, 17)]) hv ew (by decide) (by decide)
  clear ew
  refine V_putF (sh' := zs160) (rs' := [0, 0, 74, 0, 0, 0, 0]) dX0_init_27 fX0_22 rfl rfl rfl rfl (by decide +kernel) rfl (by decide +kernel) ?_
  refine T_aload_n dX0_init_30 rfl ?_
  refine T_bipush dX0_init_31 (by decide) ?_
  refine V_newa0 (n := 60) (L := 75) (rc' := 2) (rs' := 84) (sh' := zs161) dX0_init_33 (wsAll_place 173 (by decide +kernel) (by decide +kernel)) (by decide) (by decide +kernel) rfl (by decide) (by decide) (fun w ew => ?_)
  replace hv := ini_new (E' := [(0, 17)]) hv ew (by decide) (by decide)
  clear ew
  refine V_putF (sh' := zs162) (rs' := [0, 0, 74, 75, 0, 0, 0]) dX0_init_35 fX0_25 rfl rfl rfl rfl (by decide +kernel) rfl (by decide +kernel) ?_
  refine T_aload_n dX0_init_38 rfl ?_
  refine T_bipush dX0_init_39 (by decide) ?_
  refine V_newa0 (n := 60) (L := 76) (rc' := 1) (rs' := 24) (sh' := zs163) dX0_init_41 (wsAll_place 173 (by decide +kernel) (by decide +kernel)) (by decide) (by decide +kernel) rfl (by decide) (by decide) (fun w ew => ?_)
  replace hv := ini_new (E' := [(0, 17)]) hv ew (by decide) (by decide)
  clear ew
  refine V_putF (sh' := zs164) (rs' := [0, 0, 74, 75, 76, 0, 0]) dX0_init_43 fX0_28 rfl rfl rfl rfl (by decide +kernel) rfl (by decide +kernel) ?_
  refine T_aload_n dX0_init_46 rfl ?_
  refine T_bipush dX0_init_47 (by decide) ?_
  refine V_newa0 (n := 24) (L := 77) (rc' := 0) (rs' := 0) (sh' := zs165) dX0_init_49 (wsAll_place 173 (by decide +kernel) (by decide +kernel)) (by decide) (by decide +kernel) rfl (by decide) (by decide) (fun w ew => ?_)
  replace hv := ini_new (E' := [(0, 17)]) hv ew (by decide) (by decide)
  clear ew
  refine V_putF (sh' := zs166) (rs' := [0, 0, 74, 75, 76, 77, 0]) dX0_init_51 fX0_31 rfl rfl rfl rfl (by decide +kernel) rfl (by decide +kernel) ?_
  have ez : zs166 = zq166 := by decide +kernel
  rw [ez]
  exact T_vret dX0_init_54 rfl (hQ _ hv)
def zs168 : List Sh := zq166.set 17 (.inr (4, 20, [19, 25, 31, 37, 43, 49, 55, 61, 67, 73, 0, 0, 0, 0, 0, 0, 0, 0, 0, 0]))
def zs169 : List Sh := zs168 ++ [.inl (0, [0, 0, 0, 0, 0, 0, 0])]
def zs170 : List Sh := zs169 ++ [.inr (0, 24, [])]
def zs171 : List Sh := zs170.set 78 (.inl (0, [0, 0, 80, 0, 0, 0, 0]))
def zs172 : List Sh := zs171 ++ [.inr (0, 60, [])]
def zs173 : List Sh := zs172.set 78 (.inl (0, [0, 0, 80, 81, 0, 0, 0]))
def zs174 : List Sh := zs173 ++ [.inr (0, 60, [])]
def zs175 : List Sh := zs174.set 78 (.inl (0, [0, 0, 80, 81, 82, 0, 0]))
def zs176 : List Sh := zs175 ++ [.inr (0, 60, [])]
def zs177 : List Sh := zs176.set 78 (.inl (0, [0, 0, 80, 81, 82, 83, 0]))
def zs178 : List Sh := zs177 ++ [.inr (0, 24, [])]
def zs179 : List Sh := zs178.set 78 (.inl (0, [0, 0, 80, 81, 82, 83, 84]))
def zq179 : List Sh := [.inl (10, [2, 4, 11, 0, 0, 0, 0, 0, 0, 0, 0, 0, 0, 0, 0, 0, 0, 0]), .inl (9, [3, 0]), .inr (0, 800, []), .inl (5, [5, 0, 0, 0, 0, 0, 0, 0]), .inl (0, [0, 0, 6, 7, 8, 9, 10]), .inr (0, 24, []), .inr (0, 60, []), .inr (0, 60, []), .inr (0, 60, []), .inr (0, 24, []), .inl (0, [0, 0, 12, 13, 14, 15, 16]), .inr (0, 24, []), .inr (0, 60, []), .inr (0, 60, []), .inr (0, 60, []), .inr (0, 24, []), .inl (3, [0, 0, 18]), .inr (4, 20, [19, 25, 31, 37, 43, 49, 55, 61, 67, 73, 0, 0, 0, 0, 0, 0, 0, 0, 0, 0]), .inl (0, [0, 0, 20, 21, 22, 23, 24]), .inr (0, 24, []), .inr (0, 60, []), .inr (0, 60, []), .inr (0, 60, []), .inr (0, 24, []), .inl (0, [0, 0, 26, 27, 28, 29, 30]), .inr (0, 24, []), .inr (0, 60, []), .inr (0, 60, []), .inr (0, 60, []), .inr (0, 24, []), .inl (0, [0, 0, 32, 33, 34, 35, 36]), .inr (0, 24, []), .inr (0, 60, []), .inr (0, 60, []), .inr (0, 60, []), .inr (0, 24, []), .inl (0, [0, 0, 38, 39, 40, 41, 42]), .inr (0, 24, []), .inr (0, 60, []), .inr (0, 60, []), .inr (0, 60, []), .inr (0, 24, []), .inl (0, [0, 0, 44, 45, 46, 47, 48]), .inr (0, 24, []), .inr (0, 60, []), .inr (0, 60, []), .inr (0, 60, []), .inr (0, 24, []), .inl (0, [0, 0, 50, 51, 52, 53, 54]), .inr (0, 24, []), .inr (0, 60, []), .inr (0, 60, []), .inr (0, 60, []), .inr (0, 24, []), .inl (0, [0, 0, 56, 57, 58, 59, 60]), .inr (0, 24, []), .inr (0, 60, []), .inr (0, 60, []), .inr (0, 60, []), .inr (0, 24, []), .inl (0, [0, 0, 62, 63, 64, 65, 66]), .inr (0, 24, []), .inr (0, 60, []), .inr (0, 60, []), .inr (0, 60, []), .inr (0, 24, []), .inl (0, [0, 0, 68, 69, 70, 71, 72]), .inr (0, 24, []), .inr (0, 60, []), .inr (0, 60, []), .inr (0, 60, []), .inr (0, 24, []), .inl (0, [0, 0, 74, 75, 76, 77, 78]), .inr (0, 24, []), .inr (0, 60, []), .inr (0, 60, []), .inr (0, 60, []), .inr (0, 24, []), .inl (0, [0, 0, 80, 81, 82, 83, 84]), .inr (0, 24, []), .inr (0, 60, []), .inr (0, 60, []), .inr (0, 60, []), .inr (0, 24, [])]
theorem zX0_init_78 {G : GT} {d : Nat} (hd : 1 ≤ d) {w : VT} {Q : Option Vl → List Sh → VT → Prop} (hv : ini w 79 [(0, 17)]) (hQ : ∀ w, ini w 84 [(0, 17)] → Q none zq179 w) : n_T G d 5 228 mX0_init 0 [vR 78] [] zs169 w Q := by
  refine T_aload_n dX0_init_0 rfl ?_
  refine T_objI dX0_init_1 lX0_3 w_oi w_oc (by omega) (Nat.le_of_ble_eq_true rfl) ?_
  refine T_aload_n dX0_init_4 rfl ?_
  refine T_iconst dX0_init_5 (by decide) ?_
  refine U_putI (rs' := [0, 0, 0, 0, 0, 0, 0]) dX0_init_6 fX0_9 rfl rfl (by decide +kernel) (fun w ew => ?_)
  replace hv := ini_put (E' := [(0, 17)]) hv ew (by decide) (by decide)
  clear ew
  refine T_aload_n dX0_init_9 rfl ?_
  refine T_iconst dX0_init_10 (by decide) ?_
  refine U_putI (rs' := [0, 0, 0, 0, 0, 0, 0]) dX0_init_11 fX0_15 rfl rfl (by decide +kernel) (fun w ew => ?_)
  replace hv := ini_put (E' := [(0, 17)]) hv ew (by decide) (by decide)
  clear ew
  refine T_aload_n dX0_init_14 rfl ?_
  refine T_bipush dX0_init_15 (by decide) ?_
  refine V_newa0 (n := 24) (L := 79) (rc' := 4) (rs' := 204) (sh' := zs170) dX0_init_17 (wsAll_place 173 (by decide +kernel) (by decide +kernel)) (by decide) (by decide +kernel) rfl (by decide) (by decide) (fun w ew => ?_)
  replace hv := ini_new (E' := [(0, 17)]) hv ew (by decide) (by decide)
  clear ew
  refine V_putF (sh' := zs171) (rs' := [0, 0, 0, 0, 0, 0, 0]) dX0_init_19 fX0_18 rfl rfl rfl rfl (by decide +kernel) rfl (by decide +kernel) ?_
  refine T_aload_n dX0_init_22 rfl ?_
  refine T_bipush dX0_init_23 (by decide) ?_
  refine V_newa0 (n := 60) (L := 80) (rc' := 3) (rs' := 144) (sh' := zs172) dX0_init_25 (wsAll_place 173 (by decide +kernel) (by decide +kernel)) (by decide) (by decide +kernel) rfl (by decide) (by decide) (fun w ew => ?_)
  replace hv := ini_new (E' := [(0, 17)]) hv ew (by decide) (by decide)
  clear ew
  refine V_putF (sh' := zs173) (rs' := [0, 0, 80, 0, 0, 0, 0]) dX0_init_27 fX0_22 rfl rfl rfl rfl (by decide +kernel) rfl (by decide +kernel) ?_
  refine T_aload_n dX0_init_30 rfl ?_
  refine T_bipush dX0_init_31 (by decide) ?_
  refine V_newa0 (n := 60) (L := 81) (rc' := 2) (rs' := 84) (sh' := zs174) dX0_init_33 (wsAll_place 173 (by decide +kernel) (by decide +kernel)) (by decide) (by decide +kernel) rfl (by decide) (by decide) (fun w ew => ?_)
  replace hv := ini_new (E' := [(0, 17)]) hv ew (by decide) (by decide)
  clear ew
  refine V_putF (sh' := zs175) (rs' := [0, 0, 80, 81, 0, 0, 0]) dX0_init_35 fX0_25 rfl rfl rfl rfl (by decide +kernel) rfl (by decide +kernel) ?_
  refine T_aload_n dX0_init_38 rfl ?_
  refine T_bipush dX0_init_39 (by decide) ?_
  refine V_newa0 (n := 60) (L := 82) (rc' := 1) (rs' := 24) (sh' := zs176) dX0_init_41 (wsAll_place 173 (by decide +kernel) (by decide +kernel)) (by decide) (by decide +kernel) rfl (by decide) (by decide) (fun w ew => ?_)
  replace hv := ini_new (E' := [(0, 17)]) hv ew (by decide) (by decide)
  clear ew
  refine V_putF (sh' := zs177) (rs' := [0, 0, 80, 81, 82, 0, 0]) dX0_init_43 fX0_28 rfl rfl rfl rfl (by decide +kernel) rfl (by decide +kernel) ?_
  refine T_aload_n dX0_init_46 rfl ?_
  refine T_bipush dX0_init_47 (by decide) ?_
  refine V_newa0 (n := 24) (L := 83) (rc' := 0) (rs' := 0) (sh' := zs178) dX0_init_49 (wsAll_place 173 (by decide +kernel) (by decide +kernel)) (by decide) (by decide +kernel) rfl (by decide) (by decide) (fun w ew => ?_)
  replace hv := ini_new (E' := [(0, 17)]) hv ew (by decide) (by decide)
  clear ew
  refine V_putF (sh' := zs179) (rs' := [0, 0, 80, 81, 82, 83, 0]) dX0_init_51 fX0_31 rfl rfl rfl rfl (by decide +kernel) rfl (by decide +kernel) ?_
  have ez : zs179 = zq179 := by decide +kernel
  rw [ez]
  exact T_vret dX0_init_54 rfl (hQ _ hv)
def zs181 : List Sh := zq179.set 17 (.inr (4, 20, [19, 25, 31, 37, 43, 49, 55, 61, 67, 73, 79, 0, 0, 0, 0, 0, 0, 0, 0, 0]))
def zs182 : List Sh := zs181 ++ [.inl (0, [0, 0, 0, 0, 0, 0, 0])]
def zs183 : List Sh := zs182 ++ [.inr (0, 24, [])]
def zs184 : List Sh := zs183.set 84 (.inl (0, [0, 0, 86, 0, 0, 0, 0]))
def zs185 : List Sh := zs184 ++ [.inr (0, 60, [])]
def zs186 : List Sh := zs185.set 84 (.inl (0, [0, 0, 86, 87, 0, 0, 0]))
def zs187 : List Sh := zs186 ++ [.inr (0, 60, [])]
def zs188 : List Sh := zs187.set 84 (.inl (0, [0, 0, 86, 87, 88, 0, 0]))
def zs189 : List Sh := zs188 ++ [.inr (0, 60, [])]
def zs190 : List Sh := zs189.set 84 (.inl (0, [0, 0, 86, 87, 88, 89, 0]))
def zs191 : List Sh := zs190 ++ [.inr (0, 24, [])]
def zs192 : List Sh := zs191.set 84 (.inl (0, [0, 0, 86, 87, 88, 89, 90]))
def zq192 : List Sh := [.inl (10, [2, 4, 11, 0, 0, 0, 0, 0, 0, 0, 0, 0, 0, 0, 0, 0, 0, 0]), .inl (9, [3, 0]), .inr (0, 800, []), .inl (5, [5, 0, 0, 0, 0, 0, 0, 0]), .inl (0, [0, 0, 6, 7, 8, 9, 10]), .inr (0, 24, []), .inr (0, 60, []), .inr (0, 60, []), .inr (0, 60, []), .inr (0, 24, []), .inl (0, [0, 0, 12, 13, 14, 15, 16]), .inr (0, 24, []), .inr (0, 60, []), .inr (0, 60, []), .inr (0, 60, []), .inr (0, 24, []), .inl (3, [0, 0, 18]), .inr (4, 20, [19, 25, 31, 37, 43, 49, 55, 61, 67, 73, 79, 0, 0, 0, 0, 0, 0, 0, 0, 0]), .inl (0, [0, 0, 20, 21, 22, 23, 24]), .inr (0, 24, []), .inr (0, 60, []), .inr (0, 60, []), .inr (0, 60, []), .inr (0, 24, []), .inl (0, [0, 0, 26, 27, 28, 29, 30]), .inr (0, 24, []), .inr (0, 60, []), .inr (0, 60, []), .inr (0, 60, []), .inr (0, 24, []), .inl (0, [0, 0, 32, 33, 34, 35, 36]), .inr (0, 24, []), .inr (0, 60, []), .inr (0, 60, []), .inr (0, 60, []), .inr (0, 24, []), .inl (0, [0, 0, 38, 39, 40, 41, 42]), .inr (0, 24, []), .inr (0, 60, []), .inr (0, 60, []), .inr (0, 60, []), .inr (0, 24, []), .inl (0, [0, 0, 44, 45, 46, 47, 48]), .inr (0, 24, []), .inr (0, 60, []), .inr (0, 60, []), .inr (0, 60, []), .inr (0, 24, []), .inl (0, [0, 0, 50, 51, 52, 53, 54]), .inr (0, 24, []), .inr (0, 60, []), .inr (0, 60, []), .inr (0, 60, []), .inr (0, 24, []), .inl (0, [0, 0, 56, 57, 58, 59, 60]), .inr (0, 24, []), .inr (0, 60, []), .inr (0, 60, []), .inr (0, 60, []), .inr (0, 24, []), .inl (0, [0, 0, 62, 63, 64, 65, 66]), .inr (0, 24, []), .inr (0, 60, []), .inr (0, 60, []), .inr (0, 60, []), .inr (0, 24, []), .inl (0, [0, 0, 68, 69, 70, 71, 72]), .inr (0, 24, []), .inr (0, 60, []), .inr (0, 60, []), .inr (0, 60, []), .inr (0, 24, []), .inl (0, [0, 0, 74, 75, 76, 77, 78]), .inr (0, 24, []), .inr (0, 60, []), .inr (0, 60, []), .inr (0, 60, []), .inr (0, 24, []), .inl (0, [0, 0, 80, 81, 82, 83, 84]), .inr (0, 24, []), .inr (0, 60, []), .inr (0, 60, []), .inr (0, 60, []), .inr (0, 24, []), .inl (0, [0, 0, 86, 87, 88, 89, 90]), .inr (0, 24, []), .inr (0, 60, []), .inr (0, 60, []), .inr (0, 60, []), .inr (0, 24, [])]
theorem zX0_init_84 {G : GT} {d : Nat} (hd : 1 ≤ d) {w : VT} {Q : Option Vl → List Sh → VT → Prop} (hv : ini w 85 [(0, 17)]) (hQ : ∀ w, ini w 90 [(0, 17)] → Q none zq192 w) : n_T G d 5 228 mX0_init 0 [vR 84] [] zs182 w Q := by
  refine T_aload_n dX0_init_0 rfl ?_
  refine T_objI dX0_init_1 lX0_3 w_oi w_oc (by omega) (Nat.le_of_ble_eq_true rfl) ?_
  refine T_aload_n dX0_init_4 rfl ?_
  refine T_iconst dX0_init_5 (by decide) ?_
  refine U_putI (rs' := [0, 0, 0, 0, 0, 0, 0]) dX0_init_6 fX0_9 rfl rfl (by decide +kernel) (fun w ew => ?_)
  replace hv := ini_put (E' := [(0, 17)]) hv ew (by decide) (by decide)
  clear ew
  refine T_aload_n dX0_init_9 rfl ?_
  refine T_iconst dX0_init_10 (by decide) ?_
  refine U_putI (rs' := [0, 0, 0, 0, 0, 0, 0]) dX0_init_11 fX0_15 rfl rfl (by decide +kernel) (fun w ew => ?_)
  replace hv := ini_put (E' := [(0, 17)]) hv ew (by decide) (by decide)
  clear ew
  refine T_aload_n dX0_init_14 rfl ?_
  refine T_bipush dX0_init_15 (by decide) ?_
  refine V_newa0 (n := 24) (L := 85) (rc' := 4) (rs' := 204) (sh' := zs183) dX0_init_17 (wsAll_place 173 (by decide +kernel) (by decide +kernel)) (by decide) (by decide +kernel) rfl (by decide) (by decide) (fun w ew => ?_)
  replace hv := ini_new (E' := [(0, 17)]) hv ew (by decide) (by decide)
  clear ew
  refine V_putF (sh' := zs184) (rs' := [0, 0, 0, 0, 0, 0, 0]) dX0_init_19 fX0_18 rfl rfl rfl rfl (by decide +kernel) rfl (by decide +kernel) ?_
  refine T_aload_n dX0_init_22 rfl ?_
  refine T_bipush dX0_init_23 (by decide) ?_
  refine V_newa0 (n := 60) (L := 86) (rc' := 3) (rs' := 144) (sh' := zs185) dX0_init_25 (wsAll_place 173 (by decide +kernel) (by decide +kernel)) (by decide) (by decide +kernel) rfl (by decide) (by decide) (fun w ew => ?_)
  replace hv := ini_new (E' := [(0, 17)]) hv ew (by decide) (by decide)
  clear ew
  refine V_putF (sh' := zs186) (rs' := [0, 0, 86, 0, 0, 0, 0]) dX0_init_27 fX0_22 rfl rfl rfl rfl (by decide +kernel) rfl (by decide +kernel) ?_
  refine T_aload_n dX0_init_30 rfl ?_
  refine T_bipush dX0_init_31 (by decide) ?_
  refine V_newa0 (n := 60) (L := 87) (rc' := 2) (rs' := 84) (sh' := zs187) dX0_init_33 (wsAll_place 173 (by decide +kernel) (by decide +kernel)) (by decide) (by decide +kernel) rfl (by decide) (by decide) (fun w ew => ?_)
  replace hv := ini_new (E' := [(0, 17)]) hv ew (by decide) (by decide)
  clear ew
  refine V_putF (sh' := zs188) (rs' := [0, 0, 86, 87, 0, 0, 0]) dX0_init_35 fX0_25 rfl rfl rfl rfl (by decide +kernel) rfl (by decide +kernel) ?_
  refine T_aload_n dX0_init_38 rfl ?_
  refine T_bipush dX0_init_39 (by decide) ?_
  refine V_newa0 (n := 60) (L := 88) (rc' := 1) (rs' := 24) (sh' := zs189) dX0_init_41 (wsAll_place 173 (by decide +kernel) (by decide +kernel)) (by decide) (by decide +kernel) rfl (by decide) (by decide) (fun w ew => ?_)
  replace hv := ini_new (E' := [(0, 17)]) hv ew (by decide) (by decide)
  clear ew
  refine V_putF (sh' := zs190) (rs' := [0, 0, 86, 87, 88, 0, 0]) dX0_init_43 fX0_28 rfl rfl rfl rfl (by decide +kernel) rfl (by decide +kernel) ?_
  refine T_aload_n dX0_init_46 rfl ?_
  refine T_bipush dX0_init_47 (by decide) ?_
  refine V_newa0 (n := 24) (L := 89) (rc' := 0) (rs' := 0) (sh' := zs191) dX0_init_49 (wsAll_place 173 (by decide +kernel) (by decide +kernel)) (by decide) (by decide +kernel) rfl (by decide) (by decide) (fun w ew => ?_)
  replace hv := ini_new (E' := [(0, 17)]) hv ew (by decide) (by decide)
  clear ew
  refine V_putF (sh' := zs192) (rs' := [0, 0, 86, 87, 88, 89, 0]) dX0_init_51 fX0_31 rfl rfl rfl rfl (by decide +kernel) rfl (by decide +kernel) ?_
  have ez : zs192 = zq192 := by decide +kernel
  rw [ez]
  exact T_vret dX0_init_54 rfl (hQ _ hv)
def zs194 : List Sh := zq192.set 17 (.inr (4, 20, [19, 25, 31, 37, 43, 49, 55, 61, 67, 73, 79, 85, 0, 0, 0, 0, 0, 0, 0, 0]))
def zs195 : List Sh := zs194 ++ [.inl (0, [0, 0, 0, 0, 0, 0, 0])]
def zs196 : List Sh := zs195 ++ [.inr (0, 24, [])]
def zs197 : List Sh := zs196.set 90 (.inl (0, [0, 0, 92, 0, 0, 0, 0]))
def zs198 : List Sh := zs197 ++ [.inr (0, 60, [])]
def zs199 : List Sh := zs198.set 90 (.inl (0, [0, 0, 92, 93, 0, 0, 0]))
def zs200 : List Sh := zs199 ++ [.inr (0, 60, [])]
def zs201 : List Sh := zs200.set 90 (.inl (0, [0, 0, 92, 93, 94, 0, 0]))
def zs202 : List Sh := zs201 ++ [.inr (0, 60, [])]
def zs203 : List Sh := zs202.set 90 (.inl (0, [0, 0, 92, 93, 94, 95, 0]))
def zs204 : List Sh := zs203 ++ [.inr (0, 24, [])]
def zs205 : List Sh := zs204.set 90 (.inl (0, [0, 0, 92, 93, 94, 95, 96]))
def zq205 : List Sh := [.inl (10, [2, 4, 11, 0, 0, 0, 0, 0, 0, 0, 0, 0, 0, 0, 0, 0, 0, 0]), .inl (9, [3, 0]), .inr (0, 800, []), .inl (5, [5, 0, 0, 0, 0, 0, 0, 0]), .inl (0, [0, 0, 6, 7, 8, 9, 10]), .inr (0, 24, []), .inr (0, 60, []), .inr (0, 60, []), .inr (0, 60, []), .inr (0, 24, []), .inl (0, [0, 0, 12, 13, 14, 15, 16]), .inr (0, 24, []), .inr (0, 60, []), .inr (0, 60, []), .inr (0, 60, []), .inr (0, 24, []), .inl (3, [0, 0, 18]), .inr (4, 20, [19, 25, 31, 37, 43, 49, 55, 61, 67, 73, 79, 85, 0, 0, 0, 0, 0, 0, 0, 0]), .inl (0, [0, 0, 20, 21, 22, 23, 24]), .inr (0, 24, []), .inr (0, 60, []), .inr (0, 60, []), .inr (0, 60, []), .inr (0, 24, []), .inl (0, [0, 0, 26, 27, 28, 29, 30]), .inr (0, 24, []), .inr (0, 60, []), .inr (0, 60, []), .inr (0, 60, []), .inr (0, 24, []), .inl (0, [0, 0, 32, 33, 34, 35, 36]), .inr (0, 24, []), .inr (0, 60, []), .inr (0, 60, []), .inr (0, 60, []), .inr (0, 24, []), .inl (0, [0, 0, 38, 39, 40, 41, 42]), .inr (0, 24, []), .inr (0, 60, []), .inr (0, 60, []), .inr (0, 60, []), .inr (0, 24, []), .inl (0, [0, 0, 44, 45, 46, 47, 48]), .inr (0, 24, []), .inr (0, 60, []), .inr (0, 60, []), .inr (0, 60, []), .inr (0, 24, []), .inl (0, [0, 0, 50, 51, 52, 53, 54]), .inr (0, 24, []), .inr (0, 60, []), .inr (0, 60, []), .inr (0, 60, []), .inr (0, 24, []), .inl (0, [0, 0, 56, 57, 58, 59, 60]), .inr (0, 24, []), .inr (0, 60, []), .inr (0, 60, []), .inr (0, 60, []), .inr (0, 24, []), .inl (0, [0, 0, 62, 63, 64, 65, 66]), .inr (0, 24, []), .inr (0, 60, []), .inr (0, 60, []), .inr (0, 60, []), .inr (0, 24, []), .inl (0, [0, 0, 68, 69, 70, 71, 72]), .inr (0, 24, []), .inr (0, 60, []), .inr (0, 60, []), .inr (0, 60, []), .inr (0, 24, []), .inl (0, [0, 0, 74, 75, 76, 77, 78]), .inr (0, 24, []), .inr (0, 60, []), .inr (0, 60, []), .inr (0, 60, []), .inr (0, 24, []), .inl (0, [0, 0, 80, 81, 82, 83, 84]), .inr (0, 24, []), .inr (0, 60, []), .inr (0, 60, []), .inr (0, 60, []), .inr (0, 24, []), .inl (0, [0, 0, 86, 87, 88, 89, 90]), .inr (0, 24, []), .inr (0, 60, []), .inr (0, 60, []), .inr (0, 60, []), .inr (0, 24, []), .inl (0, [0, 0, 92, 93, 94, 95, 96]), .inr (0, 24, []), .inr (0, 60, []), .inr (0, 60, []), .inr (0, 60, []), .inr (0, 24, [])]
theorem zX0_init_90 {G : GT} {d : Nat} (hd : 1 ≤ d) {w : VT} {Q : Option Vl → List Sh → VT → Prop} (hv : ini w 91 [(0, 17)]) (hQ : ∀ w, ini w 96 [(0, 17)] → Q none zq205 w) : n_T G d 5 228 mX0_init 0 [vR 90] [] zs195 w Q := by
  refine T_aload_n dX0_init_0 rfl ?_
  refine T_objI dX0_init_1 lX0_3 w_oi w_oc (by omega) (Nat.le_of_ble_eq_true rfl) ?_
  refine T_aload_n dX0_init_4 rfl ?_
  refine T_iconst dX0_init_5 (by decide) ?_
  refine U_putI (rs' := [0, 0, 0, 0, 0, 0, 0]) dX0_init_6 fX0_9 rfl rfl (by decide +kernel) (fun w ew => ?_)
  replace hv := ini_put (E' := [(0, 17)]) hv ew (by decide) (by decide)
  clear ew
  refine T_aload_n dX0_init_9 rfl ?_
  refine T_iconst dX0_init_10 (by decide) ?_
  refine U_putI (rs' := [0, 0, 0, 0, 0, 0, 0]) dX0_init_11 fX0_15 rfl rfl (by decide +kernel) (fun w ew => ?_)
  replace hv := ini_put (E' := [(0, 17)]) hv ew (by decide) (by decide)
  clear ew
  refine T_aload_n dX0_init_14 rfl ?_
  refine T_bipush dX0_init_15 (by decide) ?_
  refine V_newa0 (n := 24) (L := 91) (rc' := 4) (rs' := 204) (sh' := zs196) dX0_init_17 (wsAll_place 173 (by decide +kernel) (by decide +kernel)) (by decide) (by decide +kernel) rfl (by decide) (by decide) (fun w ew => ?_)
  replace hv := ini_new (E' := [(0, 17)]) hv ew (by decide) (by decide)
  clear ew
  refine V_putF (sh' := zs197) (rs' := [0, 0, 0, 0, 0, 0, 0]) dX0_init_19 fX0_18 rfl rfl rfl rfl (by decide +kernel) rfl (by decide +kernel) ?_
  refine T_aload_n dX0_init_22 rfl ?_
  refine T_bipush dX0_init_23 (by decide) ?_
  refine V_newa0 (n := 60) (L := 92) (rc' := 3) (rs' := 144) (sh' := zs198) dX0_init_25 (wsAll_place 173 (by decide +kernel) (by decide +kernel)) (by decide) (by decide +kernel) rfl (by decide) (by decide) (fun w ew => ?_)
  replace hv := ini_new (E' := [(0, 17)]) hv ew (by decide) (by decide)
  clear ew
  refine V_putF (sh' := zs199) (rs' := [0, 0, 92, 0, 0, 0, 0]) dX0_init_27 fX0_22 rfl rfl rfl rfl (by decide +kernel) rfl (by decide +kernel) ?_
  refine T_aload_n dX0_init_30 rfl ?_
  refine T_bipush dX0_init_31 (by decide) ?_
  refine V_newa0 (n := 60) (L := 93) (rc' := 2) (rs' := 84) (sh' := zs200) dX0_init_33 (wsAll_place 173 (by decide +kernel) (by decide +kernel)) (by decide) (by decide +kernel) rfl (by decide) (by decide) (fun w ew => ?_)
  replace hv := ini_new (E' := [(0, 17)]) hv ew (by decide) (by decide)
  clear ew
  refine V_putF (sh' := zs201) (rs' := [0, 0, 92, 93, 0, 0, 0]) dX0_init_35 fX0_25 rfl rfl rfl rfl (by decide +kernel) rfl (by decide +kernel) ?_
  refine T_aload_n dX0_init_38 rfl ?_
  refine T_bipush dX0_init_39 (by decide) ?_
  refine V_newa0 (n := 60) (L := 94) (rc' := 1) (rs' := 24) (sh' := zs202) dX0_init_41 (wsAll_place 173 (by decide +kernel) (by decide +kernel)) (by decide) (by decide +kernel) rfl (by decide) (by decide) (fun w ew => ?_)
  replace hv := ini_new (E' := [(0, 17)]) hv ew (by decide) (by decide)
  clear ew
  refine V_putF (sh' := zs203) (rs' := [0, 0, 92, 93, 94, 0, 0]) dX0_init_43 fX0_28 rfl rfl rfl rfl (by decide +kernel) rfl (by decide +kernel) ?_
  refine T_aload_n dX0_init_46 rfl ?_
  refine T_bipush dX0_init_47 (by decide) ?_
  refine V_newa0 (n := 24) (L := 95) (rc' := 0) (rs' := 0) (sh' := zs204) dX0_init_49 (wsAll_place 173 (by decide +kernel) (by decide +kernel)) (by decide) (by decide +kernel) rfl (by decide) (by decide) (fun w ew => ?_)
  replace hv := ini_new (E' := [(0, 17)]) hv ew (by decide) (by decide)
  clear ew
  refine V_putF (sh' := zs205) (rs' := [0, 0, 92, 93, 94, 95, 0]) dX0_init_51 fX0_31 rfl rfl rfl rfl (by decide +kernel) rfl (by decide +kernel) ?_
  have ez : zs205 = zq205 := by decide +kernel
  rw [ez]
  exact T_vret dX0_init_54 rfl (hQ _ hv)
def zs207 : List Sh := zq205.set 17 (.inr (4, 20, [19, 25, 31, 37, 43, 49, 55, 61, 67, 73, 79, 85, 91, 0, 0, 0, 0, 0, 0, 0]))
def zs208 : List Sh := zs207 ++ [.inl (0, [0, 0, 0, 0, 0, 0, 0])]
def zs209 : List Sh := zs208 ++ [.inr (0, 24, [])]
def zs210 : List Sh := zs209.set 96 (.inl (0, [0, 0, 98, 0, 0, 0, 0]))
def zs211 : List Sh := zs210 ++ [.inr (0, 60, [])]
def zs212 : List Sh := zs211.set 96 (.inl (0, [0, 0, 98, 99, 0, 0, 0]))
def zs213 : List Sh := zs212 ++ [.inr (0, 60, [])]
def zs214 : List Sh := zs213.set 96 (.inl (0, [0, 0, 98, 99, 100, 0, 0]))
def zs215 : List Sh := zs214 ++ [.inr (0, 60, [])]
def zs216 : List Sh := zs215.set 96 (.inl (0, [0, 0, 98, 99, 100, 101, 0]))
def zs217 : List Sh := zs216 ++ [.inr (0, 24, [])]
def zs218 : List Sh := zs217.set 96 (.inl (0, [0, 0, 98, 99, 100, 101, 102]))
def zq218 : List Sh := [.inl (10, [2, 4, 11, 0, 0, 0, 0, 0, 0, 0, 0, 0, 0, 0, 0, 0, 0, 0]), .inl (9, [3, 0]), .inr (0, 800, []), .inl (5, [5, 0, 0, 0, 0, 0, 0, 0]), .inl (0, [0, 0, 6, 7, 8, 9, 10]), .inr (0, 24, []), .inr (0, 60, []), .inr (0, 60, []), .inr (0, 60, []), .inr (0, 24, []), .inl (0, [0, 0, 12, 13, 14, 15, 16]), .inr (0, 24, []), .inr (0, 60, []), .inr (0, 60, []), .inr (0, 60, []), .inr (0, 24, []), .inl (3, [0, 0, 18]), .inr (4, 20, [19, 25, 31, 37, 43, 49, 55, 61, 67, 73, 79, 85, 91, 0, 0, 0, 0, 0, 0, 0]), .inl (0, [0, 0, 20, 21, 22, 23, 24]), .inr (0, 24, []), .inr (0, 60, []), .inr (0, 60, []), .inr (0, 60, []), .inr (0, 24, []), .inl (0, [0, 0, 26, 27, 28, 29, 30]), .inr (0, 24, []), .inr (0, 60, []), .inr (0, 60, []), .inr (0, 60, []), .inr (0, 24, []), .inl (0, [0, 0, 32, 33, 34, 35, 36]), .inr (0, 24, []), .inr (0, 60, []), .inr (0, 60, []), .inr (0, 60, []), .inr (0, 24, []), .inl (0, [0, 0, 38, 39, 40, 41, 42]), .inr (0, 24, []), .inr (0, 60, []), .inr (0, 60, []), .inr (0, 60, []), .inr (0, 24, []), .inl (0, [0, 0, 44, 45, 46, 47, 48]), .inr (0, 24, []), .inr (0, 60, []), .inr (0, 60, []), .inr (0, 60, []), .inr (0, 24, []), .inl (0, [0, 0, 50, 51, 52, 53, 54]), .inr (0, 24, []), .inr (0, 60, []), .inr (0, 60, []), .inr (0, 60, []), .inr (0, 24, []), .inl (0, [0, 0, 56, 57, 58, 59, 60]), .inr (0, 24, []), .inr (0, 60, []), .inr (0, 60, []), .inr (0, 60, []), .inr (0, 24, []), .inl (0, [0, 0, 62, 63, 64, 65, 66]), .inr (0, 24, []), .inr (0, 60, []), .inr (0, 60, []), .inr (0, 60, []), .inr (0, 24, []), .inl (0, [0, 0, 68, 69, 70, 71, 72]), .inr (0, 24, []), .inr (0, 60, []), .inr (0, 60, []), .inr (0, 60, []), .inr (0, 24, []), .inl (0, [0, 0, 74, 75, 76, 77, 78]), .inr (0, 24, []), .inr (0, 60, []), .inr (0, 60, []), .inr (0, 60, []), .inr (0, 24, []), .inl (0, [0, 0, 80, 81, 82, 83, 84]), .inr (0, 24, []), .inr (0, 60, []), .inr (0, 60, []), .inr (0, 60, []), .inr (0, 24, []), .inl (0, [0, 0, 86, 87, 88, 89, 90]), .inr (0, 24, []), .inr (0, 60, []), .inr (0, 60, []), .inr (0, 60, []), .inr (0, 24, []), .inl (0, [0, 0, 92, 93, 94, 95, 96]), .inr (0, 24, []), .inr (0, 60, []), .inr (0, 60, []), .inr (0, 60, []), .inr (0, 24, []), .inl (0, [0, 0, 98, 99, 100, 101, 102]), .inr (0, 24, []), .inr (0, 60, []), .inr (0, 60, []), .inr (0, 60, []), .inr (0, 24, [])]
theorem zX0_init_96 {G : GT} {d : Nat} (hd : 1 ≤ d) {w : VT} {Q : Option Vl → List Sh → VT → Prop} (hv : ini w 97 [(0, 17)]) (hQ : ∀ w, ini w 102 [(0, 17)] → Q none zq218 w) : n_T G d 5 228 mX0_init 0 [vR 96] [] zs208 w Q := by
  refine T_aload_n dX0_init_0 rfl ?_
  refine T_objI dX0_init_1 lX0_3 w_oi w_oc (by omega) (Nat.le_of_ble_eq_true rfl) ?_
  refine T_aload_n dX0_init_4 rfl ?_
  refine T_iconst dX0_init_5 (by decide) ?_
  refine U_putI (rs' := [0, 0, 0, 0, 0, 0, 0]) dX0_init_6 fX0_9 rfl rfl (by decide +kernel) (fun w ew => ?_)
  replace hv := ini_put (E' := [(0, 17)]) hv ew (by decide) (by decide)
  clear ew
  refine T_aload_n dX0_init_9 rfl ?_
  refine T_iconst dX0_init_10 (by decide) ?_
  refine U_putI (rs' := [0, 0, 0, 0, 0, 0, 0]) dX0_init_11 fX0_15 rfl rfl (by decide +kernel) (fun w ew => ?_)
  replace hv := ini_put (E' := [(0, 17)]) hv ew (by decide) (by decide)
  clear ew
  refine T_aload_n dX0_init_14 rfl ?_
  refine T_bipush dX0_init_15 (by decide) ?_
  refine V_newa0 (n := 24) (L := 97) (rc' := 4) (rs' := 204) (sh' := zs209) dX0_init_17 (wsAll_place 173 (by decide +kernel) (by decide +kernel)) (by decide) (by decide +kernel) rfl (by decide) (by decide) (fun w ew => ?_)
  replace hv := ini_new (E' := [(0, 17)]) hv ew (by decide) (by decide)
  clear ew
  refine V_putF (sh' := zs210) (rs' := [0, 0, 0, 0, 0, 0, 0]) dX0_init_19 fX0_18 rfl rfl rfl rfl (by decide +kernel) rfl (by decide +kernel) ?_
  refine T_aload_n dX0_init_22 rfl ?_
  refine T_bipush dX0_init_23 (by decide) ?_
  refine V_newa0 (n := 60) (L := 98) (rc' := 3) (rs' := 144) (sh' := zs211) dX0_init_25 (wsAll_place 173 (by decide +kernel) (by decide +kernel)) (by decide) (by decide +kernel) rfl (by decide) (by decide) (fun w ew => ?_)
  replace hv := ini_new (E' := [(0, 17)]) hv ew (by decide) (by decide)
  clear ew
  refine V_putF (sh' := zs212) (rs' := [0, 0, 98, 0, 0, 0, 0]) dX0_init_27 fX0_22 rfl rfl rfl rfl (by decide +kernel) rfl (by decide +kernel) ?_
  refine T_aload_n dX0_init_30 rfl ?_
  refine T_bipush dX0_init_31 (by decide) ?_
  refine V_newa0 (n := 60) (L := 99) (rc' := 2) (rs' := 84) (sh' := zs213) dX0_init_33 (wsAll_place 173 (by decide +kernel) (by decide +kernel)) (by decide) (by decide +kernel) rfl (by decide) (by decide) (fun w ew => ?_)
  replace hv := ini_new (E' := [(0, 17)]) hv ew (by decide) (by decide)
  clear ew
  refine V_putF (sh' := zs214) (rs' := [0, 0, 98, 99, 0, 0, 0]) dX0_init_35 fX0_25 rfl rfl rfl rfl (by decide +kernel) rfl (by decide +kernel) ?_
  refine T_aload_n dX0_init_38 rfl ?_
  refine T_bipush dX0_init_39 (by decide) ?_
  refine V_newa0 (n := 60) (L := 100) (rc' := 1) (rs' := 24) (sh' := zs215) dX0_init_41 (wsAll_place 173 (by decide +kernel) (by decide +kernel)) (by decide) (by decide +kernel) rfl (by decide) (by decide) (fun w ew => ?_)
  replace hv := ini_new (E' := [(0, 17)]) hv ew (by decide) (by decide)
  clear ew
  refine V_putF (sh' := zs216) (rs' := [0, 0, 98, 99, 100, 0, 0]) dX0_init_43 fX0_28 rfl rfl rfl rfl (by decide +kernel) rfl (by decide +kernel) ?_
  refine T_aload_n dX0_init_46 rfl ?_
  refine T_bipush dX0_init_47 (by decide) ?_
  refine V_newa0 (n := 24) (L := 101) (rc' := 0) (rs' := 0) (sh' := zs217) dX0_init_49 (wsAll_place 173 (by decide +kernel) (by decide +kernel)) (by decide) (by decide +kernel) rfl (by decide) (by decide) (fun w ew => ?_)
  replace hv := ini_new (E' := [(0, 17)]) hv ew (by decide) (by decide)
  clear ew
  refine V_putF (sh' := zs218) (rs' := [0, 0, 98, 99, 100, 101, 0]) dX0_init_51 fX0_31 rfl rfl rfl rfl (by decide +kernel) rfl (by decide +kernel) ?_
  have ez : zs218 = zq218 := by decide +kernel
  rw [ez]
  exact T_vret dX0_init_54 rfl (hQ _ hv)
def zs220 : List Sh := zq218.set 17 (.inr (4, 20, [19, 25, 31, 37, 43, 49, 55, 61, 67, 73, 79, 85, 91, 97, 0, 0, 0, 0, 0, 0]))
def zs221 : List Sh := zs220 ++ [.inl (0, [0, 0, 0, 0, 0, 0, 0])]
def zs222 : List Sh := zs221 ++ [.inr (0, 24, [])]
def zs223 : List Sh := zs222.set 102 (.inl (0, [0, 0, 104, 0, 0, 0, 0]))
def zs224 : List Sh := zs223 ++ [.inr (0, 60, [])]
def zs225 : List Sh := zs224.set 102 (.inl (0, [0, 0, 104, 105, 0, 0, 0]))
def zs226 : List Sh := zs225 ++ [.inr (0, 60, [])]
def zs227 : List Sh := zs226.set 102 (.inl (0, [0, 0, 104, 105, 106, 0, 0]))
def zs228 : List Sh := zs227 ++ [.inr (0, 60, [])]
def zs229 : List Sh := zs228.set 102 (.inl (0, [0, 0, 104, 105, 106, 107, 0]))
def zs230 : List Sh := zs229 ++ [.inr (0, 24, [])]
def zs231 : List Sh := zs230.set 102 (.inl (0, [0, 0, 104, 105, 106, 107, 108]))
def zq231 : List Sh := [.inl (10, [2, 4, 11, 0, 0, 0, 0, 0, 0, 0, 0, 0, 0, 0, 0, 0, 0, 0]), .inl (9, [3, 0]), .inr (0, 800, []), .inl (5, [5, 0, 0, 0, 0, 0, 0, 0]), .inl (0, [0, 0, 6, 7, 8, 9, 10]), .inr (0, 24, []), .inr (0, 60, []), .inr (0, 60, []), .inr (0, 60, []), .inr (0, 24, []), .inl (0, [0, 0, 12, 13, 14, 15, 16]), .inr (0, 24, []), .inr (0, 60, []), .inr (0, 60, []), .inr (0, 60, []), .inr (0, 24, []), .inl (3, [0, 0, 18]), .inr (4, 20, [19, 25, 31, 37, 43, 49, 55, 61, 67, 73, 79, 85, 91, 97, 0, 0, 0, 0, 0, 0]), .inl (0, [0, 0, 20, 21, 22, 23, 24]), .inr (0, 24, []), .inr (0, 60, []), .inr (0, 60, []), .inr (0, 60, []), .inr (0, 24, []), .inl (0, [0, 0, 26, 27, 28, 29, 30]), .inr (0, 24, []), .inr (0, 60, []), .inr (0, 60, []), .inr (0, 60, []), .inr (0, 24, []), .inl (0, [0, 0, 32, 33, 34, 35, 36]), .inr (0, 24, []), .inr (0, 60, []), .inr (0, 60, []), .inr (0, 60, []), .inr (0, 24, []), .inl (0, [0, 0, 38, 39, 40, 41, 42]), .inr (0, 24, []), .inr (0, 60, []), .inr (0, 60, []), .inr (0, 60, []), .inr (0, 24, []), .inl (0, [0, 0, 44, 45, 46, 47, 48]), .inr (0, 24, []), .inr (0, 60, []), .inr (0, 60, []), .inr (0, 60, []), .inr (0, 24, []), .inl (0, [0, 0, 50, 51, 52, 53, 54]), .inr (0, 24, []), .inr (0, 60, []), .inr (0, 60, []), .inr (0, 60, []), .inr (0, 24, []), .inl (0, [0, 0, 56, 57, 58, 59, 60]), .inr (0, 24, []), .inr (0, 60, []), .inr (0, 60, []), .inr (0, 60, []), .inr (0, 24, []), .inl (0, [0, 0, 62, 63, 64, 65, 66]), .inr (0, 24, []), .inr (0, 60, []), .inr (0, 60, []), .inr (0, 60, []), .inr (0, 24, []), .inl (0, [0, 0, 68, 69, 70, 71, 72]), .inr (0, 24, []), .inr (0, 60, []), .inr (0, 60, []), .inr (0, 60, []), .inr (0, 24, []), .inl (0, [0, 0, 74, 75, 76, 77, 78]), .inr (0, 24, []), .inr (0, 60, []), .inr (0, 60, []), .inr (0, 60, []), .inr (0, 24, []), .inl (0, [0, 0, 80, 81, 82, 83, 84]), .inr (0, 24, []), .inr (0, 60, []), .inr (0, 60, []), .inr (0, 60, []), .inr (0, 24, []), .inl (0, [0, 0, 86, 87, 88, 89, 90]), .inr (0, 24, []), .inr (0, 60, []), .inr (0, 60, []), .inr (0, 60, []), .inr (0, 24, []), .inl (0, [0, 0, 92, 93, 94, 95, 96]), .inr (0, 24, []), .inr (0, 60, []), .inr (0, 60, []), .inr (0, 60, []), .inr (0, 24, []), .inl (0, [0, 0, 98, 99, 100, 101, 102]), .inr (0, 24, []), .inr (0, 60, []), .inr (0, 60, []), .inr (0, 60, []), .inr (0, 24, []), .inl (0, [0, 0, 104, 105, 106, 107, 108]), .inr (0, 24, []), .inr (0, 60, []), .inr (0, 60, []), .inr (0, 60, []), .inr (0, 24, [])]
theorem zX0_init_102 {G : GT} {d : Nat} (hd : 1 ≤ d) {w : VT} {Q : Option Vl → List Sh → VT → Prop} (hv : ini w 103 [(0, 17)]) (hQ : ∀ w, ini w 108 [(0, 17)] → Q none zq231 w) : n_T G d 5 228 mX0_init 0 [vR 102] [] zs221 w Q := by
  refine T_aload_n dX0_init_0 rfl ?_
  refine T_objI dX0_init_1 lX0_3 w_oi w_oc (by omega) (Nat.le_of_ble_eq_true rfl) ?_
  refine T_aload_n dX0_init_4 rfl ?_
  refine T_iconst dX0_init_5 (by decide) ?_
  refine U_putI (rs' := [0, 0, 0, 0, 0, 0, 0]) dX0_init_6 fX0_9 rfl rfl (by decide +kernel) (fun w ew => ?_)
  replace hv := ini_put (E' := [(0, 17)]) hv ew (by decide) (by decide)
  clear ew
  refine T_aload_n dX0_init_9 rfl ?_
  refine T_iconst dX0_init_10 (by decide) ?_
  refine U_putI (rs' := [0, 0, 0, 0, 0, 0, 0]) dX0_init_11 fX0_15 rfl rfl (by decide +kernel) (fun w ew => ?_)
  replace hv := ini_put (E' := [(0, 17)]) hv ew (by decide) (by decide)
  clear ew
  refine T_aload_n dX0_init_14 rfl ?_
  refine T_bipush dX0_init_15 (by decide) ?_
  refine V_newa0 (n := 24) (L := 103) (rc' := 4) (rs' := 204) (sh' := zs222) dX0_init_17 (wsAll_place 173 (by decide +kernel) (by decide +kernel)) (by decide) (by decide +kernel) rfl (by decide) (by decide) (fun w ew => ?_)
  replace hv := ini_new (E' := [(0, 17)]) hv ew (by decide) (by decide)
  clear ew
  refine V_putF (sh' := zs223) (rs' := [0, 0, 0, 0, 0, 0, 0]) dX0_init_19 fX0_18 rfl rfl rfl rfl (by decide +kernel) rfl (by decide +kernel) ?_
  refine T_aload_n dX0_init_22 rfl ?_
  refine T_bipush dX0_init_23 (by decide) ?_
  refine V_newa0 (n := 60) (L := 104) (rc' := 3) (rs' := 144) (sh' := zs224) dX0_init_25 (wsAll_place 173 (by decide +kernel) (by decide +kernel)) (by decide) (by decide +kernel) rfl (by decide) (by decide) (fun w ew => ?_)
  replace hv := ini_new (E' := [(0, 17)]) hv ew (by decide) (by decide)
  clear ew
  refine V_putF (sh' := zs225) (rs' := [0, 0, 104, 0, 0, 0, 0]) dX0_init_27 fX0_22 rfl rfl rfl rfl (by decide +kernel) rfl (by decide +kernel) ?_
  refine T_aload_n dX0_init_30 rfl ?_
  refine T_bipush dX0_init_31 (by decide) ?_
  refine V_newa0 (n := 60) (L := 105) (rc' := 2) (rs' := 84) (sh' := zs226) dX0_init_33 (wsAll_place 173 (by decide +kernel) (by decide +kernel)) (by decide) (by decide +kernel) rfl (by decide) (by decide) (fun w ew => ?_)
  replace hv := ini_new (E' := [(0, 17)]) hv ew (by decide) (by decide)
  clear ew
  refine V_putF (sh' := zs227) (rs' := [0, 0, 104, 105, 0, 0, 0]) dX0_init_35 fX0_25 rfl rfl rfl rfl (by decide +kernel) rfl (by decide +kernel) ?_
  refine T_aload_n dX0_init_38 rfl ?_
  refine T_bipush dX0_init_39 (by decide) ?_
  refine V_newa0 (n := 60) (L := 106) (rc' := 1) (rs' := 24) (sh' := zs228) dX0_init_41 (wsAll_place 173 (by decide +kernel) (by decide +kernel)) (by decide) (by decide +kernel) rfl (by decide) (by decide) (fun w ew => ?_)
  replace hv := ini_new (E' := [(0, 17)]) hv ew (by decide) (by decide)
  clear ew
  refine V_putF (sh' := zs229) (rs' := [0, 0, 104, 105, 106, 0, 0]) dX0_init_43 fX0_28 rfl rfl rfl rfl (by decide +kernel) rfl (by decide +kernel) ?_
  refine T_aload_n dX0_init_46 rfl ?_
  refine T_bipush dX0_init_47 (by decide) ?_
  refine V_newa0 (n := 24) (L := 107) (rc' := 0) (rs' := 0) (sh' := zs230) dX0_init_49 (wsAll_place 173 (by decide +kernel) (by decide +kernel)) (by decide) (by decide +kernel) rfl (by decide) (by decide) (fun w ew => ?_)
  replace hv := ini_new (E' := [(0, 17)]) hv ew (by decide) (by decide)
  clear ew
  refine V_putF (sh' := zs231) (rs' := [0, 0, 104, 105, 106, 107, 0]) dX0_init_51 fX0_31 rfl rfl rfl rfl (by decide +kernel) rfl (by decide +kernel) ?_
  have ez : zs231 = zq231 := by decide +kernel
  rw [ez]
  exact T_vret dX0_init_54 rfl (hQ _ hv)
def zs233 : List Sh := zq231.set 17 (.inr (4, 20, [19, 25, 31, 37, 43, 49, 55, 61, 67, 73, 79, 85, 91, 97, 103, 0, 0, 0, 0, 0]))
def zs234 : List Sh := zs233 ++ [.inl (0, [0, 0, 0, 0, 0, 0, 0])]
def zs235 : List Sh := zs234 ++ [.inr (0, 24, [])]
def zs236 : List Sh := zs235.set 108 (.inl (0, [0, 0, 110, 0, 0, 0, 0]))
def zs237 : List Sh := zs236 ++ [.inr (0, 60, [])]
def zs238 : List Sh := zs237.set 108 (.inl (0, [0, 0, 110, 111, 0, 0, 0]))
def zs239 : List Sh := zs238 ++ [.inr (0, 60, [])]
def zs240 : List Sh := zs239.set 108 (.inl (0, [0, 0, 110, 111, 112, 0, 0]))
def zs241 : List Sh := zs240 ++ [.inr (0, 60, [])]
def zs242 : List Sh := zs241.set 108 (.inl (0, [0, 0, 110, 111, 112, 113, 0]))
def zs243 : List Sh := zs242 ++ [.inr (0, 24, [])]
def zs244 : List Sh := zs243.set 108 (.inl (0, [0, 0, 110, 111, 112, 113, 114]))
def zq244 : List Sh := [.inl (10, [2, 4, 11, 0, 0, 0, 0, 0, 0, 0, 0, 0, 0, 0, 0, 0, 0, 0]), .inl (9, [3, 0]), .inr (0, 800, []), .inl (5, [5, 0, 0, 0, 0, 0, 0, 0]), .inl (0, [0, 0, 6, 7, 8, 9, 10]), .inr (0, 24, []), .inr (0, 60, []), .inr (0, 60, []), .inr (0, 60, []), .inr (0, 24, []), .inl (0, [0, 0, 12, 13, 14, 15, 16]), .inr (0, 24, []), .inr (0, 60, []), .inr (0, 60, []), .inr (0, 60, []), .inr (0, 24, []), .inl (3, [0, 0, 18]), .inr (4, 20, [19, 25, 31, 37, 43, 49, 55, 61, 67, 73, 79, 85, 91, 97, 103, 0, 0, 0, 0, 0]), .inl (0, [0, 0, 20, 21, 22, 23, 24]), .inr (0, 24, []), .inr (0, 60, []), .inr (0, 60, []), .inr (0, 60, []), .inr (0, 24, []), .inl (0, [0, 0, 26, 27, 28, 29, 30]), .inr (0, 24, []), .inr (0, 60, []), .inr (0, 60, []), .inr (0, 60, []), .inr (0, 24, []), .inl (0, [0, 0, 32, 33, 34, 35, 36]), .inr (0, 24, []), .inr (0, 60, []), .inr (0, 60, []), .inr (0, 60, []), .inr (0, 24, []), .inl (0, [0, 0, 38, 39, 40, 41, 42]), .inr (0, 24, []), .inr (0, 60, []), .inr (0, 60, []), .inr (0, 60, []), .inr (0, 24, []), .inl (0, [0, 0, 44, 45, 46, 47, 48]), .inr (0, 24, []), .inr (0, 60, []), .inr (0, 60, []), .inr (0, 60, []), .inr (0, 24, []), .inl (0, [0, 0, 50, 51, 52, 53, 54]), .inr (0, 24, []), .inr (0, 60, []), .inr (0, 60, []), .inr (0, 60, []), .inr (0, 24, []), .inl (0, [0, 0, 56, 57, 58, 59, 60]), .inr (0, 24, []), .inr (0, 60, []), .inr (0, 60, []), .inr (0, 60, []), .inr (0, 24, []), .inl (0, [0, 0, 62, 63, 64, 65, 66]), .inr (0, 24, []), .inr (0, 60, []), .inr (0, 60, []), .inr (0, 60, []), .inr (0, 24, []), .inl (0, [0, 0, 68, 69, 70, 71, 72]), .inr (0, 24, []), .inr (0, 60, []), .inr (0, 60, []), .inr (0, 60, []), .inr (0, 24, []), .inl (0, [0, 0, 74, 75, 76, 77, 78]), .inr (0, 24, []), .inr (0, 60, []), .inr (0, 60, []), .inr (0, 60, []), .inr (0, 24, []), .inl (0, [0, 0, 80, 81, 82, 83, 84]), .inr (0, 24, []), .inr (0, 60, []), .inr (0, 60, []), .inr (0, 60, []), .inr (0, 24, []), .inl (0, [0, 0, 86, 87, 88, 89, 90]), .inr (0, 24, []), .inr (0, 60, []), .inr (0, 60, []), .inr (0, 60, []), .inr (0, 24, []), .inl (0, [0, 0, 92, 93, 94, 95, 96]), .inr (0, 24, []), .inr (0, 60, []), .inr (0, 60, []), .inr (0, 60, []), .inr (0, 24, []), .inl (0, [0, 0, 98, 99, 100, 101, 102]), .inr (0, 24, []), .inr (0, 60, []), .inr (0, 60, []), .inr (0, 60, []), .inr (0, 24, []), .inl (0, [0, 0, 104, 105, 106, 107, 108]), .inr (0, 24, []), .inr (0, 60, []), .inr (0, 60, []), .inr (0, 60, []), .inr (0, 24, []), .inl (0, [0, 0, 110, 111, 112, 113, 114]), .inr (0, 24, []), .inr (0, 60, []), .inr (0, 60, []), .inr (0, 60, []), .inr (0, 24, [])]
theorem zX0_init_108 {G : GT} {d : Nat} (hd : 1 ≤ d) {w : VT} {Q : Option Vl → List Sh → VT → Prop} (hv : ini w 109 [(0, 17)]) (hQ : ∀ w, ini w 114 [(0, 17)] → Q none zq244 w) : n_T G d 5 228 mX0_init 0 [vR 108] [] zs234 w Q := by
  refine T_aload_n dX0_init_0 rfl ?_
  refine T_objI dX0_init_1 lX0_3 w_oi w_oc (by omega) (Nat.le_of_ble_eq_true rfl) ?_
  refine T_aload_n dX0_init_4 rfl ?_
  refine T_iconst dX0_init_5 (by decide) ?_
  refine U_putI (rs' := [0, 0, 0, 0, 0, 0, 0]) dX0_init_6 fX0_9 rfl rfl (by decide +kernel) (fun w ew => ?_)
  replace hv := ini_put (E' := [(0, 17)]) hv ew (by decide) (by decide)
  clear ew
  refine T_aload_n dX0_init_9 rfl ?_
  refine T_iconst dX0_init_10 (by decide) ?_
  refine U_putI (rs' := [0, 0, 0, 0, 0, 0, 0]) dX0_init_11 fX0_15 rfl rfl (by decide +kernel) (fun w ew => ?_)
  replace hv := ini_put (E' := [(0, 17)]) hv ew (by decide) (by decide)
  clear ew
  refine T_aload_n dX0_init_14 rfl ?_
  refine T_bipush dX0_init_15 (by decide) ?_
  refine V_newa0 (n := 24) (L := 109) (rc' := 4) (rs' := 204) (sh' := zs235) dX0_init_17 (wsAll_place 173 (by decide +kernel) (by decide +kernel)) (by decide) (by decide +kernel) rfl (by decide) (by decide) (fun w ew => ?_)
  replace hv := ini_new (E' := [(0, 17)]) hv ew (by decide) (by decide)
  clear ew
  refine V_putF (sh' := zs236) (rs' := [0, 0, 0, 0, 0, 0, 0]) dX0_init_19 fX0_18 rfl rfl rfl rfl (by decide +kernel) rfl (by decide +kernel) ?_
  refine T_aload_n dX0_init_22 rfl ?_
  refine T_bipush dX0_init_23 (by decide) ?_
  refine V_newa0 (n := 60) (L := 110) (rc' := 3) (rs' := 144) (sh' := zs237) dX0_init_25 (wsAll_place 173 (by decide +kernel) (by decide +kernel)) (by decide) (by decide +kernel) rfl (by decide) (by decide) (fun w ew => ?_)
  replace hv := ini_new (E' := [(0, 17)]) hv ew (by decide) (by decide)
  clear ew
  refine V_putF (sh' := zs238) (rs' := [0, 0, 110, 0, 0, 0, 0]) dX0_init_27 fX0_22 rfl rfl rfl rfl (by decide +kernel) rfl (by decide +kernel) ?_
  refine T_aload_n dX0_init_30 rfl ?_
  refine T_bipush dX0_init_31 (by decide) ?_
  refine V_newa0 (n := 60) (L := 111) (rc' := 2) (rs' := 84) (sh' := zs239) dX0_init_33 (wsAll_place 173 (by decide +kernel) (by decide +kernel)) (by decide) (by decide +kernel) rfl (by decide) (by decide) (fun w ew => ?_)
  replace hv := ini_new (E' := [(0, 17)]) hv ew (by decide) (by decide)
  clear ew
  refine V_putF (sh' := zs240) (rs' := [0, 0, 110, 111, 0, 0, 0]) dX0_init_35 fX0_25 rfl rfl rfl rfl (by decide +kernel) rfl (by decide +kernel) ?_
  refine T_aload_n dX0_init_38 rfl ?_
  refine T_bipush dX0_init_39 (by decide) ?_
  refine V_newa0 (n := 60) (L := 112) (rc' := 1) (rs' := 24) (sh' := zs241) dX0_init_41 (wsAll_place 173 (by decide +kernel) (by decide +kernel)) (by decide) (by decide +kernel) rfl (by decide) (by decide) (fun w ew => ?_)
  replace hv := ini_new (E' := [(0, 17)]) hv ew (by decide) (by decide)
  clear ew
  refine V_putF (sh' := zs242) (rs' := [0, 0, 110, 111, 112, 0, 0]) dX0_init_43 fX0_28 rfl rfl rfl rfl (by decide +kernel) rfl (by decide +kernel) ?_
  refine T_aload_n dX0_init_46 rfl ?_
  refine T_bipush dX0_init_47 (by decide) ?_
  refine V_newa0 (n := 24) (L := 113) (rc' := 0) (rs' := 0) (sh' := zs243) dX0_init_49 (wsAll_place 173 (by decide +kernel) (by decide +kernel)) (by decide) (by decide +kernel) rfl (by decide) (by decide) (fun w ew => ?_)
  replace hv := ini_new (E' := [(0, 17)]) hv ew (by decide) (by decide)
  clear ew
  refine V_putF (sh' := zs244) (rs' := [0, 0, 110, 111, 112, 113, 0]) dX0_init_51 fX0_31 rfl rfl rfl rfl (by decide +kernel) rfl (by decide +kernel) ?_
  have ez : zs244 = zq244 := by decide +kernel
  rw [ez]
  exact T_vret dX0_init_54 rfl (hQ _ hv)
def zs246 : List Sh := zq244.set 17 (.inr (4, 20, [19, 25, 31, 37, 43, 49, 55, 61, 67, 73, 79, 85, 91, 97, 103, 109, 0, 0, 0, 0]))
def zs247 : List Sh := zs246 ++ [.inl (0, [0, 0, 0, 0, 0, 0, 0])]
def zs248 : List Sh := zs247 ++ [.inr (0, 24, [])]
def zs249 : List Sh := zs248.set 114 (.inl (0, [0, 0, 116, 0, 0, 0, 0]))
def zs250 : List Sh := zs249 ++ [.inr (0, 60, [])]
def zs251 : List Sh := zs250.set 114 (.inl (0, [0, 0, 116, 117, 0, 0, 0]))
def zs252 : List Sh := zs251 ++ [.inr (0, 60, [])]
def zs253 : List Sh := zs252.set 114 (.inl (0, [0, 0, 116, 117, 118, 0, 0]))
def zs254 : List Sh := zs253 ++ [.inr (0, 60, [])]
def zs255 : List Sh := zs254.set 114 (.inl (0, [0, 0, 116, 117, 118, 119, 0]))
def zs256 : List Sh := zs255 ++ [.inr (0, 24, [])]
def zs257 : List Sh := zs256.set 114 (.inl (0, [0, 0, 116, 117, 118, 119, 120]))
def zq257 : List Sh := [.inl (10, [2, 4, 11, 0, 0, 0, 0, 0, 0, 0, 0, 0, 0, 0, 0, 0, 0, 0]), .inl (9, [3, 0]), .inr (0, 800, []), .inl (5, [5, 0, 0, 0, 0, 0, 0, 0]), .inl (0, [0, 0, 6, 7, 8, 9, 10]), .inr (0, 24, []), .inr (0, 60, []), .inr (0, 60, []), .inr (0, 60, []), .inr (0, 24, []), .inl (0, [0, 0, 12, 13, 14, 15, 16]), .inr (0, 24, []), .inr (0, 60, []), .inr (0, 60, []), .inr (0, 60, []), .inr (0, 24, []), .inl (3, [0, 0, 18]), .inr (4, 20, [19, 25, 31, 37, 43, 49, 55, 61, 67, 73, 79, 85, 91, 97, 103, 109, 0, 0, 0, 0]), .inl (0, [0, 0, 20, 21, 22, 23, 24]), .inr (0, 24, []), .inr (0, 60, []), .inr (0, 60, []), .inr (0, 60, []), .inr (0, 24, []), .inl (0, [0, 0, 26, 27, 28, 29, 30]), .inr (0, 24, []), .inr (0, 60, []), .inr (0, 60, []), .inr (0, 60, []), .inr (0, 24, []), .inl (0, [0, 0, 32, 33, 34, 35, 36]), .inr (0, 24, []), .inr (0, 60, []), .inr (0, 60, []), .inr (0, 60, []), .inr (0, 24, []), .inl (0, [0, 0, 38, 39, 40, 41, 42]), .inr (0, 24, []), .inr (0, 60, []), .inr (0, 60, []), .inr (0, 60, []), .inr (0, 24, []), .inl (0, [0, 0, 44, 45, 46, 47, 48]), .inr (0, 24, []), .inr (0, 60, []), .inr (0, 60, []), .inr (0, 60, []), .inr (0, 24, []), .inl (0, [0, 0, 50, 51, 52, 53, 54]), .inr (0, 24, []), .inr (0, 60, []), .inr (0, 60, []), .inr (0, 60, []), .inr (0, 24, []), .inl (0, [0, 0, 56, 57, 58, 59, 60]), .inr (0, 24, []), .inr (0, 60, []), .inr (0, 60, []), .inr (0, 60, []), .inr (0, 24, []), .inl (0, [0, 0, 62, 63, 64, 65, 66]), .inr (0, 24, []), .inr (0, 60, []), .inr (0, 60, []), .inr (0, 60, []), .inr (0, 24, []), .inl (0, [0, 0, 68, 69, 70, 71, 72]), .inr (0, 24, []), .inr (0, 60, []), .inr (0, 60, []), .inr (0, 60, []), .inr (0, 24, []), .inl (0, [0, 0, 74, 75, 76, 77, 78]), .inr (0, 24, []), .inr (0, 60, []), .inr (0, 60, []), .inr (0, 60, []), .inr (0, 24, []), .inl (0, [0, 0, 80, 81, 82, 83, 84]), .inr (0, 24, []), .inr (0, 60, []), .inr (0, 60, []), .inr (0, 60, []), .inr (0, 24, []), .inl (0, [0, 0, 86, 87, 88, 89, 90]), .inr (0, 24, []), .inr (0, 60, []), .inr (0, 60, []), .inr (0, 60, []), .inr (0, 24, []), .inl (0, [0, 0, 92, 93, 94, 95, 96]), .inr (0, 24, []), .inr (0, 60, []), .inr (0, 60, []), .inr (0, 60, []), .inr (0, 24, []), .inl (0, [0, 0, 98, 99, 100, 101, 102]), .inr (0, 24, []), .inr (0, 60, []), .inr (0, 60, []), .inr (0, 60, []), .inr (0, 24, []), .inl (0, [0, 0, 104, 105, 106, 107, 108]), .inr (0, 24, []), .inr (0, 60, []), .inr (0, 60, []), .inr (0, 60, []), .inr (0, 24, []), .inl (0, [0, 0, 110, 111, 112, 113, 114]), .inr (0, 24, []), .inr (0, 60, []), .inr (0, 60, []), .inr (0, 60, []), .inr (0, 24, []), .inl (0, [0, 0, 116, 117, 118, 119, 120]), .inr (0, 24, []), .inr (0, 60, []), .inr (0, 60, []), .inr (0, 60, []), .inr (0, 24, [])]
theorem zX0_init_114 {G : GT} {d : Nat} (hd : 1 ≤ d) {w : VT} {Q : Option Vl → List Sh → VT → Prop} (hv : ini w 115 [(0, 17)]) (hQ : ∀ w, ini w 120 [(0, 17)] → Q none zq257 w) : n_T G d 5 228 mX0_init 0 [vR 114] [] zs247 w Q := by
  refine T_aload_n dX0_init_0 rfl ?_
  refine T_objI dX0_init_1 lX0_3 w_oi w_oc (by omega) (Nat.le_of_ble_eq_true rfl) ?_
  refine T_aload_n dX0_init_4 rfl ?_
  refine T_iconst dX0_init_5 (by decide) ?_
  refine U_putI (rs' := [0, 0, 0, 0, 0, 0, 0]) dX0_init_6 fX0_9 rfl rfl (by decide +kernel) (fun w ew => ?_)
  replace hv := ini_put (E' := [(0, 17)]) hv ew (by decide) (by decide)
  clear ew
  refine T_aload_n dX0_init_9 rfl ?_
  refine T_iconst dX0_init_10 (by decide) ?_
  refine U_putI (rs' := [0, 0, 0, 0, 0, 0, 0]) dX0_init_11 fX0_15 rfl rfl (by decide +kernel) (fun w ew => ?_)
  replace hv := ini_put (E' := [(0, 17)]) hv ew (by decide) (by decide)
  clear ew
  refine T_aload_n dX0_init_14 rfl ?_
  refine T_bipush dX0_init_15 (by decide) ?_
  refine V_newa0 (n := 24) (L := 115) (rc' := 4) (rs' := 204) (sh' := zs248) dX0_init_17 (wsAll_place 173 (by decide +kernel) (by decide +kernel)) (by decide) (by decide +kernel) rfl (by decide) (by decide) (fun w ew => ?_)
  replace hv := ini_new (E' := [(0, 17)]) hv ew (by decide) (by decide)
  clear ew
  refine V_putF (sh' := zs249) (rs' := [0, 0, 0, 0, 0, 0, 0]) dX0_init_19 fX0_18 rfl rfl rfl rfl (by decide +kernel) rfl (by decide +kernel) ?_
  refine T_aload_n dX0_init_22 rfl ?_
  refine T_bipush dX0_init_23 (by decide) ?_
  refine V_newa0 (n := 60) (L := 116) (rc' := 3) (rs' := 144) (sh' := zs250) dX0_init_25 (wsAll_place 173 (by decide +kernel) (by decide +kernel)) (by decide) (by decide +kernel) rfl (by decide) (by decide) (fun w ew => ?_)
  replace hv := ini_new (E' := [(0, 17)]) hv ew (by decide) (by decide)
  clear ew
  refine V_putF (sh' := zs251) (rs' := [0, 0, 116, 0, 0, 0, 0]) dX0_init_27 fX0_22 rfl rfl rfl rfl (by decide +kernel) rfl (by decide +kernel) ?_
  refine T_aload_n dX0_init_30 rfl ?_
  refine T_bipush dX0_init_31 (by decide) ?_
  refine V_newa0 (n := 60) (L := 117) (rc' := 2) (rs' := 84) (sh' := zs252) dX0_init_33 (wsAll_place 173 (by decide +kernel) (by decide +kernel)) (by decide) (by decide +kernel) rfl (by decide) (by decide) (fun w ew => ?_)
  replace hv := ini_new (E' := [(0, 17)]) hv ew (by decide) (by decide)
  clear ew
  refine V_putF (sh' := zs253) (rs' := [0, 0, 116, 117, 0, 0, 0]) dX0_init_35 fX0_25 rfl rfl rfl rfl (by decide +kernel) rfl (by decide +kernel) ?_
  refine T_aload_n dX0_init_38 rfl ?_
  refine T_bipush dX0_init_39 (by decide) ?_
  refine V_newa0 (n := 60) (L := 118) (rc' := 1) (rs' := 24) (sh' := zs254) dX0_init_41 (wsAll_place 173 (by decide +kernel) (by decide +kernel)) (by decide) (by decide +kernel) rfl (by decide) (by decide) (fun w ew => ?_)
  replace hv := ini_new (E' := [(0, 17)]) hv ew (by decide) (by decide)
  clear ew
  refine V_putF (sh' := zs255) (rs' := [0, 0, 116, 117, 118, 0, 0]) dX0_init_43 fX0_28 rfl rfl rfl rfl (by decide +kernel) rfl (by decide +kernel) ?_
  refine T_aload_n dX0_init_46 rfl ?_
  refine T_bipush dX0_init_47 (by decide) ?_
  refine V_newa0 (n := 24) (L := 119) (rc' := 0) (rs' := 0) (sh' := zs256) dX0_init_49 (wsAll_place 173 (by decide +kernel) (by decide +kernel)) (by decide) (by decide +kernel) rfl (by decide) (by decide) (fun w ew => ?_)
  replace hv := ini_new (E' := [(0, 17)]) hv ew (by decide) (by decide)
  clear ew
  refine V_putF (sh' := zs257) (rs' := [0, 0, 116, 117, 118, 119, 0]) dX0_init_51 fX0_31 rfl rfl rfl rfl (by decide +kernel) rfl (by decide +kernel) ?_
  have ez : zs257 = zq257 := by decide +kernel
  rw [ez]
  exact T_vret dX0_init_54 rfl (hQ _ hv)
def zs259 : List Sh := zq257.set 17 (.inr (4, 20, [19, 25, 31, 37, 43, 49, 55, 61, 67, 73, 79, 85, 91, 97, 103, 109, 115, 0, 0, 0]))
def zs260 : List Sh := zs259 ++ [.inl (0, [0, 0, 0, 0, 0, 0, 0])]
def zs261 : List Sh := zs260 ++ [.inr (0, 24, [])]
def zs262 : List Sh := zs261.set 120 (.inl (0, [0, 0, 122, 0, 0, 0, 0]))
def zs263 : List Sh := zs262 ++ [.inr (0, 60, [])]
def zs264 : List Sh := zs263.set 120 (.inl (0, [0, 0, 122, 123, 0, 0, 0]))
def zs265 : List Sh := zs264 ++ [.inr (0, 60, [])]
def zs266 : List Sh := zs265.set 120 (.inl (0, [0, 0, 122, 123, 124, 0, 0]))
def zs267 : List Sh := zs266 ++ [.inr (0, 60, [])]
def zs268 : List Sh := zs267.set 120 (.inl (0, [0, 0, 122, 123, 124, 125, 0]))
def zs269 : List Sh := zs268 ++ [.inr (0, 24, [])]
def zs270 : List Sh := zs269.set 120 (.inl (0, [0, 0, 122, 123, 124, 125, 126]))
def zq270 : List Sh := [.inl (10, [2, 4, 11, 0, 0, 0, 0, 0, 0, 0, 0, 0, 0, 0, 0, 0, 0, 0]), .inl (9, [3, 0]), .inr (0, 800, []), .inl (5, [5, 0, 0, 0, 0, 0, 0, 0]), .inl (0, [0, 0, 6, 7, 8, 9, 10]), .inr (0, 24, []), .inr (0, 60, []), .inr (0, 60, []), .inr (0, 60, []), .inr (0, 24, []), .inl (0, [0, 0, 12, 13, 14, 15, 16]), .inr (0, 24, []), .inr (0, 60, []), .inr (0, 60, []), .inr (0, 60, []), .inr (0, 24, []), .inl (3, [0, 0, 18]), .inr (4, 20, [19, 25, 31, 37, 43, 49, 55, 61, 67, 73, 79, 85, 91, 97, 103, 109, 115, 0, 0, 0]), .inl (0, [0, 0, 20, 21, 22, 23, 24]), .inr (0, 24, []), .inr (0, 60, []), .inr (0, 60, []), .inr (0, 60, []), .inr (0, 24, []), .inl (0, [0, 0, 26, 27, 28, 29, 30]), .inr (0, 24, []), .inr (0, 60, []), .inr (0, 60, []), .inr (0, 60, []), .inr (0, 24, []), .inl (0, [0, 0, 32, 33, 34, 35, 36]), .inr (0, 24, []), .inr (0, 60, []), .inr (0, 60, []), .inr (0, 60, []), .inr (0, 24, []), .inl (0, [0, 0, 38, 39, 40, 41, 42]), .inr (0, 24, []), .inr (0, 60, []), .inr (0, 60, []), .inr (0, 60, []), .inr (0, 24, []), .inl (0, [0, 0, 44, 45, 46, 47, 48]), .inr (0, 24, []), .inr (0, 60, []), .inr (0, 60, []), .inr (0, 60, []), .inr (0, 24, []), .inl (0, [0, 0, 50, 51, 52, 53, 54]), .inr (0, 24, []), .inr (0, 60, []), .inr (0, 60, []), .inr (0, 60, []), .inr (0, 24, []), .inl (0, [0, 0, 56, 57, 58, 59, 60]), .inr (0, 24, []), .inr (0, 60, []), .inr (0, 60, []), .inr (0, 60, []), .inr (0, 24, []), .inl (0, [0, 0, 62, 63, 64, 65, 66]), .inr (0, 24, []), .inr (0, 60, []), .inr (0, 60, []), .inr (0, 60, []), .inr (0, 24, []), .inl (0, [0, 0, 68, 69, 70, 71, 72]), .inr (0, 24, []), .inr (0, 60, []), .inr (0, 60, []), .inr (0, 60, []), .inr (0, 24, []), .inl (0, [0, 0, 74, 75, 76, 77, 78]), .inr (0, 24, []), .inr (0, 60, []), .inr (0, 60, []), .inr (0, 60, []), .inr (0, 24, []), .inl (0, [0, 0, 80, 81, 82, 83, 84]), .inr (0, 24, []), .inr (0, 60, []), .inr (0, 60, []), .inr (0, 60, []), .inr (0, 24, []), .inl (0, [0, 0, 86, 87, 88, 89, 90]), .inr (0, 24, []), .inr (0, 60, []), .inr (0, 60, []), .inr (0, 60, []), .inr (0, 24, []), .inl (0, [0, 0, 92, 93, 94, 95, 96]), .inr (0, 24, []), .inr (0, 60, []), .inr (0, 60, []), .inr (0, 60, []), .inr (0, 24, []), .inl (0, [0, 0, 98, 99, 100, 101, 102]), .inr (0, 24, []), .inr (0, 60, []), .inr (0, 60, []), .inr (0, 60, []), .inr (0, 24, []), .inl (0, [0, 0, 104, 105, 106, 107, 108]), .inr (0, 24, []), .inr (0, 60, []), .inr (0, 60, []), .inr (0, 60, []), .inr (0, 24, []), .inl (0, [0, 0, 110, 111, 112, 113, 114]), .inr (0, 24, []), .inr (0, 60, []), .inr (0, 60, []), .inr (0, 60, []), .inr (0, 24, []), .inl (0, [0, 0, 116, 117, 118, 119, 120]), .inr (0, 24, []), .inr (0, 60, []), .inr (0, 60, []), .inr (0, 60, []), .inr (0, 24, []), .inl (0, [0, 0, 122, 123, 124, 125, 126]), .inr (0, 24, []), .inr (0, 60, []), .inr (0, 60, []), .inr (0, 60, []), .inr (0, 24, [])]
theorem zX0_init_120 {G : GT} {d : Nat} (hd : 1 ≤ d) {w : VT} {Q : Option Vl → List Sh → VT → Prop} (hv : ini w 121 [(0, 17)]) (hQ : ∀ w, ini w 126 [(0, 17)] → Q none zq270 w) : n_T G d 5 228 mX0_init 0 [vR 120] [] zs260 w Q := by
  refine T_aload_n dX0_init_0 rfl ?_
  refine T_objI dX0_init_1 lX0_3 w_oi w_oc (by omega) (Nat.le_of_ble_eq_true rfl) ?_
  refine T_aload_n dX0_init_4 rfl ?_
  refine T_iconst dX0_init_5 (by decide) ?_
  refine U_putI (rs' := [0, 0, 0, 0, 0, 0, 0]) dX0_init_6 fX0_9 rfl rfl (by decide +kernel) (fun w ew => ?_)
  replace hv := ini_put (E' := [(0, 17)]) hv ew (by decide) (by decide)
  clear ew
  refine T_aload_n dX0_init_9 rfl ?_
  refine T_iconst dX0_init_10 (by decide) ?_
  refine U_putI (rs' := [0, 0, 0, 0, 0, 0, 0]) dX0_init_11 fX0_15 rfl rfl (by decide +kernel) (fun w ew => ?_)
  replace hv := ini_put (E' := [(0, 17)]) hv ew (by decide) (by decide)
  clear ew
  refine T_aload_n dX0_init_14 rfl ?_
  refine T_bipush dX0_init_15 (by decide) ?_
  refine V_newa0 (n := 24) (L := 121) (rc' := 4) (rs' := 204) (sh' := zs261) dX0_init_17 (wsAll_place 173 (by decide +kernel) (by decide +kernel)) (by decide) (by decide +kernel) rfl (by decide) (by decide) (fun w ew => ?_)
  replace hv := ini_new (E' := [(0, 17)]) hv ew (by decide) (by decide)
  clear ew
  refine V_putF (sh' := zs262) (rs' := [0, 0, 0, 0, 0, 0, 0]) dX0_init_19 fX0_18 rfl rfl rfl rfl (by decide +kernel) rfl (by decide +kernel) ?_
  refine T_aload_n dX0_init_22 rfl ?_
  refine T_bipush dX0_init_23 (by decide) ?_
  refine V_newa0 (n := 60) (L := 122) (rc' := 3) (rs' := 144) (sh' := zs263) dX0_init_25 (wsAll_place 173 (by decide +kernel) (by decide +kernel)) (by decide) (by decide +kernel) rfl (by decide) (by decide) (fun w ew => ?_)
  replace hv := ini_new (E' := [(0, 17)]) hv ew (by decide) (by decide)
  clear ew
  refine V_putF (sh' := zs264) (rs' := [0, 0, 122, 0, 0, 0, 0]) dX0_init_27 fX0_22 rfl rfl rfl rfl (by decide +kernel) rfl (by decide +kernel) ?_
  refine T_aload_n dX0_init_30 rfl ?_
  refine T_bipush dX0_init_31 (by decide) ?_
  refine V_newa0 (n := 60) (L := 123) (rc' := 2) (rs' := 84) (sh' := zs265) dX0_init_33 (wsAll_place 173 (by decide +kernel) (by decide +kernel)) (by decide) (by decide +kernel) rfl (by decide) (by decide) (fun w ew => ?_)
  replace hv := ini_new (E' := [(0, 17)]) hv ew (by decide) (by decide)
  clear ew
  refine V_putF (sh' := zs266) (rs' := [0, 0, 122, 123, 0, 0, 0]) dX0_init_35 fX0_25 rfl rfl rfl rfl (by decide +kernel) rfl (by decide +kernel) ?_
  refine T_aload_n dX0_init_38 rfl ?_
  refine T_bipush dX0_init_39 (by decide) ?_
  refine V_newa0 (n := 60) (L := 124) (rc' := 1) (rs' := 24) (sh' := zs267) dX0_init_41 (wsAll_place 173 (by decide +kernel) (by decide +kernel)) (by decide) (by decide +kernel) rfl (by decide) (by decide) (fun w ew => ?_)
  replace hv := ini_new (E' := [(0, 17)]) hv ew (by decide) (by decide)
  clear ew
  refine V_putF (sh' := zs268) (rs' := [0, 0, 122, 123, 124, 0, 0]) dX0_init_43 fX0_28 rfl rfl rfl rfl (by decide +kernel) rfl (by decide +kernel) ?_
  refine T_aload_n dX0_init_46 rfl ?_
  refine T_bipush dX0_init_47 (by decide) ?_
  refine V_newa0 (n := 24) (L := 125) (rc' := 0) (rs' := 0) (sh' := zs269) dX0_init_49 (wsAll_place 173 (by decide +kernel) (by decide +kernel)) (by decide) (by decide +kernel) rfl (by decide) (by decide) (fun w ew => ?_)
  replace hv := ini_new (E' := [(0, 17)]) hv ew (by decide) (by decide)
  clear ew
  refine V_putF (sh' := zs270) (rs' := [0, 0, 122, 123, 124, 125, 0]) dX0_init_51 fX0_31 rfl rfl rfl rfl (by decide +kernel) rfl (by decide +kernel) ?_
  have ez : zs270 = zq270 := by decide +kernel
  rw [ez]
  exact T_vret dX0_init_54 rfl (hQ _ hv)
def zs272 : List Sh := zq270.set 17 (.inr (4, 20, [19, 25, 31, 37, 43, 49, 55, 61, 67, 73, 79, 85, 91, 97, 103, 109, 115, 121, 0, 0]))
def zs273 : List Sh := zs272 ++ [.inl (0, [0, 0, 0, 0, 0, 0, 0])]
def zs274 : List Sh := zs273 ++ [.inr (0, 24, [])]
def zs275 : List Sh := zs274.set 126 (.inl (0, [0, 0, 128, 0, 0, 0, 0]))
def zs276 : List Sh := zs275 ++ [.inr (0, 60, [])]
def zs277 : List Sh := zs276.set 126 (.inl (0, [0, 0, 128, 129, 0, 0, 0]))
def zs278 : List Sh := zs277 ++ [.inr (0, 60, [])]
def zs279 : List Sh := zs278.set 126 (.inl (0, [0, 0, 128, 129, 130, 0, 0]))
def zs280 : List Sh := zs279 ++ [.inr (0, 60, [])]
def zs281 : List Sh := zs280.set 126 (.inl (0, [0, 0, 128, 129, 130, 131, 0]))
def zs282 : List Sh := zs281 ++ [.inr (0, 24, [])]
def zs283 : List Sh := zs282.set 126 (.inl (0, [0, 0, 128, 129, 130, 131, 132]))
def zq283 : List Sh := [.inl (10, [2, 4, 11, 0, 0, 0, 0, 0, 0, 0, 0, 0, 0, 0, 0, 0, 0, 0]), .inl (9, [3, 0]), .inr (0, 800, []), .inl (5, [5, 0, 0, 0, 0, 0, 0, 0]), .inl (0, [0, 0, 6, 7, 8, 9, 10]), .inr (0, 24, []), .inr (0, 60, []), .inr (0, 60, []), .inr (0, 60, []), .inr (0, 24, []), .inl (0, [0, 0, 12, 13, 14, 15, 16]), .inr (0, 24, []), .inr (0, 60, []), .inr (0, 60, []), .inr (0, 60, []), .inr (0, 24, []), .inl (3, [0, 0, 18]), .inr (4, 20, [19, 25, 31, 37, 43, 49, 55, 61, 67, 73, 79, 85, 91, 97, 103, 109, 115, 121, 0, 0]), .inl (0, [0, 0, 20, 21, 22, 23, 24]), .inr (0, 24, []), .inr (0, 60, []), .inr (0, 60, []), .inr (0, 60, []), .inr (0, 24, []), .inl (0, [0, 0, 26, 27, 28, 29, 30]), .inr (0, 24, []), .inr (0, 60, []), .inr (0, 60, []), .inr (0, 60, []), .inr (0, 24, []), .inl (0, [0, 0, 32, 33, 34, 35, 36]), .inr (0, 24, []), .inr (0, 60, []), .inr (0, 60, []), .inr (0, 60, []), .inr (0, 24, []), .inl (0, [0, 0, 38, 39, 40, 41, 42]), .inr (0, 24, []), .inr (0, 60, []), .inr (0, 60, []), .inr (0, 60, []), .inr (0, 24, []), .inl (0, [0, 0, 44, 45, 46, 47, 48]), .inr (0, 24, []), .inr (0, 60, []), .inr (0, 60, []), .inr (0, 60, []), .inr (0, 24, []), .inl (0, [0, 0, 50, 51, 52, 53, 54]), .inr (0, 24, []), .inr (0, 60, []), .inr (0, 60, []), .inr (0, 60, []), .inr (0, 24, []), .inl (0, [0, 0, 56, 57, 58, 59, 60]), .inr (0, 24, []), .inr (0, 60, []), .inr (0, 60, []), .inr (0, 60, []), .inr (0, 24, []), .inl (0, [0, 0, 62, 63, 64, 65, 66]), .inr (0, 24, []), .inr (0, 60, []), .inr (0, 60, []), .inr (0, 60, []), .inr (0, 24, []), .inl (0, [0, 0, 68, 69, 70, 71, 72]), .inr (0, 24, []), .inr (0, 60, []), .inr (0, 60, []), .inr (0, 60, []), .inr (0, 24, []), .inl (0, [0, 0, 74, 75, 76, 77, 78]), .inr (0, 24, []), .inr (0, 60, []), .inr (0, 60, []), .inr (0, 60, []), .inr (0, 24, []), .inl (0, [0, 0, 80, 81, 82, 83, 84]), .inr (0, 24, []), .inr (0, 60, []), .inr (0, 60, []), .inr (0, 60, []), .inr (0, 24, []), .inl (0, [0, 0, 86, 87, 88, 89, 90]), .inr (0, 24, []), .inr (0, 60, []), .inr (0, 60, []), .inr (0, 60, []), .inr (0, 24, []), .inl (0, [0, 0, 92, 93, 94, 95, 96]), .inr (0, 24, []), .inr (0, 60, []), .inr (0, 60, []), .inr (0, 60, []), .inr (0, 24, []), .inl (0, [0, 0, 98, 99, 100, 101, 102]), .inr (0, 24, []), .inr (0, 60, []), .inr (0, 60, []), .inr (0, 60, []), .inr (0, 24, []), .inl (0, [0, 0, 104, 105, 106, 107, 108]), .inr (0, 24, []), .inr (0, 60, []), .inr (0, 60, []), .inr (0, 60, []), .inr (0, 24, []), .inl (0, [0, 0, 110, 111, 112, 113, 114]), .inr (0, 24, []), .inr (0, 60, []), .inr (0, 60, []), .inr (0, 60, []), .inr (0, 24, []), .inl (0, [0, 0, 116, 117, 118, 119, 120]), .inr (0, 24, []), .inr (0, 60, []), .inr (0, 60, []), .inr (0, 60, []), .inr (0, 24, []), .inl (0, [0, 0, 122, 123, 124, 125, 126]), .inr (0, 24, []), .inr (0, 60, []), .inr (0, 60, []), .inr (0, 60, []), .inr (0, 24, []), .inl (0, [0, 0, 128, 129, 130, 131, 132]), .inr (0, 24, []), .inr (0, 60, []), .inr (0, 60, []), .inr (0, 60, []), .inr (0, 24, [])]
theorem zX0_init_126 {G : GT} {d : Nat} (hd : 1 ≤ d) {w : VT} {Q : Option Vl → List Sh → VT → Prop} (hv : ini w 127 [(0, 17)]) (hQ : ∀ w, ini w 132 [(0, 17)] → Q none zq283 w) : n_T G d 5 228 mX0_init 0 [vR 126] [] zs273 w Q := by
  refine T_aload_n dX0_init_0 rfl ?_
  refine T_objI dX0_init_1 lX0_3 w_oi w_oc (by omega) (Nat.le_of_ble_eq_true rfl) ?_
  refine T_aload_n dX0_init_4 rfl ?_
  refine T_iconst dX0_init_5 (by decide) ?_
  refine U_putI (rs' := [0, 0, 0, 0, 0, 0, 0]) dX0_init_6 fX0_9 rfl rfl (by decide +kernel) (fun w ew => ?_)
  replace hv := ini_put (E' := [(0, 17)]) hv ew (by decide) (by decide)
  clear ew
  refine T_aload_n dX0_init_9 rfl ?_
  refine T_iconst dX0_init_10 (by decide) ?_
  refine U_putI (rs' := [0, 0, 0, 0, 0, 0, 0]) dX0_init_11 fX0_15 rfl rfl (by decide +kernel) (fun w ew => ?_)
  replace hv := ini_put (E' := [(0, 17)]) hv ew (by decide) (by decide)
  clear ew
  refine T_aload_n dX0_init_14 rfl ?_
  refine T_bipush dX0_init_15 (by decide) ?_
  refine V_newa0 (n := 24) (L := 127) (rc' := 4) (rs' := 204) (sh' := zs274) dX0_init_17 (wsAll_place 173 (by decide +kernel) (by decide +kernel)) (by decide) (by decide +kernel) rfl (by decide) (by decide) (fun w ew => ?_)
  replace hv := ini_new (E' := [(0, 17)]) hv ew (by decide) (by decide)
  clear ew
  refine V_putF (sh' := zs275) (rs' := [0, 0, 0, 0, 0, 0, 0]) dX0_init_19 fX0_18 rfl rfl rfl rfl (by decide +kernel) rfl (by decide +kernel) ?_
  refine T_aload_n dX0_init_22 rfl ?_
  refine T_bipush dX0_init_23 (by decide) ?_
  refine V_newa0 (n := 60) (L := 128) (rc' := 3) (rs' := 144) (sh' := zs276) dX0_init_25 (wsAll_place 173 (by decide +kernel) (by decide +kernel)) (by decide) (by decide +kernel) rfl (by decide) (by decide) (fun w ew => ?_)
  replace hv := ini_new (E' := [(0, 17)]) hv ew (by decide) (by decide)
  clear ew
  refine V_putF (sh' := zs277) (rs' := [0, 0, 128, 0, 0, 0, 0]) dX0_init_27 fX0_22 rfl rfl rfl rfl (by decide +kernel) rfl (by decide +kernel) ?_
  refine T_aload_n dX0_init_30 rfl ?_
  refine T_bipush dX0_init_31 (by decide) ?_
  refine V_newa0 (n := 60) (L := 129) (rc' := 2) (rs' := 84) (sh' := zs278) dX0_init_33 (wsAll_place 173 (by decide +kernel) (by decide +kernel)) (by decide) (by decide +kernel) rfl (by decide) (by decide) (fun w ew => ?_)
  replace hv := ini_new (E' := [(0, 17)]) hv ew (by decide) (by decide)
  clear ew
  refine V_putF (sh' := zs279) (rs' := [0, 0, 128, 129, 0, 0, 0]) dX0_init_35 fX0_25 rfl rfl rfl rfl (by decide +kernel) rfl (by decide +kernel) ?_
  refine T_aload_n dX0_init_38 rfl ?_
  refine T_bipush dX0_init_39 (by decide) ?_
  refine V_newa0 (n := 60) (L := 130) (rc' := 1) (rs' := 24) (sh' := zs280) dX0_init_41 (wsAll_place 173 (by decide +kernel) (by decide +kernel)) (by decide) (by decide +kernel) rfl (by decide) (by decide) (fun w ew => ?_)
  replace hv := ini_new (E' := [(0, 17)]) hv ew (by decide) (by decide)
  clear ew
  refine V_putF (sh' := zs281) (rs' := [0, 0, 128, 129, 130, 0, 0]) dX0_init_43 fX0_28 rfl rfl rfl rfl (by decide +kernel) rfl (by decide +kernel) ?_
  refine T_aload_n dX0_init_46 rfl ?_
  refine T_bipush dX0_init_47 (by decide) ?_
  refine V_newa0 (n := 24) (L := 131) (rc' := 0) (rs' := 0) (sh' := zs282) dX0_init_49 (wsAll_place 173 (by decide +kernel) (by decide +kernel)) (by decide) (by decide +kernel) rfl (by decide) (by decide) (fun w ew => ?_)
  replace hv := ini_new (E' := [(0, 17)]) hv ew (by decide) (by decide)
  clear ew
  refine V_putF (sh' := zs283) (rs' := [0, 0, 128, 129, 130, 131, 0]) dX0_init_51 fX0_31 rfl rfl rfl rfl (by decide +kernel) rfl (by decide +kernel) ?_
  have ez : zs283 = zq283 := by decide +kernel
  rw [ez]
  exact T_vret dX0_init_54 rfl (hQ _ hv)
def zs285 : List Sh := zq283.set 17 (.inr (4, 20, [19, 25, 31, 37, 43, 49, 55, 61, 67, 73, 79, 85, 91, 97, 103, 109, 115, 121, 127, 0]))
def zs286 : List Sh := zs285 ++ [.inl (0, [0, 0, 0, 0, 0, 0, 0])]
def zs287 : List Sh := zs286 ++ [.inr (0, 24, [])]
def zs288 : List Sh := zs287.set 132 (.inl (0, [0, 0, 134, 0, 0, 0, 0]))
def zs289 : List Sh := zs288 ++ [.inr (0, 60, [])]
def zs290 : List Sh := zs289.set 132 (.inl (0, [0, 0, 134, 135, 0, 0, 0]))
def zs291 : List Sh := zs290 ++ [.inr (0, 60, [])]
def zs292 : List Sh := zs291.set 132 (.inl (0, [0, 0, 134, 135, 136, 0, 0]))
def zs293 : List Sh := zs292 ++ [.inr (0, 60, [])]
def zs294 : List Sh := zs293.set 132 (.inl (0, [0, 0, 134, 135, 136, 137, 0]))
def zs295 : List Sh := zs294 ++ [.inr (0, 24, [])]
def zs296 : List Sh := zs295.set 132 (.inl (0, [0, 0, 134, 135, 136, 137, 138]))
def zq296 : List Sh := [.inl (10, [2, 4, 11, 0, 0, 0, 0, 0, 0, 0, 0, 0, 0, 0, 0, 0, 0, 0]), .inl (9, [3, 0]), .inr (0, 800, []), .inl (5, [5, 0, 0, 0, 0, 0, 0, 0]), .inl (0, [0, 0, 6, 7, 8, 9, 10]), .inr (0, 24, []), .inr (0, 60, []), .inr (0, 60, []), .inr (0, 60, []), .inr (0, 24, []), .inl (0, [0, 0, 12, 13, 14, 15, 16]), .inr (0, 24, []), .inr (0, 60, []), .inr (0, 60, []), .inr (0, 60, []), .inr (0, 24, []), .inl (3, [0, 0, 18]), .inr (4, 20, [19, 25, 31, 37, 43, 49, 55, 61, 67, 73, 79, 85, 91, 97, 103, 109, 115, 121, 127, 0]), .inl (0, [0, 0, 20, 21, 22, 23, 24]), .inr (0, 24, []), .inr (0, 60, []), .inr (0, 60, []), .inr (0, 60, []), .inr (0, 24, []), .inl (0, [0, 0, 26, 27, 28, 29, 30]), .inr (0, 24, []), .inr (0, 60, []), .inr (0, 60, []), .inr (0, 60, []), .inr (0, 24, []), .inl (0, [0, 0, 32, 33, 34, 35, 36]), .inr (0, 24, []), .inr (0, 60, []), .inr (0, 60, []), .inr (0, 60, []), .inr (0, 24, []), .inl (0, [0, 0, 38, 39, 40, 41, 42]), .inr (0, 24, []), .inr (0, 60, []), .inr (0, 60, []), .inr (0, 60, []), .inr (0, 24, []), .inl (0, [0, 0, 44, 45, 46, 47, 48]), .inr (0, 24, []), .inr (0, 60, []), .inr (0, 60, []), .inr (0, 60, []), .inr (0, 24, []), .inl (0, [0, 0, 50, 51, 52, 53, 54]), .inr (0, 24, []), .inr (0, 60, []), .inr (0, 60, []), .inr (0, 60, []), .inr (0, 24, []), .inl (0, [0, 0, 56, 57, 58, 59, 60]), .inr (0, 24, []), .inr (0, 60, []), .inr (0, 60, []), .inr (0, 60, []), .inr (0, 24, []), .inl (0, [0, 0, 62, 63, 64, 65, 66]), .inr (0, 24, []), .inr (0, 60, []), .inr (0, 60, []), .inr (0, 60, []), .inr (0, 24, []), .inl (0, [0, 0, 68, 69, 70, 71, 72]), .inr (0, 24, []), .inr (0, 60, []), .inr (0, 60, []), .inr (0, 60, []), .inr (0, 24, []), .inl (0, [0, 0, 74, 75, 76, 77, 78]), .inr (0, 24, []), .inr (0, 60, []), .inr (0, 60, []), .inr (0, 60, []), .inr (0, 24, []), .inl (0, [0, 0, 80, 81, 82, 83, 84]), .inr (0, 24, []), .inr (0, 60, []), .inr (0, 60, []), .inr (0, 60, []), .inr (0, 24, []), .inl (0, [0, 0, 86, 87, 88, 89, 90]), .inr (0, 24, []), .inr (0, 60, []), .inr (0, 60, []), .inr (0, 60, []), .inr (0, 24, []), .inl (0, [0, 0, 92, 93, 94, 95, 96]), .inr (0, 24, []), .inr (0, 60, []), .inr (0, 60, []), .inr (0, 60, []), .inr (0, 24, []), .inl (0, [0, 0, 98, 99, 100, 101, 102]), .inr (0, 24, []), .inr (0, 60, []), .inr (0, 60, []), .inr (0, 60, []), .inr (0, 24, []), .inl (0, [0, 0, 104, 105, 106, 107, 108]), .inr (0, 24, []), .inr (0, 60, []), .inr (0, 60, []), .inr (0, 60, []), .inr (0, 24, []), .inl (0, [0, 0, 110, 111, 112, 113, 114]), .inr (0, 24, []), .inr (0, 60, []), .inr (0, 60, []), .inr (0, 60, []), .inr (0, 24, []), .inl (0, [0, 0, 116, 117, 118, 119, 120]), .inr (0, 24, []), .inr (0, 60, []), .inr (0, 60, []), .inr (0, 60, []), .inr (0, 24, []), .inl (0, [0, 0, 122, 123, 124, 125, 126]), .inr (0, 24, []), .inr (0, 60, []), .inr (0, 60, []), .inr (0, 60, []), .inr (0, 24, []), .inl (0, [0, 0, 128, 129, 130, 131, 132]), .inr (0, 24, []), .inr (0, 60, []), .inr (0, 60, []), .inr (0, 60, []), .inr (0, 24, []), .inl (0, [0, 0, 134, 135, 136, 137, 138]), .inr (0, 24, []), .inr (0, 60, []), .inr (0, 60, []), .inr (0, 60, []), .inr (0, 24, [])]
theorem zX0_init_132 {G : GT} {d : Nat} (hd : 1 ≤ d) {w : VT} {Q : Option Vl → List Sh → VT → Prop} (hv : ini w 133 [(0, 17)]) (hQ : ∀ w, ini w 138 [(0, 17)] → Q none zq296 w) : n_T G d 5 228 mX0_init 0 [vR 132] [] zs286 w Q := by
  refine T_aload_n dX0_init_0 rfl ?_
  refine T_objI dX0_init_1 lX0_3 w_oi w_oc (by omega) (Nat.le_of_ble_eq_true rfl) ?_
  refine T_aload_n dX0_init_4 rfl ?_
  refine T_iconst dX0_init_5 (by decide) ?_
  refine U_putI (rs' := [0, 0, 0, 0, 0, 0, 0]) dX0_init_6 fX0_9 rfl rfl (by decide +kernel) (fun w ew => ?_)
  replace hv := ini_put (E' := [(0, 17)]) hv ew (by decide) (by decide)
  clear ew
  refine T_aload_n dX0_init_9 rfl ?_
  refine T_iconst dX0_init_10 (by decide) ?_
  refine U_putI (rs' := [0, 0, 0, 0, 0, 0, 0]) dX0_init_11 fX0_15 rfl rfl (by decide +kernel) (fun w ew => ?_)
  replace hv := ini_put (E' := [(0, 17)]) hv ew (by decide) (by decide)
  clear ew
  refine T_aload_n dX0_init_14 rfl ?_
  refine T_bipush dX0_init_15 (by decide) ?_
  refine V_newa0 (n := 24) (L := 133) (rc' := 4) (rs' := 204) (sh' := zs287) dX0_init_17 (wsAll_place 173 (by decide +kernel) (by decide +kernel)) (by decide) (by decide +kernel) rfl (by decide) (by decide) (fun w ew => ?_)
  replace hv := ini_new (E' := [(0, 17)]) hv ew (by decide) (by decide)
  clear ew
  refine V_putF (sh' := zs288) (rs' := [0, 0, 0, 0, 0, 0, 0]) dX0_init_19 fX0_18 rfl rfl rfl rfl (by decide +kernel) rfl (by decide +kernel) ?_
  refine T_aload_n dX0_init_22 rfl ?_
  refine T_bipush dX0_init_23 (by decide) ?_
  refine V_newa0 (n := 60) (L := 134) (rc' := 3) (rs' := 144) (sh' := zs289) dX0_init_25 (wsAll_place 173 (by decide +kernel) (by decide +kernel)) (by decide) (by decide +kernel) rfl (by decide) (by decide) (fun w ew => ?_)
  replace hv := ini_new (E' := [(0, 17)]) hv ew (by decide) (by decide)
  clear ew
  refine V_putF (sh' := zs290) (rs' := [0, 0, 134, 0, 0, 0, 0]) dX0_init_27 fX0_22 rfl rfl rfl rfl (by decide +kernel) rfl (by decide +kernel) ?_
  refine T_aload_n dX0_init_30 rfl ?_
  refine T_bipush dX0_init_31 (by decide) ?_
  refine V_newa0 (n := 60) (L := 135) (rc' := 2) (rs' := 84) (sh' := zs291) dX0_init_33 (wsAll_place 173 (by decide +kernel) (by decide +kernel)) (by decide) (by decide +kernel) rfl (by decide) (by decide) (fun w ew => ?_)
  replace hv := ini_new (E' := [(0, 17)]) hv ew (by decide) (by decide)
  clear ew
  refine V_putF (sh' := zs292) (rs' := [0, 0, 134, 135, 0, 0, 0]) dX0_init_35 fX0_25 rfl rfl rfl rfl (by decide +kernel) rfl (by decide +kernel) ?_
  refine T_aload_n dX0_init_38 rfl ?_
  refine T_bipush dX0_init_39 (by decide) ?_
  refine V_newa0 (n := 60) (L := 136) (rc' := 1) (rs' := 24) (sh' := zs293) dX0_init_41 (wsAll_place 173 (by decide +kernel) (by decide +kernel)) (by decide) (by decide +kernel) rfl (by decide) (by decide) (fun w ew => ?_)
  replace hv := ini_new (E' := [(0, 17)]) hv ew (by decide) (by decide)
  clear ew
  refine V_putF (sh' := zs294) (rs' := [0, 0, 134, 135, 136, 0, 0]) dX0_init_43 fX0_28 rfl rfl rfl rfl (by decide +kernel) rfl (by decide +kernel) ?_
  refine T_aload_n dX0_init_46 rfl ?_
  refine T_bipush dX0_init_47 (by decide) ?_
  refine V_newa0 (n := 24) (L := 137) (rc' := 0) (rs' := 0) (sh' := zs295) dX0_init_49 (wsAll_place 173 (by decide +kernel) (by decide +kernel)) (by decide) (by decide +kernel) rfl (by decide) (by decide) (fun w ew => ?_)
  replace hv := ini_new (E' := [(0, 17)]) hv ew (by decide) (by decide)
  clear ew
  refine V_putF (sh' := zs296) (rs' := [0, 0, 134, 135, 136, 137, 0]) dX0_init_51 fX0_31 rfl rfl rfl rfl (by decide +kernel) rfl (by decide +kernel) ?_
  have ez : zs296 = zq296 := by decide +kernel
  rw [ez]
  exact T_vret dX0_init_54 rfl (hQ _ hv)
def zs298 : List Sh := zq296.set 17 (.inr (4, 20, [19, 25, 31, 37, 43, 49, 55, 61, 67, 73, 79, 85, 91, 97, 103, 109, 115, 121, 127, 133]))
def zq298 : List Sh := [.inl (10, [2, 4, 11, 0, 0, 0, 0, 0, 0, 0, 0, 0, 0, 0, 0, 0, 0, 0]), .inl (9, [3, 0]), .inr (0, 800, []), .inl (5, [5, 0, 0, 0, 0, 0, 0, 0]), .inl (0, [0, 0, 6, 7, 8, 9, 10]), .inr (0, 24, []), .inr (0, 60, []), .inr (0, 60, []), .inr (0, 60, []), .inr (0, 24, []), .inl (0, [0, 0, 12, 13, 14, 15, 16]), .inr (0, 24, []), .inr (0, 60, []), .inr (0, 60, []), .inr (0, 60, []), .inr (0, 24, []), .inl (3, [0, 0, 18]), .inr (4, 20, [19, 25, 31, 37, 43, 49, 55, 61, 67, 73, 79, 85, 91, 97, 103, 109, 115, 121, 127, 133]), .inl (0, [0, 0, 20, 21, 22, 23, 24]), .inr (0, 24, []), .inr (0, 60, []), .inr (0, 60, []), .inr (0, 60, []), .inr (0, 24, []), .inl (0, [0, 0, 26, 27, 28, 29, 30]), .inr (0, 24, []), .inr (0, 60, []), .inr (0, 60, []), .inr (0, 60, []), .inr (0, 24, []), .inl (0, [0, 0, 32, 33, 34, 35, 36]), .inr (0, 24, []), .inr (0, 60, []), .inr (0, 60, []), .inr (0, 60, []), .inr (0, 24, []), .inl (0, [0, 0, 38, 39, 40, 41, 42]), .inr (0, 24, []), .inr (0, 60, []), .inr (0, 60, []), .inr (0, 60, []), .inr (0, 24, []), .inl (0, [0, 0, 44, 45, 46, 47, 48]), .inr (0, 24, []), .inr (0, 60, []), .inr (0, 60, []), .inr (0, 60, []), .inr (0, 24, []), .inl (0, [0, 0, 50, 51, 52, 53, 54]), .inr (0, 24, []), .inr (0, 60, []), .inr (0, 60, []), .inr (0, 60, []), .inr (0, 24, []), .inl (0, [0, 0, 56, 57, 58, 59, 60]), .inr (0, 24, []), .inr (0, 60, []), .inr (0, 60, []), .inr (0, 60, []), .inr (0, 24, []), .inl (0, [0, 0, 62, 63, 64, 65, 66]), .inr (0, 24, []), .inr (0, 60, []), .inr (0, 60, []), .inr (0, 60, []), .inr (0, 24, []), .inl (0, [0, 0, 68, 69, 70, 71, 72]), .inr (0, 24, []), .inr (0, 60, []), .inr (0, 60, []), .inr (0, 60, []), .inr (0, 24, []), .inl (0, [0, 0, 74, 75, 76, 77, 78]), .inr (0, 24, []), .inr (0, 60, []), .inr (0, 60, []), .inr (0, 60, []), .inr (0, 24, []), .inl (0, [0, 0, 80, 81, 82, 83, 84]), .inr (0, 24, []), .inr (0, 60, []), .inr (0, 60, []), .inr (0, 60, []), .inr (0, 24, []), .inl (0, [0, 0, 86, 87, 88, 89, 90]), .inr (0, 24, []), .inr (0, 60, []), .inr (0, 60, []), .inr (0, 60, []), .inr (0, 24, []), .inl (0, [0, 0, 92, 93, 94, 95, 96]), .inr (0, 24, []), .inr (0, 60, []), .inr (0, 60, []), .inr (0, 60, []), .inr (0, 24, []), .inl (0, [0, 0, 98, 99, 100, 101, 102]), .inr (0, 24, []), .inr (0, 60, []), .inr (0, 60, []), .inr (0, 60, []), .inr (0, 24, []), .inl (0, [0, 0, 104, 105, 106, 107, 108]), .inr (0, 24, []), .inr (0, 60, []), .inr (0, 60, []), .inr (0, 60, []), .inr (0, 24, []), .inl (0, [0, 0, 110, 111, 112, 113, 114]), .inr (0, 24, []), .inr (0, 60, []), .inr (0, 60, []), .inr (0, 60, []), .inr (0, 24, []), .inl (0, [0, 0, 116, 117, 118, 119, 120]), .inr (0, 24, []), .inr (0, 60, []), .inr (0, 60, []), .inr (0, 60, []), .inr (0, 24, []), .inl (0, [0, 0, 122, 123, 124, 125, 126]), .inr (0, 24, []), .inr (0, 60, []), .inr (0, 60, []), .inr (0, 60, []), .inr (0, 24, []), .inl (0, [0, 0, 128, 129, 130, 131, 132]), .inr (0, 24, []), .inr (0, 60, []), .inr (0, 60, []), .inr (0, 60, []), .inr (0, 24, []), .inl (0, [0, 0, 134, 135, 136, 137, 138]), .inr (0, 24, []), .inr (0, 60, []), .inr (0, 60, []), .inr (0, 60, []), .inr (0, 24, [])]
theorem zX3_init_16 {G : GT} {d : Nat} (hd : 2 ≤ d) {w : VT} {Q : Option Vl → List Sh → VT → Prop} (hv : ini w 17 [(0, 17)]) (hQ : ∀ w, ini w 138 [(0, 17)] → Q none zq298 w) : n_T G d 121 4720 mX3_init 0 [vR 16, vS 9] [] zs36 w Q := by
  refine T_aload_n dX3_init_0 rfl ?_
  refine T_objI dX3_init_1 lX3_3 w_oi w_oc (by omega) (Nat.le_of_ble_eq_true rfl) ?_
  refine T_aload_n dX3_init_4 rfl ?_
  refine T_iconst dX3_init_5 (by decide) ?_
  refine U_putI (rs' := [0, 0, 0]) dX3_init_6 fX3_9 rfl rfl (by decide +kernel) (fun w ew => ?_)
  replace hv := ini_put (E' := [(0, 17)]) hv ew (by decide) (by decide)
  clear ew
  refine T_aload_n dX3_init_9 rfl ?_
  refine T_iconst dX3_init_10 (by decide) ?_
  refine U_putI (rs' := [0, 0, 0]) dX3_init_11 fX3_15 rfl rfl (by decide +kernel) (fun w ew => ?_)
  replace hv := ini_put (E' := [(0, 17)]) hv ew (by decide) (by decide)
  clear ew
  refine T_aload_n dX3_init_14 rfl ?_
  refine T_bipush dX3_init_15 (by decide) ?_
  refine V_anew (n := 20) (L := 17) (rc' := 120) (rs' := 4700) (sh' := zs37) dX3_init_17 (wsAll_place 274 (by decide +kernel) (by decide +kernel)) (by decide) (by decide +kernel) (by decide +kernel) (by decide) (by decide) (fun w ew => ?_)
  replace hv := ini_new (E' := [(0, 17)]) hv ew (by decide) (by decide)
  clear ew
  refine V_putF (sh' := zs38) (rs' := [0, 0, 0]) dX3_init_20 fX3_20 rfl rfl rfl rfl (by decide +kernel) rfl (by decide +kernel) ?_
  refine T_iconst dX3_init_23 (by decide) ?_
  refine T_istore_n dX3_init_24 (by decide) rfl ?_
  refine T_iload_n dX3_init_25 rfl ?_
  refine T_bipush dX3_init_26 (by decide) ?_
  refine U_icmp_ge (tgt := 50) dX3_init_28 (by decide) (fun hc => absurd hc (by decide)) (fun _ => ?_)
  refine T_aload_n dX3_init_31 rfl ?_
  refine T_getR (r := 17) (rs' := [0, 0, 18]) dX3_init_32 fX3_20 rfl (by decide +kernel) rfl ?_
  refine T_iload_n dX3_init_35 rfl ?_
  refine V_new (L := 18) (rc' := 119) (rs' := 4693) (sh' := zs39) dX3_init_36 cok0 okty0 (wsAll_place 274 (by decide +kernel) (by decide +kernel)) (wsAll_place 181 (by decide +kernel) (by decide +kernel)) (wsAll_place 131 (by decide +kernel) (by decide +kernel)) (by decide +kernel) (by decide +kernel) (by decide) (by decide) (fun w ew => ?_)
  replace hv := ini_new (E' := [(0, 17)]) hv ew (by decide) (by decide)
  clear ew
  refine T_dup dX3_init_39 rfl ?_
  refine V_callI (rc1 := 5) (rs1 := 228) (rc2 := 114) (rs2 := 4465) dX3_init_40 kX0_init lX3_24 (by decide) (Nat.le_of_ble_eq_true rfl) (by omega) (by decide) (by decide) ?_
  refine zX0_init_18 (by omega) hv (fun w hv => ?_)
  show n_T G d 114 4465 mX3_init 43 [vR 16, vI 0] [vR 18, vI 0, vR 17] zq49 w Q
  refine V_aast (sh' := zs51) (n := 20) (r := [0, 0, 0, 0, 0, 0, 0, 0, 0, 0, 0, 0, 0, 0, 0, 0, 0, 0, 0, 0]) (rs' := [0, 0, 20, 21, 22, 23, 24]) dX3_init_43 (by decide +kernel) rfl (by decide) (by decide +kernel) (by decide +kernel) ?_
  refine U_iinc dX3_init_44 rfl (by decide) rfl (by decide) ?_
  show n_T G d 114 4465 mX3_init 47 [vR 16, vI 1] [] zs51 w Q
  refine T_goto (tgt := 25) dX3_init_47 (by decide) ?_
  refine T_iload_n dX3_init_25 rfl ?_
  refine T_bipush dX3_init_26 (by decide) ?_
  refine U_icmp_ge (tgt := 50) dX3_init_28 (by decide) (fun hc => absurd hc (by decide)) (fun _ => ?_)
  refine T_aload_n dX3_init_31 rfl ?_
  refine T_getR (r := 17) (rs' := [0, 0, 18]) dX3_init_32 fX3_20 rfl (by decide +kernel) rfl ?_
  refine T_iload_n dX3_init_35 rfl ?_
  refine V_new (L := 24) (rc' := 113) (rs' := 4458) (sh' := zs52) dX3_init_36 cok0 okty0 (wsAll_place 274 (by decide +kernel) (by decide +kernel)) (wsAll_place 181 (by decide +kernel) (by decide +kernel)) (wsAll_place 131 (by decide +kernel) (by decide +kernel)) (by decide +kernel) (by decide +kernel) (by decide) (by decide) (fun w ew => ?_)
  replace hv := ini_new (E' := [(0, 17)]) hv ew (by decide) (by decide)
  clear ew
  refine T_dup dX3_init_39 rfl ?_
  refine V_callI (rc1 := 5) (rs1 := 228) (rc2 := 108) (rs2 := 4230) dX3_init_40 kX0_init lX3_24 (by decide) (Nat.le_of_ble_eq_true rfl) (by omega) (by decide) (by decide) ?_
  refine zX0_init_24 (by omega) hv (fun w hv => ?_)
  show n_T G d 108 4230 mX3_init 43 [vR 16, vI 1] [vR 24, vI 1, vR 17] zq62 w Q
  refine V_aast (sh' := zs64) (n := 20) (r := [19, 0, 0, 0, 0, 0, 0, 0, 0, 0, 0, 0, 0, 0, 0, 0, 0, 0, 0, 0]) (rs' := [0, 0, 26, 27, 28, 29, 30]) dX3_init_43 (by decide +kernel) rfl (by decide) (by decide +kernel) (by decide +kernel) ?_
  refine U_iinc dX3_init_44 rfl (by decide) rfl (by decide) ?_
  show n_T G d 108 4230 mX3_init 47 [vR 16, vI 2] [] zs64 w Q
  refine T_goto (tgt := 25) dX3_init_47 (by decide) ?_
  refine T_iload_n dX3_init_25 rfl ?_
  refine T_bipush dX3_init_26 (by decide) ?_
  refine U_icmp_ge (tgt := 50) dX3_init_28 (by decide) (fun hc => absurd hc (by decide)) (fun _ => ?_)
  refine T_aload_n dX3_init_31 rfl ?_
  refine T_getR (r := 17) (rs' := [0, 0, 18]) dX3_init_32 fX3_20 rfl (by decide +kernel) rfl ?_
  refine T_iload_n dX3_init_35 rfl ?_
  refine V_new (L := 30) (rc' := 107) (rs' := 4223) (sh' := zs65) dX3_init_36 cok0 okty0 (wsAll_place 274 (by decide +kernel) (by decide +kernel)) (wsAll_place 181 (by decide +kernel) (by decide +kernel)) (wsAll_place 131 (by decide +kernel) (by decide +kernel)) (by decide +kernel) (by decide +kernel) (by decide) (by decide) (fun w ew => ?_)
  replace hv := ini_new (E' := [(0, 17)]) hv ew (by decide) (by decide)
  clear ew
  refine T_dup dX3_init_39 rfl ?_
  refine V_callI (rc1 := 5) (rs1 := 228) (rc2 := 102) (rs2 := 3995) dX3_init_40 kX0_init lX3_24 (by decide) (Nat.le_of_ble_eq_true rfl) (by omega) (by decide) (by decide) ?_
  refine zX0_init_30 (by omega) hv (fun w hv => ?_)
  show n_T G d 102 3995 mX3_init 43 [vR 16, vI 2] [vR 30, vI 2, vR 17] zq75 w Q
  refine V_aast (sh' := zs77) (n := 20) (r := [19, 25, 0, 0, 0, 0, 0, 0, 0, 0, 0, 0, 0, 0, 0, 0, 0, 0, 0, 0]) (rs' := [0, 0, 32, 33, 34, 35, 36]) dX3_init_43 (by decide +kernel) rfl (by decide) (by decide +kernel) (by decide +kernel) ?_
  refine U_iinc dX3_init_44 rfl (by decide) rfl (by decide) ?_
  show n_T G d 102 3995 mX3_init 47 [vR 16, vI 3] [] zs77 w Q
  refine T_goto (tgt := 25) dX3_init_47 (by decide) ?_
  refine T_iload_n dX3_init_25 rfl ?_
  refine T_bipush dX3_init_26 (by decide) ?_
  refine U_icmp_ge (tgt := 50) dX3_init_28 (by decide) (fun hc => absurd hc (by decide)) (fun _ => ?_)
  refine T_aload_n dX3_init_31 rfl ?_
  refine T_getR (r := 17) (rs' := [0, 0, 18]) dX3_init_32 fX3_20 rfl (by decide +kernel) rfl ?_
  refine T_iload_n dX3_init_35 rfl ?_
  refine V_new (L := 36) (rc' := 101) (rs' := 3988) (sh' := zs78) dX3_init_36 cok0 okty0 (wsAll_place 274 (by decide +kernel) (by decide +kernel)) (wsAll_place 181 (by decide +kernel) (by decide +kernel)) (wsAll_place 131 (by decide +kernel) (by decide +kernel)) (by decide +kernel) (by decide +kernel) (by decide) (by decide) (fun w ew => ?_)
  replace hv := ini_new (E' := [(0, 17)]) hv ew (by decide) (by decide)
  clear ew
  refine T_dup dX3_init_39 rfl ?_
  refine V_callI (rc1 := 5) (rs1 := 228) (rc2 := 96) (rs2 := 3760) dX3_init_40 kX0_init lX3_24 (by decide) (Nat.le_of_ble_eq_true rfl) (by omega) (by decide) (by decide) ?_
  refine zX0_init_36 (by omega) hv (fun w hv => ?_)
  show n_T G d 96 3760 mX3_init 43 [vR 16, vI 3] [vR 36, vI 3, vR 17] zq88 w Q
  refine V_aast (sh' := zs90) (n := 20) (r := [19, 25, 31, 0, 0, 0, 0, 0, 0, 0, 0, 0, 0, 0, 0, 0, 0, 0, 0, 0]) (rs' := [0, 0, 38, 39, 40, 41, 42]) dX3_init_43 (by decide +kernel) rfl (by decide) (by decide +kernel) (by decide +kernel) ?_
  refine U_iinc dX3_init_44 rfl (by decide) rfl (by decide) ?_
  show n_T G d 96 3760 mX3_init 47 [vR 16, vI 4] [] zs90 w Q
  refine T_goto (tgt := 25) dX3_init_47 (by decide) ?_
  refine T_iload_n dX3_init_25 rfl ?_
  refine T_bipush dX3_init_26 (by decide) ?_
  refine U_icmp_ge (tgt := 50) dX3_init_28 (by decide) (fun hc => absurd hc (by decide)) (fun _ => ?_)
  refine T_aload_n dX3_init_31 rfl ?_
  refine T_getR (r := 17) (rs' := [0, 0, 18]) dX3_init_32 fX3_20 rfl (by decide +kernel) rfl ?_
  refine T_iload_n dX3_init_35 rfl ?_
  refine V_new (L := 42) (rc' := 95) (rs' := 3753) (sh' := zs91) dX3_init_36 cok0 okty0 (wsAll_place 274 (by decide +kernel) (by decide +kernel)) (wsAll_place 181 (by decide +kernel) (by decide +kernel)) (wsAll_place 131 (by decide +kernel) (by decide +kernel)) (by decide +kernel) (by decide +kernel) (by decide) (by decide) (fun w ew => ?_)
  replace hv := ini_new (E' := [(0, 17)]) hv ew (by decide) (by decide)
  clear ew
  refine T_dup dX3_init_39 rfl ?_
  refine V_callI (rc1 := 5) (rs1 := 228) (rc2 := 90) (rs2 := 3525) dX3_init_40 kX0_init lX3_24 (by decide) (Nat.le_of_ble_eq_true rfl) (by omega) (by decide) (by decide) ?_
  refine zX0_init_42 (by omega) hv (fun w hv => ?_)
  show n_T G d 90 3525 mX3_init 43 [vR 16, vI 4] [vR 42, vI 4, vR 17] zq101 w Q
  refine V_aast (sh' := zs103) (n := 20) (r := [19, 25, 31, 37, 0, 0, 0, 0, 0, 0, 0, 0, 0, 0, 0, 0, 0, 0, 0, 0]) (rs' := [0, 0, 44, 45, 46, 47, 48]) dX3_init_43 (by decide +kernel) rfl (by decide) (by decide +kernel) (by decide +kernel) ?_
  refine U_iinc dX3_init_44 rfl (by decide) rfl (by decide) ?_
  show n_T G d 90 3525 mX3_init 47 [vR 16, vI 5] [] zs103 w Q
  refine T_goto (tgt := 25) dX3_init_47 (by decide) ?_
  refine T_iload_n dX3_init_25 rfl ?_
  refine T_bipush dX3_init_26 (by decide) ?_
  refine U_icmp_ge (tgt := 50) dX3_init_28 (by decide) (fun hc => absurd hc (by decide)) (fun _ => ?_)
  refine T_aload_n dX3_init_31 rfl ?_
  refine T_getR (r := 17) (rs' := [0, 0, 18]) dX3_init_32 fX3_20 rfl (by decide +kernel) rfl ?_
  refine T_iload_n dX3_init_35 rfl ?_
  refine V_new (L := 48) (rc' := 89) (rs' := 3518) (sh' := zs104) dX3_init_36 cok0 okty0 (wsAll_place 274 (by decide +kernel) (by decide +kernel)) (wsAll_place 181 (by decide +kernel) (by decide +kernel)) (wsAll_place 131 (by decide +kernel) (by decide +kernel)) (by decide +kernel) (by decide +kernel) (by decide) (by decide) (fun w ew => ?_)
  replace hv := ini_new (E' := [(0, 17)]) hv ew (by decide) (by decide)
  clear ew
  refine T_dup dX3_init_39 rfl ?_
  refine V_callI (rc1 := 5) (rs1 := 228) (rc2 := 84) (rs2 := 3290) dX3_init_40 kX0_init lX3_24 (by decide) (Nat.le_of_ble_eq_true rfl) (by omega) (by decide) (by decide) ?_
  refine zX0_init_48 (by omega) hv (fun w hv => ?_)
  show n_T G d 84 3290 mX3_init 43 [vR 16, vI 5] [vR 48, vI 5, vR 17] zq114 w Q
  refine V_aast (sh' := zs116) (n := 20) (r := [19, 25, 31, 37, 43, 0, 0, 0, 0, 0, 0, 0, 0, 0, 0, 0, 0, 0, 0, 0]) (rs' := [0, 0, 50, 51, 52, 53, 54]) dX3_init_43 (by decide +kernel) rfl (by decide) (by decide +kernel) (by decide +kernel) ?_
  refine U_iinc dX3_init_44 rfl (by decide) rfl (by decide) ?_
  show n_T G d 84 3290 mX3_init 47 [vR 16, vI 6] [] zs116 w Q
  refine T_goto (tgt := 25) dX3_init_47 (by decide) ?_
  refine T_iload_n dX3_init_25 rfl ?_
  refine T_bipush dX3_init_26 (by decide) ?_
  refine U_icmp_ge (tgt := 50) dX3_init_28 (by decide) (fun hc => absurd hc (by decide)) (fun _ => ?_)
  refine T_aload_n dX3_init_31 rfl ?_
  refine T_getR (r := 17) (rs' := [0, 0, 18]) dX3_init_32 fX3_20 rfl (by decide +kernel) rfl ?_
  refine T_iload_n dX3_init_35 rfl ?_
  refine V_new (L := 54) (rc' := 83) (rs' := 3283) (sh' := zs117) dX3_init_36 cok0 okty0 (wsAll_place 274 (by decide +kernel) (by decide +kernel)) (wsAll_place 181 (by decide +kernel) (by decide +kernel)) (wsAll_place 131 (by decide +kernel) (by decide +kernel)) (by decide +kernel) (by decide +kernel) (by decide) (by decide) (fun w ew => ?_)
  replace hv := ini_new (E' := [(0, 17)]) hv ew (by decide) (by decide)
  clear ew
  refine T_dup dX3_init_39 rfl ?_
  refine V_callI (rc1 := 5) (rs1 := 228) (rc2 := 78) (rs2 := 3055) dX3_init_40 kX0_init lX3_24 (by decide) (Nat.le_of_ble_eq_true rfl) (by omega) (by decide) (by decide) ?_
  refine zX0_init_54 (by omega) hv (fun w hv => ?_)
  show n_T G d 78 3055 mX3_init 43 [vR 16, vI 6] [vR 54, vI 6, vR 17] zq127 w Q
  refine V_aast (sh' := zs129) (n := 20) (r := [19, 25, 31, 37, 43, 49, 0, 0, 0, 0, 0, 0, 0, 0, 0, 0, 0, 0, 0, 0]) (rs' := [0, 0, 56, 57, 58, 59, 60]) dX3_init_43 (by decide +kernel) rfl (by decide) (by decide +kernel) (by decide +kernel) ?_
  refine U_iinc dX3_init_44 rfl (by decide) rfl (by decide) ?_
  show n_T G d 78 3055 mX3_init 47 [vR 16, vI 7] [] zs129 w Q
  refine T_goto (tgt := 25) dX3_init_47 (by decide) ?_
  refine T_iload_n dX3_init_25 rfl ?_
  refine T_bipush dX3_init_26 (by decide) ?_
  refine U_icmp_ge (tgt := 50) dX3_init_28 (by decide) (fun hc => absurd hc (by decide)) (fun _ => ?_)
  refine T_aload_n dX3_init_31 rfl ?_
  refine T_getR (r := 17) (rs' := [0, 0, 18]) dX3_init_32 fX3_20 rfl (by decide +kernel) rfl ?_
  refine T_iload_n dX3_init_35 rfl ?_
  refine V_new (L := 60) (rc' := 77) (rs' := 3048) (sh' := zs130) dX3_init_36 cok0 okty0 (wsAll_place 274 (by decide +kernel) (by decide +kernel)) (wsAll_place 181 (by decide +kernel) (by decide +kernel)) (wsAll_place 131 (by decide +kernel) (by decide +kernel)) (by decide +kernel) (by decide +kernel) (by decide) (by decide) (fun w ew => ?_)
  replace hv := ini_new (E' := [(0, 17)]) hv ew (by decide) (by decide)
  clear ew
  refine T_dup dX3_init_39 rfl ?_
  refine V_callI (rc1 := 5) (rs1 := 228) (rc2 := 72) (rs2 := 2820) dX3_init_40 kX0_init lX3_24 (by decide) (Nat.le_of_ble_eq_true rfl) (by omega) (by decide) (by decide) ?_
  refine zX0_init_60 (by omega) hv (fun w hv => ?_)
  show n_T G d 72 2820 mX3_init 43 [vR 16, vI 7] [vR 60, vI 7, vR 17] zq140 w Q
  refine V_aast (sh' := zs142) (n := 20) (r := [19, 25, 31, 37, 43, 49, 55, 0, 0, 0, 0, 0, 0, 0, 0, 0, 0, 0, 0, 0]) (rs' := [0, 0, 62, 63, 64, 65, 66]) dX3_init_43 (by decide +kernel) rfl (by decide) (by decide +kernel) (by decide +kernel) ?_
  refine U_iinc dX3_init_44 rfl (by decide) rfl (by decide) ?_
  show n_T G d 72 2820 mX3_init 47 [vR 16, vI 8] [] zs142 w Q
  refine T_goto (tgt := 25) dX3_init_47 (by decide) ?_
  refine T_iload_n dX3_init_25 rfl ?_
  refine T_bipush dX3_init_26 (by decide) ?_
  refine U_icmp_ge (tgt := 50) dX3_init_28 (by decide) (fun hc => absurd hc (by decide)) (fun _ => ?_)
  refine T_aload_n dX3_init_31 rfl ?_
  refine T_getR (r := 17) (rs' := [0, 0, 18]) dX3_init_32 fX3_20 rfl (by decide +kernel) rfl ?_
  refine T_iload_n dX3_init_35 rfl ?_
  refine V_new (L := 66) (rc' := 71) (rs' := 2813) (sh' := zs143) dX3_init_36 cok0 okty0 (wsAll_place 274 (by decide +kernel) (by decide +kernel)) (wsAll_place 181 (by decide +kernel) (by decide +kernel)) (wsAll_place 131 (by decide +kernel) (by decide +kernel)) (by decide +kernel) (by decide +kernel) (by decide) (by decide) (fun w ew => ?_)
  replace hv := ini_new (E' := [(0, 17)]) hv ew (by decide) (by decide)
  clear ew
  refine T_dup dX3_init_39 rfl ?_
  refine V_callI (rc1 := 5) (rs1 := 228) (rc2 := 66) (rs2 := 2585) dX3_init_40 kX0_init lX3_24 (by decide) (Nat.le_of_ble_eq_true rfl) (by omega) (by decide) (by decide) ?_
  refine zX0_init_66 (by omega) hv (fun w hv => ?_)
  show n_T G d 66 2585 mX3_init 43 [vR 16, vI 8] [vR 66, vI 8, vR 17] zq153 w Q
  refine V_aast (sh' := zs155) (n := 20) (r := [19, 25, 31, 37, 43, 49, 55, 61, 0, 0, 0, 0, 0, 0, 0, 0, 0, 0, 0, 0]) (rs' := [0, 0, 68, 69, 70, 71, 72]) dX3_init_43 (by decide +kernel) rfl (by decide) (by decide +kernel) (by decide +kernel) ?_
  refine U_iinc dX3_init_44 rfl (by decide) rfl (by decide) ?_
  show n_T G d 66 2585 mX3_init 47 [vR 16, vI 9] [] zs155 w Q
  refine T_goto (tgt := 25) dX3_init_47 (by decide) ?_
  refine T_iload_n dX3_init_25 rfl ?_
  refine T_bipush dX3_init_26 (by decide) ?_
  refine U_icmp_ge (tgt := 50) dX3_init_28 (by decide) (fun hc => absurd hc (by decide)) (fun _ => ?_)
  refine T_aload_n dX3_init_31 rfl ?_
  refine T_getR (r := 17) (rs' := [0, 0, 18]) dX3_init_32 fX3_20 rfl (by decide +kernel) rfl ?_
  refine T_iload_n dX3_init_35 rfl ?_
  refine V_new (L := 72) (rc' := 65) (rs' := 2578) (sh' := zs156) dX3_init_36 cok0 okty0 (wsAll_place 274 (by decide +kernel) (by decide +kernel)) (wsAll_place 181 (by decide +kernel) (by decide +kernel)) (wsAll_place 131 (by decide +kernel) (by decide +kernel)) (by decide +kernel) (by decide +kernel) (by decide) (by decide) (fun w ew => ?_)
  replace hv := ini_new (E' := [(0, 17)]) hv ew (by decide) (by decide)
  clear ew
  refine T_dup dX3_init_39 rfl ?_
  refine V_callI (rc1 := 5) (rs1 := 228) (rc2 := 60) (rs2 := 2350) dX3_init_40 kX0_init lX3_24 (by decide) (Nat.le_of_ble_eq_true rfl) (by omega) (by decide) (by decide) ?_
  refine zX0_init_72 (by omega) hv (fun w hv => ?_)
  show n_T G d 60 2350 mX3_init 43 [vR 16, vI 9] [vR 72, vI 9, vR 17] zq166 w Q
  refine V_aast (sh' := zs168) (n := 20) (r := [19, 25, 31, 37, 43, 49, 55, 61, 67, 0, 0, 0, 0, 0, 0, 0, 0, 0, 0, 0]) (rs' := [0, 0, 74, 75, 76, 77, 78]) dX3_init_43 (by decide +kernel) rfl (by decide) (by decide +kernel) (by decide +kernel) ?_
  refine U_iinc dX3_init_44 rfl (by decide) rfl (by decide) ?_
  show n_T G d 60 2350 mX3_init 47 [vR 16, vI 10] [] zs168 w Q
  refine T_goto (tgt := 25) dX3_init_47 (by decide) ?_
  refine T_iload_n dX3_init_25 rfl ?_
  refine T_bipush dX3_init_26 (by decide) ?_
  refine U_icmp_ge (tgt := 50) dX3_init_28 (by decide) (fun hc => absurd hc (by decide)) (fun _ => ?_)
  refine T_aload_n dX3_init_31 rfl ?_
  refine T_getR (r := 17) (rs' := [0, 0, 18]) dX3_init_32 fX3_20 rfl (by decide +kernel) rfl ?_
  refine T_iload_n dX3_init_35 rfl ?_
  refine V_new (L := 78) (rc' := 59) (rs' := 2343) (sh' := zs169) dX3_init_36 cok0 okty0 (wsAll_place 274 (by decide +kernel) (by decide +kernel)) (wsAll_place 181 (by decide +kernel) (by decide +kernel)) (wsAll_place 131 (by decide +kernel) (by decide +kernel)) (by decide +kernel) (by decide +kernel) (by decide) (by decide) (fun w ew => ?_)
  replace hv := ini_new (E' := [(0, 17)]) hv ew (by decide) (by decide)
  clear ew
  refine T_dup dX3_init_39 rfl ?_
  refine V_callI (rc1 := 5) (rs1 := 228) (rc2 := 54) (rs2 := 2115) dX3_init_40 kX0_init lX3_24 (by decide) (Nat.le_of_ble_eq_true rfl) (by omega) (by decide) (by decide) ?_
  refine zX0_init_78 (by omega) hv (fun w hv => ?_)
  show n_T G d 54 2115 mX3_init 43 [vR 16, vI 10] [vR 78, vI 10, vR 17] zq179 w Q
  refine V_aast (sh' := zs181) (n := 20) (r := [19, 25, 31, 37, 43, 49, 55, 61, 67, 73, 0, 0, 0, 0, 0, 0, 0, 0, 0, 0]) (rs' := [0, 0, 80, 81, 82, 83, 84]) dX3_init_43 (by decide +kernel) rfl (by decide) (by decide +kernel) (by decide +kernel) ?_
  refine U_iinc dX3_init_44 rfl (by decide) rfl (by decide) ?_
  show n_T G d 54 2115 mX3_init 47 [vR 16, vI 11] [] zs181 w Q
  refine T_goto (tgt := 25) dX3_init_47 (by decide) ?_
  refine T_iload_n dX3_init_25 rfl ?_
  refine T_bipush dX3_init_26 (by decide) ?_
  refine U_icmp_ge (tgt := 50) dX3_init_28 (by decide) (fun hc => absurd hc (by decide)) (fun _ => ?_)
  refine T_aload_n dX3_init_31 rfl ?_
  refine T_getR (r := 17) (rs' := [0, 0, 18]) dX3_init_32 fX3_20 rfl (by decide +kernel) rfl ?_
  refine T_iload_n dX3_init_35 rfl ?_
  refine V_new (L := 84) (rc' := 53) (rs' := 2108) (sh' := zs182) dX3_init_36 cok0 okty0 (wsAll_place 274 (by decide +kernel) (by decide +kernel)) (wsAll_place 181 (by decide +kernel) (by decide +kernel)) (wsAll_place 131 (by decide +kernel) (by decide +kernel)) (by decide +kernel) (by decide +kernel) (by decide) (by decide) (fun w ew => ?_)
  replace hv := ini_new (E' := [(0, 17)]) hv ew (by decide) (by decide)
  clear ew
  refine T_dup dX3_init_39 rfl ?_
  refine V_callI (rc1 := 5) (rs1 := 228) (rc2 := 48) (rs2 := 1880) dX3_init_40 kX0_init lX3_24 (by decide) (Nat.le_of_ble_eq_true rfl) (by omega) (by decide) (by decide) ?_
  refine zX0_init_84 (by omega) hv (fun w hv => ?_)
  show n_T G d 48 1880 mX3_init 43 [vR 16, vI 11] [vR 84, vI 11, vR 17] zq192 w Q
  refine V_aast (sh' := zs194) (n := 20) (r := [19, 25, 31, 37, 43, 49, 55, 61, 67, 73, 79, 0, 0, 0, 0, 0, 0, 0, 0, 0]) (rs' := [0, 0, 86, 87, 88, 89, 90]) dX3_init_43 (by decide +kernel) rfl (by decide) (by decide +kernel) (by decide +kernel) ?_
  refine U_iinc dX3_init_44 rfl (by decide) rfl (by decide) ?_
  show n_T G d 48 1880 mX3_init 47 [vR 16, vI 12] [] zs194 w Q
  refine T_goto (tgt := 25) dX3_init_47 (by decide) ?_
  refine T_iload_n dX3_init_25 rfl ?_
  refine T_bipush dX3_init_26 (by decide) ?_
  refine U_icmp_ge (tgt := 50) dX3_init_28 (by decide) (fun hc => absurd hc (by decide)) (fun _ => ?_)
  refine T_aload_n dX3_init_31 rfl ?_
  refine T_getR (r := 17) (rs' := [0, 0, 18]) dX3_init_32 fX3_20 rfl (by decide +kernel) rfl ?_
  refine T_iload_n dX3_init_35 rfl ?_
  refine V_new (L := 90) (rc' := 47) (rs' := 1873) (sh' := zs195) dX3_init_36 cok0 okty0 (wsAll_place 274 (by decide +kernel) (by decide +kernel)) (wsAll_place 181 (by decide +kernel) (by decide +kernel)) (wsAll_place 131 (by decide +kernel) (by decide +kernel)) (by decide +kernel) (by decide +kernel) (by decide) (by decide) (fun w ew => ?_)
  replace hv := ini_new (E' := [(0, 17)]) hv ew (by decide) (by decide)
  clear ew
  refine T_dup dX3_init_39 rfl ?_
  refine V_callI (rc1 := 5) (rs1 := 228) (rc2 := 42) (rs2 := 1645) dX3_init_40 kX0_init lX3_24 (by decide) (Nat.le_of_ble_eq_true rfl) (by omega) (by decide) (by decide) ?_
  refine zX0_init_90 (by omega) hv (fun w hv => ?_)
  show n_T G d 42 1645 mX3_init 43 [vR 16, vI 12] [vR 90, vI 12, vR 17] zq205 w Q
  refine V_aast (sh' := zs207) (n := 20) (r := [19, 25, 31, 37, 43, 49, 55, 61, 67, 73, 79, 85, 0, 0, 0, 0, 0, 0, 0, 0]) (rs' := [0, 0, 92, 93, 94, 95, 96]) dX3_init_43 (by decide +kernel) rfl (by decide) (by decide +kernel) (by decide +kernel) ?_
  refine U_iinc dX3_init_44 rfl (by decide) rfl (by decide) ?_
  show n_T G d 42 1645 mX3_init 47 [vR 16, vI 13] [] zs207 w Q
  refine T_goto (tgt := 25) dX3_init_47 (by decide) ?_
  refine T_iload_n dX3_init_25 rfl ?_
  refine T_bipush dX3_init_26 (by decide) ?_
  refine U_icmp_ge (tgt := 50) dX3_init_28 (by decide) (fun hc => absurd hc (by decide)) (fun _ => ?_)
  refine T_aload_n dX3_init_31 rfl ?_
  refine T_getR (r := 17) (rs' := [0, 0, 18]) dX3_init_32 fX3_20 rfl (by decide +kernel) rfl ?_
  refine T_iload_n dX3_init_35 rfl ?_
  refine V_new (L := 96) (rc' := 41) (rs' := 1638) (sh' := zs208) dX3_init_36 cok0 okty0 (wsAll_place 274 (by decide +kernel) (by decide +kernel)) (wsAll_place 181 (by decide +kernel) (by decide +kernel)) (wsAll_place 131 (by decide +kernel) (by decide +kernel)) (by decide +kernel) (by decide +kernel) (by decide) (by decide) (fun w ew => ?_)
  replace hv := ini_new (E' := [(0, 17)]) hv ew (by decide) (by decide)
  clear ew
  refine T_dup dX3_init_39 rfl ?_
  refine V_callI (rc1 := 5) (rs1 := 228) (rc2 := 36) (rs2 := 1410) dX3_init_40 kX0_init lX3_24 (by decide) (Nat.le_of_ble_eq_true rfl) (by omega) (by decide) (by decide) ?_
  refine zX0_init_96 (by omega) hv (fun w hv => ?_)
  show n_T G d 36 1410 mX3_init 43 [vR 16, vI 13] [vR 96, vI 13, vR 17] zq218 w Q
  refine V_aast (sh' := zs220) (n := 20) (r := [19, 25, 31, 37, 43, 49, 55, 61, 67, 73, 79, 85, 91, 0, 0, 0, 0, 0, 0, 0]) (rs' := [0, 0, 98, 99, 100, 101, 102]) dX3_init_43 (by decide +kernel) rfl (by decide) (by decide +kernel) (by decide +kernel) ?_
  refine U_iinc dX3_init_44 rfl (by decide) rfl (by decide) ?_
  show n_T G d 36 1410 mX3_init 47 [vR 16, vI 14] [] zs220 w Q
  refine T_goto (tgt := 25) dX3_init_47 (by decide) ?_
  refine T_iload_n dX3_init_25 rfl ?_
  refine T_bipush dX3_init_26 (by decide) ?_
  refine U_icmp_ge (tgt := 50) dX3_init_28 (by decide) (fun hc => absurd hc (by decide)) (fun _ => ?_)
  refine T_aload_n dX3_init_31 rfl ?_
  refine T_getR (r := 17) (rs' := [0, 0, 18]) dX3_init_32 fX3_20 rfl (by decide +kernel) rfl ?_
  refine T_iload_n dX3_init_35 rfl ?_
  refine V_new (L := 102) (rc' := 35) (rs' := 1403) (sh' := zs221) dX3_init_36 cok0 okty0 (wsAll_place 274 (by decide +kernel) (by decide +kernel)) (wsAll_place 181 (by decide +kernel) (by decide +kernel)) (wsAll_place 131 (by decide +kernel) (by decide +kernel)) (by decide +kernel) (by decide +kernel) (by decide) (by decide) (fun w ew => ?_)
  replace hv := ini_new (E' := [(0, 17)]) hv ew (by decide) (by decide)
  clear ew
  refine T_dup dX3_init_39 rfl ?_
  refine V_callI (rc1 := 5) (rs1 := 228) (rc2 := 30) (rs2 := 1175) dX3_init_40 kX0_init lX3_24 (by decide) (Nat.le_of_ble_eq_true rfl) (by omega) (by decide) (by decide) ?_
  refine zX0_init_102 (by omega) hv (fun w hv => ?_)
  show n_T G d 30 1175 mX3_init 43 [vR 16, vI 14] [vR 102, vI 14, vR 17] zq231 w Q
  refine V_aast (sh' := zs233) (n := 20) (r := [19, 25, 31, 37, 43, 49, 55, 61, 67, 73, 79, 85, 91, 97, 0, 0, 0, 0, 0, 0]) (rs' := [0, 0, 104, 105, 106, 107, 108]) dX3_init_43 (by decide +kernel) rfl (by decide) (by decide +kernel) (by decide +kernel) ?_
  refine U_iinc dX3_init_44 rfl (by decide) rfl (by decide) ?_
  show n_T G d 30 1175 mX3_init 47 [vR 16, vI 15] [] zs233 w Q
  refine T_goto (tgt := 25) dX3_init_47 (by decide) ?_
  refine T_iload_n dX3_init_25 rfl ?_
  refine T_bipush dX3_init_26 (by decide) ?_
  refine U_icmp_ge (tgt := 50) dX3_init_28 (by decide) (fun hc => absurd hc (by decide)) (fun _ => ?_)
  refine T_aload_n dX3_init_31 rfl ?_
  refine T_getR (r := 17) (rs' := [0, 0, 18]) dX3_init_32 fX3_20 rfl (by decide +kernel) rfl ?_
  refine T_iload_n dX3_init_35 rfl ?_
  refine V_new (L := 108) (rc' := 29) (rs' := 1168) (sh' := zs234) dX3_init_36 cok0 okty0 (wsAll_place 274 (by decide +kernel) (by decide +kernel)) (wsAll_place 181 (by decide +kernel) (by decide +kernel)) (wsAll_place 131 (by decide +kernel) (by decide +kernel)) (by decide +kernel) (by decide +kernel) (by decide) (by decide) (fun w ew => ?_)
  replace hv := ini_new (E' := [(0, 17)]) hv ew (by decide) (by decide)
  clear ew
  refine T_dup dX3_init_39 rfl ?_
  refine V_callI (rc1 := 5) (rs1 := 228) (rc2 := 24) (rs2 := 940) dX3_init_40 kX0_init lX3_24 (by decide) (Nat.le_of_ble_eq_true rfl) (by omega) (by decide) (by decide) ?_
  refine zX0_init_108 (by omega) hv (fun w hv => ?_)
  show n_T G d 24 940 mX3_init 43 [vR 16, vI 15] [vR 108, vI 15, vR 17] zq244 w Q
  refine V_aast (sh' := zs246) (n := 20) (r := [19, 25, 31, 37, 43, 49, 55, 61, 67, 73, 79, 85, 91, 97, 103, 0, 0, 0, 0, 0]) (rs' := [0, 0, 110, 111, 112, 113, 114]) dX3_init_43 (by decide +kernel) rfl (by decide) (by decide +kernel) (by decide +kernel) ?_
  refine U_iinc dX3_init_44 rfl (by decide) rfl (by decide) ?_
  show n_T G d 24 940 mX3_init 47 [vR 16, vI 16] [] zs246 w Q
  refine T_goto (tgt := 25) dX3_init_47 (by decide) ?_
  refine T_iload_n dX3_init_25 rfl ?_
  refine T_bipush dX3_init_26 (by decide) ?_
  refine U_icmp_ge (tgt := 50) dX3_init_28 (by decide) (fun hc => absurd hc (by decide)) (fun _ => ?_)
  refine T_aload_n dX3_init_31 rfl ?_
  refine T_getR (r := 17) (rs' := [0, 0, 18]) dX3_init_32 fX3_20 rfl (by decide +kernel) rfl ?_
  refine T_iload_n dX3_init_35 rfl ?_
  refine V_new (L := 114) (rc' := 23) (rs' := 933) (sh' := zs247) dX3_init_36 cok0 okty0 (wsAll_place 274 (by decide +kernel) (by decide +kernel)) (wsAll_place 181 (by decide +kernel) (by decide +kernel)) (wsAll_place 131 (by decide +kernel) (by decide +kernel)) (by decide +kernel) (by decide +kernel) (by decide) (by decide) (fun w ew => ?_)
  replace hv := ini_new (E' := [(0, 17)]) hv ew (by decide) (by decide)
  clear ew
  refine T_dup dX3_init_39 rfl ?_
  refine V_callI (rc1 := 5) (rs1 := 228) (rc2 := 18) (rs2 := 705) dX3_init_40 kX0_init lX3_24 (by decide) (Nat.le_of_ble_eq_true rfl) (by omega) (by decide) (by decide) ?_
  refine zX0_init_114 (by omega) hv (fun w hv => ?_)
  show n_T G d 18 705 mX3_init 43 [vR 16, vI 16] [vR 114, vI 16, vR 17] zq257 w Q
  refine V_aast (sh' := zs259) (n := 20) (r := [19, 25, 31, 37, 43, 49, 55, 61, 67, 73, 79, 85, 91, 97, 103, 109, 0, 0, 0, 0]) (rs' := [0, 0, 116, 117, 118, 119, 120]) dX3_init_43 (by decide +kernel) rfl (by decide) (by decide +kernel) (by decide +kernel) ?_
  refine U_iinc dX3_init_44 rfl (by decide) rfl (by decide) ?_
  show n_T G d 18 705 mX3_init 47 [vR 16, vI 17] [] zs259 w Q
  refine T_goto (tgt := 25) dX3_init_47 (by decide) ?_
  refine T_iload_n dX3_init_25 rfl ?_
  refine T_bipush dX3_init_26 (by decide) ?_
  refine U_icmp_ge (tgt := 50) dX3_init_28 (by decide) (fun hc => absurd hc (by decide)) (fun _ => ?_)
  refine T_aload_n dX3_init_31 rfl ?_
  refine T_getR (r := 17) (rs' := [0, 0, 18]) dX3_init_32 fX3_20 rfl (by decide +kernel) rfl ?_
  refine T_iload_n dX3_init_35 rfl ?_
  refine V_new (L := 120) (rc' := 17) (rs' := 698) (sh' := zs260) dX3_init_36 cok0 okty0 (wsAll_place 274 (by decide +kernel) (by decide +kernel)) (wsAll_place 181 (by decide +kernel) (by decide +kernel)) (wsAll_place 131 (by decide +kernel) (by decide +kernel)) (by decide +kernel) (by decide +kernel) (by decide) (by decide) (fun w ew => ?_)
  replace hv := ini_new (E' := [(0, 17)]) hv ew (by decide) (by decide)
  clear ew
  refine T_dup dX3_init_39 rfl ?_
  refine V_callI (rc1 := 5) (rs1 := 228) (rc2 := 12) (rs2 := 470) dX3_init_40 kX0_init lX3_24 (by decide) (Nat.le_of_ble_eq_true rfl) (by omega) (by decide) (by decide) ?_
  refine zX0_init_120 (by omega) hv (fun w hv => ?_)
  show n_T G d 12 470 mX3_init 43 [vR 16, vI 17] [vR 120, vI 17, vR 17] zq270 w Q
  refine V_aast (sh' := zs272) (n := 20) (r := [19, 25, 31, 37, 43, 49, 55, 61, 67, 73, 79, 85, 91, 97, 103, 109, 115, 0, 0, 0]) (rs' := [0, 0, 122, 123, 124, 125, 126]) dX3_init_43 (by decide +kernel) rfl (by decide) (by decide +kernel) (by decide +kernel) ?_
  refine U_iinc dX3_init_44 rfl (by decide) rfl (by decide) ?_
  show n_T G d 12 470 mX3_init 47 [vR 16, vI 18] [] zs272 w Q
  refine T_goto (tgt := 25) dX3_init_47 (by decide) ?_
  refine T_iload_n dX3_init_25 rfl ?_
  refine T_bipush dX3_init_26 (by decide) ?_
  refine U_icmp_ge (tgt := 50) dX3_init_28 (by decide) (fun hc => absurd hc (by decide)) (fun _ => ?_)
  refine T_aload_n dX3_init_31 rfl ?_
  refine T_getR (r := 17) (rs' := [0, 0, 18]) dX3_init_32 fX3_20 rfl (by decide +kernel) rfl ?_
  refine T_iload_n dX3_init_35 rfl ?_
  refine V_new (L := 126) (rc' := 11) (rs' := 463) (sh' := zs273) dX3_init_36 cok0 okty0 (wsAll_place 274 (by decide +kernel) (by decide +kernel)) (wsAll_place 181 (by decide +kernel) (by decide +kernel)) (wsAll_place 131 (by decide +kernel) (by decide +kernel)) (by decide +kernel) (by decide +kernel) (by decide) (by decide) (fun w ew => ?_)
  replace hv := ini_new (E' := [(0, 17)]) hv ew (by decide) (by decide)
  clear ew
  refine T_dup dX3_init_39 rfl ?_
  refine V_callI (rc1 := 5) (rs1 := 228) (rc2 := 6) (rs2 := 235) dX3_init_40 kX0_init lX3_24 (by decide) (Nat.le_of_ble_eq_true rfl) (by omega) (by decide) (by decide) ?_
  refine zX0_init_126 (by omega) hv (fun w hv => ?_)
  show n_T G d 6 235 mX3_init 43 [vR 16, vI 18] [vR 126, vI 18, vR 17] zq283 w Q
  refine V_aast (sh' := zs285) (n := 20) (r := [19, 25, 31, 37, 43, 49, 55, 61, 67, 73, 79, 85, 91, 97, 103, 109, 115, 121, 0, 0]) (rs' := [0, 0, 128, 129, 130, 131, 132]) dX3_init_43 (by decide +kernel) rfl (by decide) (by decide +kernel) (by decide +kernel) ?_
  refine U_iinc dX3_init_44 rfl (by decide) rfl (by decide) ?_
  show n_T G d 6 235 mX3_init 47 [vR 16, vI 19] [] zs285 w Q
  refine T_goto (tgt := 25) dX3_init_47 (by decide) ?_
  refine T_iload_n dX3_init_25 rfl ?_
  refine T_bipush dX3_init_26 (by decide) ?_
  refine U_icmp_ge (tgt := 50) dX3_init_28 (by decide) (fun hc => absurd hc (by decide)) (fun _ => ?_)
  refine T_aload_n dX3_init_31 rfl ?_
  refine T_getR (r := 17) (rs' := [0, 0, 18]) dX3_init_32 fX3_20 rfl (by decide +kernel) rfl ?_
  refine T_iload_n dX3_init_35 rfl ?_
  refine V_new (L := 132) (rc' := 5) (rs' := 228) (sh' := zs286) dX3_init_36 cok0 okty0 (wsAll_place 274 (by decide +kernel) (by decide +kernel)) (wsAll_place 181 (by decide +kernel) (by decide +kernel)) (wsAll_place 131 (by decide +kernel) (by decide +kernel)) (by decide +kernel) (by decide +kernel) (by decide) (by decide) (fun w ew => ?_)
  replace hv := ini_new (E' := [(0, 17)]) hv ew (by decide) (by decide)
  clear ew
  refine T_dup dX3_init_39 rfl ?_
  refine V_callI (rc1 := 5) (rs1 := 228) (rc2 := 0) (rs2 := 0) dX3_init_40 kX0_init lX3_24 (by decide) (Nat.le_of_ble_eq_true rfl) (by omega) (by decide) (by decide) ?_
  refine zX0_init_132 (by omega) hv (fun w hv => ?_)
  show n_T G d 0 0 mX3_init 43 [vR 16, vI 19] [vR 132, vI 19, vR 17] zq296 w Q
  refine V_aast (sh' := zs298) (n := 20) (r := [19, 25, 31, 37, 43, 49, 55, 61, 67, 73, 79, 85, 91, 97, 103, 109, 115, 121, 127, 0]) (rs' := [0, 0, 134, 135, 136, 137, 138]) dX3_init_43 (by decide +kernel) rfl (by decide) (by decide +kernel) (by decide +kernel) ?_
  refine U_iinc dX3_init_44 rfl (by decide) rfl (by decide) ?_
  show n_T G d 0 0 mX3_init 47 [vR 16, vI 20] [] zs298 w Q
  refine T_goto (tgt := 25) dX3_init_47 (by decide) ?_
  refine T_iload_n dX3_init_25 rfl ?_
  refine T_bipush dX3_init_26 (by decide) ?_
  refine U_icmp_ge (tgt := 50) dX3_init_28 (by decide) (fun _ => ?_) (fun hc => absurd hc (by decide))
  have ez : zs298 = zq298 := by decide +kernel
  rw [ez]
  exact T_vret dX3_init_50 rfl (hQ _ hv)
def zs300 : List Sh := zq298.set 0 (.inl (10, [2, 4, 11, 17, 0, 0, 0, 0, 0, 0, 0, 0, 0, 0, 0, 0, 0, 0]))
def zs301 : List Sh := zs300 ++ [.inl (2, [0, 0, 0, 0, 0, 0, 0, 0])]
def zs302 : List Sh := zs301 ++ [.inr (0, 24, [])]
def zs303 : List Sh := zs302.set 138 (.inl (2, [0, 0, 0, 140, 0, 0, 0, 0]))
def zs304 : List Sh := zs303 ++ n_mshape 140 24 24
def zs305 : List Sh := zs304.set 138 (.inl (2, [0, 0, 0, 140, 141, 0, 0, 0]))
def zs306 : List Sh := zs305 ++ n_mshape 165 24 24
def zs307 : List Sh := zs306.set 138 (.inl (2, [0, 0, 0, 140, 141, 166, 0, 0]))
def zs308 : List Sh := zs307 ++ [.inr (1, 24, [])]
def zs309 : List Sh := zs308.set 138 (.inl (2, [0, 0, 0, 140, 141, 166, 0, 191]))
def zq309 : List Sh := [.inl (10, [2, 4, 11, 17, 0, 0, 0, 0, 0, 0, 0, 0, 0, 0, 0, 0, 0, 0]), .inl (9, [3, 0]), .inr (0, 800, []), .inl (5, [5, 0, 0, 0, 0, 0, 0, 0]), .inl (0, [0, 0, 6, 7, 8, 9, 10]), .inr (0, 24, []), .inr (0, 60, []), .inr (0, 60, []), .inr (0, 60, []), .inr (0, 24, []), .inl (0, [0, 0, 12, 13, 14, 15, 16]), .inr (0, 24, []), .inr (0, 60, []), .inr (0, 60, []), .inr (0, 60, []), .inr (0, 24, []), .inl (3, [0, 0, 18]), .inr (4, 20, [19, 25, 31, 37, 43, 49, 55, 61, 67, 73, 79, 85, 91, 97, 103, 109, 115, 121, 127, 133]), .inl (0, [0, 0, 20, 21, 22, 23, 24]), .inr (0, 24, []), .inr (0, 60, []), .inr (0, 60, []), .inr (0, 60, []), .inr (0, 24, []), .inl (0, [0, 0, 26, 27, 28, 29, 30]), .inr (0, 24, []), .inr (0, 60, []), .inr (0, 60, []), .inr (0, 60, []), .inr (0, 24, []), .inl (0, [0, 0, 32, 33, 34, 35, 36]), .inr (0, 24, []), .inr (0, 60, []), .inr (0, 60, []), .inr (0, 60, []), .inr (0, 24, []), .inl (0, [0, 0, 38, 39, 40, 41, 42]), .inr (0, 24, []), .inr (0, 60, []), .inr (0, 60, []), .inr (0, 60, []), .inr (0, 24, []), .inl (0, [0, 0, 44, 45, 46, 47, 48]), .inr (0, 24, []), .inr (0, 60, []), .inr (0, 60, []), .inr (0, 60, []), .inr (0, 24, []), .inl (0, [0, 0, 50, 51, 52, 53, 54]), .inr (0, 24, []), .inr (0, 60, []), .inr (0, 60, []), .inr (0, 60, []), .inr (0, 24, []), .inl (0, [0, 0, 56, 57, 58, 59, 60]), .inr (0, 24, []), .inr (0, 60, []), .inr (0, 60, []), .inr (0, 60, []), .inr (0, 24, []), .inl (0, [0, 0, 62, 63, 64, 65, 66]), .inr (0, 24, []), .inr (0, 60, []), .inr (0, 60, []), .inr (0, 60, []), .inr (0, 24, []), .inl (0, [0, 0, 68, 69, 70, 71, 72]), .inr (0, 24, []), .inr (0, 60, []), .inr (0, 60, []), .inr (0, 60, []), .inr (0, 24, []), .inl (0, [0, 0, 74, 75, 76, 77, 78]), .inr (0, 24, []), .inr (0, 60, []), .inr (0, 60, []), .inr (0, 60, []), .inr (0, 24, []), .inl (0, [0, 0, 80, 81, 82, 83, 84]), .inr (0, 24, []), .inr (0, 60, []), .inr (0, 60, []), .inr (0, 60, []), .inr (0, 24, []), .inl (0, [0, 0, 86, 87, 88, 89, 90]), .inr (0, 24, []), .inr (0, 60, []), .inr (0, 60, []), .inr (0, 60, []), .inr (0, 24, []), .inl (0, [0, 0, 92, 93, 94, 95, 96]), .inr (0, 24, []), .inr (0, 60, []), .inr (0, 60, []), .inr (0, 60, []), .inr (0, 24, []), .inl (0, [0, 0, 98, 99, 100, 101, 102]), .inr (0, 24, []), .inr (0, 60, []), .inr (0, 60, []), .inr (0, 60, []), .inr (0, 24, []), .inl (0, [0, 0, 104, 105, 106, 107, 108]), .inr (0, 24, []), .inr (0, 60, []), .inr (0, 60, []), .inr (0, 60, []), .inr (0, 24, []), .inl (0, [0, 0, 110, 111, 112, 113, 114]), .inr (0, 24, []), .inr (0, 60, []), .inr (0, 60, []), .inr (0, 60, []), .inr (0, 24, []), .inl (0, [0, 0, 116, 117, 118, 119, 120]), .inr (0, 24, []), .inr (0, 60, []), .inr (0, 60, []), .inr (0, 60, []), .inr (0, 24, []), .inl (0, [0, 0, 122, 123, 124, 125, 126]), .inr (0, 24, []), .inr (0, 60, []), .inr (0, 60, []), .inr (0, 60, []), .inr (0, 24, []), .inl (0, [0, 0, 128, 129, 130, 131, 132]), .inr (0, 24, []), .inr (0, 60, []), .inr (0, 60, []), .inr (0, 60, []), .inr (0, 24, []), .inl (0, [0, 0, 134, 135, 136, 137, 138]), .inr (0, 24, []), .inr (0, 60, []), .inr (0, 60, []), .inr (0, 60, []), .inr (0, 24, []), .inl (2, [0, 0, 0, 140, 141, 166, 0, 191]), .inr (0, 24, []), .inr (3, 24, [142, 143, 144, 145, 146, 147, 148, 149, 150, 151, 152, 153, 154, 155, 156, 157, 158, 159, 160, 161, 162, 163, 164, 165]), .inr (0, 24, []), .inr (0, 24, []), .inr (0, 24, []), .inr (0, 24, []), .inr (0, 24, []), .inr (0, 24, []), .inr (0, 24, []), .inr (0, 24, []), .inr (0, 24, []), .inr (0, 24, []), .inr (0, 24, []), .inr (0, 24, []), .inr (0, 24, []), .inr (0, 24, []), .inr (0, 24, []), .inr (0, 24, []), .inr (0, 24, []), .inr (0, 24, []), .inr (0, 24, []), .inr (0, 24, []), .inr (0, 24, []), .inr (0, 24, []), .inr (0, 24, []), .inr (0, 24, []), .inr (3, 24, [167, 168, 169, 170, 171, 172, 173, 174, 175, 176, 177, 178, 179, 180, 181, 182, 183, 184, 185, 186, 187, 188, 189, 190]), .inr (0, 24, []), .inr (0, 24, []), .inr (0, 24, []), .inr (0, 24, []), .inr (0, 24, []), .inr (0, 24, []), .inr (0, 24, []), .inr (0, 24, []), .inr (0, 24, []), .inr (0, 24, []), .inr (0, 24, []), .inr (0, 24, []), .inr (0, 24, []), .inr (0, 24, []), .inr (0, 24, []), .inr (0, 24, []), .inr (0, 24, []), .inr (0, 24, []), .inr (0, 24, []), .inr (0, 24, []), .inr (0, 24, []), .inr (0, 24, []), .inr (0, 24, []), .inr (0, 24, []), .inr (1, 24, [])]
theorem zX2_init_138 {G : GT} {d : Nat} (hd : 1 ≤ d) {w : VT} {Q : Option Vl → List Sh → VT → Prop} (hv : ini w 139 [(0, 17), (138, 1)]) (hQ : ∀ w, ini w 191 [(0, 17)] → Q none zq309 w) : n_T G d 52 1248 mX2_init 0 [vR 138] [] zs301 w Q := by
  refine T_aload_n dX2_init_0 rfl ?_
  refine T_objI dX2_init_1 lX2_3 w_oi w_oc (by omega) (Nat.le_of_ble_eq_true rfl) ?_
  refine T_aload_n dX2_init_4 rfl ?_
  refine T_iconst dX2_init_5 (by decide) ?_
  refine U_putZ (rs' := [0, 0, 0, 0, 0, 0, 0, 0]) dX2_init_6 fX2_9 rfl rfl (by decide +kernel) (by decide) (fun w ew => ?_)
  replace hv := ini_put (E' := [(0, 17), (138, 1)]) hv ew (by decide) (by decide)
  clear ew
  refine T_aload_n dX2_init_9 rfl ?_
  refine T_iconst dX2_init_10 (by decide) ?_
  refine U_putZ (rs' := [0, 0, 0, 0, 0, 0, 0, 0]) dX2_init_11 fX2_15 rfl rfl (by decide +kernel) (by decide) (fun w ew => ?_)
  replace hv := ini_put (E' := [(0, 17)]) hv ew (by decide) (by decide)
  clear ew
  refine T_aload_n dX2_init_14 rfl ?_
  refine T_iconst dX2_init_15 (by decide) ?_
  refine U_putI (rs' := [0, 0, 0, 0, 0, 0, 0, 0]) dX2_init_16 fX2_18 rfl rfl (by decide +kernel) (fun w ew => ?_)
  replace hv := ini_put (E' := [(0, 17)]) hv ew (by decide) (by decide)
  clear ew
  refine T_aload_n dX2_init_19 rfl ?_
  refine T_bipush dX2_init_20 (by decide) ?_
  refine V_newa0 (n := 24) (L := 139) (rc' := 51) (rs' := 1224) (sh' := zs302) dX2_init_22 (wsAll_place 173 (by decide +kernel) (by decide +kernel)) (by decide) (by decide +kernel) rfl (by decide) (by decide) (fun w ew => ?_)
  replace hv := ini_new (E' := [(0, 17)]) hv ew (by decide) (by decide)
  clear ew
  refine V_putF (sh' := zs303) (rs' := [0, 0, 0, 0, 0, 0, 0, 0]) dX2_init_24 fX2_22 rfl rfl rfl rfl (by decide +kernel) rfl (by decide +kernel) ?_
  refine T_aload_n dX2_init_27 rfl ?_
  refine T_bipush dX2_init_28 (by decide) ?_
  refine T_bipush dX2_init_30 (by decide) ?_
  refine V_mna (n := 24) (k := 24) (L := 140) (rc' := 26) (rs' := 624) (sh' := zs304) dX2_init_32 (wsAll_place 294 (by decide +kernel) (by decide +kernel)) (wsAll_place 173 (by decide +kernel) (by decide +kernel)) (by decide) (by decide) (by decide +kernel) rfl (by decide) (by decide) (fun w ew => ?_)
  replace hv := ini_mna (k := 25) hv ew (by decide)
  clear ew
  refine V_putF (sh' := zs305) (rs' := [0, 0, 0, 140, 0, 0, 0, 0]) dX2_init_36 fX2_28 rfl rfl rfl rfl (by decide +kernel) rfl (by decide +kernel) ?_
  refine T_aload_n dX2_init_39 rfl ?_
  refine T_bipush dX2_init_40 (by decide) ?_
  refine T_bipush dX2_init_42 (by decide) ?_
  refine V_mna (n := 24) (k := 24) (L := 165) (rc' := 1) (rs' := 24) (sh' := zs306) dX2_init_44 (wsAll_place 294 (by decide +kernel) (by decide +kernel)) (wsAll_place 173 (by decide +kernel) (by decide +kernel)) (by decide) (by decide) (by decide +kernel) rfl (by decide) (by decide) (fun w ew => ?_)
  replace hv := ini_mna (k := 25) hv ew (by decide)
  clear ew
  refine V_putF (sh' := zs307) (rs' := [0, 0, 0, 140, 141, 0, 0, 0]) dX2_init_48 fX2_31 rfl rfl rfl rfl (by decide +kernel) rfl (by decide +kernel) ?_
  refine T_aload_n dX2_init_51 rfl ?_
  refine T_iconst dX2_init_52 (by decide) ?_
  refine U_putZ (rs' := [0, 0, 0, 140, 141, 166, 0, 0]) dX2_init_53 fX2_34 rfl rfl (by decide +kernel) (by decide) (fun w ew => ?_)
  replace hv := ini_put (E' := [(0, 17)]) hv ew (by decide) (by decide)
  clear ew
  refine T_aload_n dX2_init_56 rfl ?_
  refine T_bipush dX2_init_57 (by decide) ?_
  refine V_newa1 (n := 24) (L := 190) (rc' := 0) (rs' := 0) (sh' := zs308) dX2_init_59 (wsAll_place 326 (by decide +kernel) (by decide +kernel)) (by decide) (by decide +kernel) rfl (by decide) (by decide) (fun w ew => ?_)
  replace hv := ini_new (E' := [(0, 17)]) hv ew (by decide) (by decide)
  clear ew
  refine V_putF (sh' := zs309) (rs' := [0, 0, 0, 140, 141, 166, 0, 0]) dX2_init_61 fX2_37 rfl rfl rfl rfl (by decide +kernel) rfl (by decide +kernel) ?_
  have ez : zs309 = zq309 := by decide +kernel
  rw [ez]
  exact T_vret dX2_init_64 rfl (hQ _ hv)
def zs311 : List Sh := zq309.set 0 (.inl (10, [2, 4, 11, 17, 139, 0, 0, 0, 0, 0, 0, 0, 0, 0, 0, 0, 0, 0]))
def zs312 : List Sh := zs311 ++ [.inl (1, [0, 0, 0, 0, 0, 0, 0])]
def zs313 : List Sh := zs312 ++ [.inr (0, 60, [])]
def zs314 : List Sh := zs313.set 191 (.inl (1, [0, 0, 193, 0, 0, 0, 0]))
def zs315 : List Sh := zs314 ++ [.inr (0, 60, [])]
def zs316 : List Sh := zs315.set 191 (.inl (1, [0, 0, 193, 194, 0, 0, 0]))
def zs317 : List Sh := zs316 ++ [.inr (0, 60, [])]
def zs318 : List Sh := zs317.set 191 (.inl (1, [0, 0, 193, 194, 195, 0, 0]))
def zs319 : List Sh := zs318 ++ [.inr (0, 24, [])]
def zs320 : List Sh := zs319.set 191 (.inl (1, [0, 0, 193, 194, 195, 196, 0]))
def zs321 : List Sh := zs320 ++ [.inr (0, 60, [])]
def zs322 : List Sh := zs321.set 191 (.inl (1, [0, 0, 193, 194, 195, 196, 197]))
def zq322 : List Sh := [.inl (10, [2, 4, 11, 17, 139, 0, 0, 0, 0, 0, 0, 0, 0, 0, 0, 0, 0, 0]), .inl (9, [3, 0]), .inr (0, 800, []), .inl (5, [5, 0, 0, 0, 0, 0, 0, 0]), .inl (0, [0, 0, 6, 7, 8, 9, 10]), .inr (0, 24, []), .inr (0, 60, []), .inr (0, 60, []), .inr (0, 60, []), .inr (0, 24, []), .inl (0, [0, 0, 12, 13, 14, 15, 16]), .inr (0, 24, []), .inr (0, 60, []), .inr (0, 60, []), .inr (0, 60, []), .inr (0, 24, []), .inl (3, [0, 0, 18]), .inr (4, 20, [19, 25, 31, 37, 43, 49, 55, 61, 67, 73, 79, 85, 91, 97, 103, 109, 115, 121, 127, 133]), .inl (0, [0, 0, 20, 21, 22, 23, 24]), .inr (0, 24, []), .inr (0, 60, []), .inr (0, 60, []), .inr (0, 60, []), .inr (0, 24, []), .inl (0, [0, 0, 26, 27, 28, 29, 30]), .inr (0, 24, []), .inr (0, 60, []), .inr (0, 60, []), .inr (0, 60, []), .inr (0, 24, []), .inl (0, [0, 0, 32, 33, 34, 35, 36]), .inr (0, 24, []), .inr (0, 60, []), .inr (0, 60, []), .inr (0, 60, []), .inr (0, 24, []), .inl (0, [0, 0, 38, 39, 40, 41, 42]), .inr (0, 24, []), .inr (0, 60, []), .inr (0, 60, []), .inr (0, 60, []), .inr (0, 24, []), .inl (0, [0, 0, 44, 45, 46, 47, 48]), .inr (0, 24, []), .inr (0, 60, []), .inr (0, 60, []), .inr (0, 60, []), .inr (0, 24, []), .inl (0, [0, 0, 50, 51, 52, 53, 54]), .inr (0, 24, []), .inr (0, 60, []), .inr (0, 60, []), .inr (0, 60, []), .inr (0, 24, []), .inl (0, [0, 0, 56, 57, 58, 59, 60]), .inr (0, 24, []), .inr (0, 60, []), .inr (0, 60, []), .inr (0, 60, []), .inr (0, 24, []), .inl (0, [0, 0, 62, 63, 64, 65, 66]), .inr (0, 24, []), .inr (0, 60, []), .inr (0, 60, []), .inr (0, 60, []), .inr (0, 24, []), .inl (0, [0, 0, 68, 69, 70, 71, 72]), .inr (0, 24, []), .inr (0, 60, []), .inr (0, 60, []), .inr (0, 60, []), .inr (0, 24, []), .inl (0, [0, 0, 74, 75, 76, 77, 78]), .inr (0, 24, []), .inr (0, 60, []), .inr (0, 60, []), .inr (0, 60, []), .inr (0, 24, []), .inl (0, [0, 0, 80, 81, 82, 83, 84]), .inr (0, 24, []), .inr (0, 60, []), .inr (0, 60, []), .inr (0, 60, []), .inr (0, 24, []), .inl (0, [0, 0, 86, 87, 88, 89, 90]), .inr (0, 24, []), .inr (0, 60, []), .inr (0, 60, []), .inr (0, 60, []), .inr (0, 24, []), .inl (0, [0, 0, 92, 93, 94, 95, 96]), .inr (0, 24, []), .inr (0, 60, []), .inr (0, 60, []), .inr (0, 60, []), .inr (0, 24, []), .inl (0, [0, 0, 98, 99, 100, 101, 102]), .inr (0, 24, []), .inr (0, 60, []), .inr (0, 60, []), .inr (0, 60, []), .inr (0, 24, []), .inl (0, [0, 0, 104, 105, 106, 107, 108]), .inr (0, 24, []), .inr (0, 60, []), .inr (0, 60, []), .inr (0, 60, []), .inr (0, 24, []), .inl (0, [0, 0, 110, 111, 112, 113, 114]), .inr (0, 24, []), .inr (0, 60, []), .inr (0, 60, []), .inr (0, 60, []), .inr (0, 24, []), .inl (0, [0, 0, 116, 117, 118, 119, 120]), .inr (0, 24, []), .inr (0, 60, []), .inr (0, 60, []), .inr (0, 60, []), .inr (0, 24, []), .inl (0, [0, 0, 122, 123, 124, 125, 126]), .inr (0, 24, []), .inr (0, 60, []), .inr (0, 60, []), .inr (0, 60, []), .inr (0, 24, []), .inl (0, [0, 0, 128, 129, 130, 131, 132]), .inr (0, 24, []), .inr (0, 60, []), .inr (0, 60, []), .inr (0, 60, []), .inr (0, 24, []), .inl (0, [0, 0, 134, 135, 136, 137, 138]), .inr (0, 24, []), .inr (0, 60, []), .inr (0, 60, []), .inr (0, 60, []), .inr (0, 24, []), .inl (2, [0, 0, 0, 140, 141, 166, 0, 191]), .inr (0, 24, []), .inr (3, 24, [142, 143, 144, 145, 146, 147, 148, 149, 150, 151, 152, 153, 154, 155, 156, 157, 158, 159, 160, 161, 162, 163, 164, 165]), .inr (0, 24, []), .inr (0, 24, []), .inr (0, 24, []), .inr (0, 24, []), .inr (0, 24, []), .inr (0, 24, []), .inr (0, 24, []), .inr (0, 24, []), .inr (0, 24, []), .inr (0, 24, []), .inr (0, 24, []), .inr (0, 24, []), .inr (0, 24, []), .inr (0, 24, []), .inr (0, 24, []), .inr (0, 24, []), .inr (0, 24, []), .inr (0, 24, []), .inr (0, 24, []), .inr (0, 24, []), .inr (0, 24, []), .inr (0, 24, []), .inr (0, 24, []), .inr (0, 24, []), .inr (3, 24, [167, 168, 169, 170, 171, 172, 173, 174, 175, 176, 177, 178, 179, 180, 181, 182, 183, 184, 185, 186, 187, 188, 189, 190]), .inr (0, 24, []), .inr (0, 24, []), .inr (0, 24, []), .inr (0, 24, []), .inr (0, 24, []), .inr (0, 24, []), .inr (0, 24, []), .inr (0, 24, []), .inr (0, 24, []), .inr (0, 24, []), .inr (0, 24, []), .inr (0, 24, []), .inr (0, 24, []), .inr (0, 24, []), .inr (0, 24, []), .inr (0, 24, []), .inr (0, 24, []), .inr (0, 24, []), .inr (0, 24, []), .inr (0, 24, []), .inr (0, 24, []), .inr (0, 24, []), .inr (0, 24, []), .inr (0, 24, []), .inr (1, 24, []), .inl (1, [0, 0, 193, 194, 195, 196, 197]), .inr (0, 60, []), .inr (0, 60, []), .inr (0, 60, []), .inr (0, 24, []), .inr (0, 60, [])]
theorem zX1_init_191 {G : GT} {d : Nat} (hd : 1 ≤ d) {w : VT} {Q : Option Vl → List Sh → VT → Prop} (hv : ini w 192 [(0, 17)]) (hQ : ∀ w, ini w 197 [(0, 17)] → Q none zq322 w) : n_T G d 5 264 mX1_init 0 [vR 191] [] zs312 w Q := by
  refine T_aload_n dX1_init_0 rfl ?_
  refine T_objI dX1_init_1 lX1_3 w_oi w_oc (by omega) (Nat.le_of_ble_eq_true rfl) ?_
  refine T_aload_n dX1_init_4 rfl ?_
  refine T_iconst dX1_init_5 (by decide) ?_
  refine U_putZ (rs' := [0, 0, 0, 0, 0, 0, 0]) dX1_init_6 fX1_9 rfl rfl (by decide +kernel) (by decide) (fun w ew => ?_)
  replace hv := ini_put (E' := [(0, 17)]) hv ew (by decide) (by decide)
  clear ew
  refine T_aload_n dX1_init_9 rfl ?_
  refine T_iconst dX1_init_10 (by decide) ?_
  refine U_putI (rs' := [0, 0, 0, 0, 0, 0, 0]) dX1_init_11 fX1_15 rfl rfl (by decide +kernel) (fun w ew => ?_)
  replace hv := ini_put (E' := [(0, 17)]) hv ew (by decide) (by decide)
  clear ew
  refine T_aload_n dX1_init_14 rfl ?_
  refine T_bipush dX1_init_15 (by decide) ?_
  refine V_newa0 (n := 60) (L := 192) (rc' := 4) (rs' := 204) (sh' := zs313) dX1_init_17 (wsAll_place 173 (by decide +kernel) (by decide +kernel)) (by decide) (by decide +kernel) rfl (by decide) (by decide) (fun w ew => ?_)
  replace hv := ini_new (E' := [(0, 17)]) hv ew (by decide) (by decide)
  clear ew
  refine V_putF (sh' := zs314) (rs' := [0, 0, 0, 0, 0, 0, 0]) dX1_init_19 fX1_19 rfl rfl rfl rfl (by decide +kernel) rfl (by decide +kernel) ?_
  refine T_aload_n dX1_init_22 rfl ?_
  refine T_bipush dX1_init_23 (by decide) ?_
  refine V_newa0 (n := 60) (L := 193) (rc' := 3) (rs' := 144) (sh' := zs315) dX1_init_25 (wsAll_place 173 (by decide +kernel) (by decide +kernel)) (by decide) (by decide +kernel) rfl (by decide) (by decide) (fun w ew => ?_)
  replace hv := ini_new (E' := [(0, 17)]) hv ew (by decide) (by decide)
  clear ew
  refine V_putF (sh' := zs316) (rs' := [0, 0, 193, 0, 0, 0, 0]) dX1_init_27 fX1_23 rfl rfl rfl rfl (by decide +kernel) rfl (by decide +kernel) ?_
  refine T_aload_n dX1_init_30 rfl ?_
  refine T_bipush dX1_init_31 (by decide) ?_
  refine V_newa0 (n := 60) (L := 194) (rc' := 2) (rs' := 84) (sh' := zs317) dX1_init_33 (wsAll_place 173 (by decide +kernel) (by decide +kernel)) (by decide) (by decide +kernel) rfl (by decide) (by decide) (fun w ew => ?_)
  replace hv := ini_new (E' := [(0, 17)]) hv ew (by decide) (by decide)
  clear ew
  refine V_putF (sh' := zs318) (rs' := [0, 0, 193, 194, 0, 0, 0]) dX1_init_35 fX1_26 rfl rfl rfl rfl (by decide +kernel) rfl (by decide +kernel) ?_
  refine T_aload_n dX1_init_38 rfl ?_
  refine T_bipush dX1_init_39 (by decide) ?_
  refine V_newa0 (n := 24) (L := 195) (rc' := 1) (rs' := 60) (sh' := zs319) dX1_init_41 (wsAll_place 173 (by decide +kernel) (by decide +kernel)) (by decide) (by decide +kernel) rfl (by decide) (by decide) (fun w ew => ?_)
  replace hv := ini_new (E' := [(0, 17)]) hv ew (by decide) (by decide)
  clear ew
  refine V_putF (sh' := zs320) (rs' := [0, 0, 193, 194, 195, 0, 0]) dX1_init_43 fX1_29 rfl rfl rfl rfl (by decide +kernel) rfl (by decide +kernel) ?_
  refine T_aload_n dX1_init_46 rfl ?_
  refine T_bipush dX1_init_47 (by decide) ?_
  refine V_newa0 (n := 60) (L := 196) (rc' := 0) (rs' := 0) (sh' := zs321) dX1_init_49 (wsAll_place 173 (by decide +kernel) (by decide +kernel)) (by decide) (by decide +kernel) rfl (by decide) (by decide) (fun w ew => ?_)
  replace hv := ini_new (E' := [(0, 17)]) hv ew (by decide) (by decide)
  clear ew
  refine V_putF (sh' := zs322) (rs' := [0, 0, 193, 194, 195, 196, 0]) dX1_init_51 fX1_32 rfl rfl rfl rfl (by decide +kernel) rfl (by decide +kernel) ?_
  have ez : zs322 = zq322 := by decide +kernel
  rw [ez]
  exact T_vret dX1_init_54 rfl (hQ _ hv)
def zs324 : List Sh := zq322.set 0 (.inl (10, [2, 4, 11, 17, 139, 192, 0, 0, 0, 0, 0, 0, 0, 0, 0, 0, 0, 0]))
def zs325 : List Sh := zs324 ++ [.inl (8, [0, 0, 0, 0, 0, 0, 0, 0, 0])]
def zs326 : List Sh := zs325 ++ [.inr (0, 24, [])]
def zs327 : List Sh := zs326.set 197 (.inl (8, [0, 0, 0, 0, 0, 0, 0, 199, 0]))
def zs328 : List Sh := zs327 ++ [.inr (0, 60, [])]
def zs329 : List Sh := zs328.set 197 (.inl (8, [0, 0, 0, 0, 0, 0, 0, 199, 200]))
def zq329 : List Sh := [.inl (10, [2, 4, 11, 17, 139, 192, 0, 0, 0, 0, 0, 0, 0, 0, 0, 0, 0, 0]), .inl (9, [3, 0]), .inr (0, 800, []), .inl (5, [5, 0, 0, 0, 0, 0, 0, 0]), .inl (0, [0, 0, 6, 7, 8, 9, 10]), .inr (0, 24, []), .inr (0, 60, []), .inr (0, 60, []), .inr (0, 60, []), .inr (0, 24, []), .inl (0, [0, 0, 12, 13, 14, 15, 16]), .inr (0, 24, []), .inr (0, 60, []), .inr (0, 60, []), .inr (0, 60, []), .inr (0, 24, []), .inl (3, [0, 0, 18]), .inr (4, 20, [19, 25, 31, 37, 43, 49, 55, 61, 67, 73, 79, 85, 91, 97, 103, 109, 115, 121, 127, 133]), .inl (0, [0, 0, 20, 21, 22, 23, 24]), .inr (0, 24, []), .inr (0, 60, []), .inr (0, 60, []), .inr (0, 60, []), .inr (0, 24, []), .inl (0, [0, 0, 26, 27, 28, 29, 30]), .inr (0, 24, []), .inr (0, 60, []), .inr (0, 60, []), .inr (0, 60, []), .inr (0, 24, []), .inl (0, [0, 0, 32, 33, 34, 35, 36]), .inr (0, 24, []), .inr (0, 60, []), .inr (0, 60, []), .inr (0, 60, []), .inr (0, 24, []), .inl (0, [0, 0, 38, 39, 40, 41, 42]), .inr (0, 24, []), .inr (0, 60, []), .inr (0, 60, []), .inr (0, 60, []), .inr (0, 24, []), .inl (0, [0, 0, 44, 45, 46, 47, 48]), .inr (0, 24, []), .inr (0, 60, []), .inr (0, 60, []), .inr (0, 60, []), .inr (0, 24, []), .inl (0, [0, 0, 50, 51, 52, 53, 54]), .inr (0, 24, []), .inr (0, 60, []), .inr (0, 60, []), .inr (0, 60, []), .inr (0, 24, []), .inl (0, [0, 0, 56, 57, 58, 59, 60]), .inr (0, 24, []), .inr (0, 60, []), .inr (0, 60, []), .inr (0, 60, []), .inr (0, 24, []), .inl (0, [0, 0, 62, 63, 64, 65, 66]), .inr (0, 24, []), .inr (0, 60, []), .inr (0, 60, []), .inr (0, 60, []), .inr (0, 24, []), .inl (0, [0, 0, 68, 69, 70, 71, 72]), .inr (0, 24, []), .inr (0, 60, []), .inr (0, 60, []), .inr (0, 60, []), .inr (0, 24, []), .inl (0, [0, 0, 74, 75, 76, 77, 78]), .inr (0, 24, []), .inr (0, 60, []), .inr (0, 60, []), .inr (0, 60, []), .inr (0, 24, []), .inl (0, [0, 0, 80, 81, 82, 83, 84]), .inr (0, 24, []), .inr (0, 60, []), .inr (0, 60, []), .inr (0, 60, []), .inr (0, 24, []), .inl (0, [0, 0, 86, 87, 88, 89, 90]), .inr (0, 24, []), .inr (0, 60, []), .inr (0, 60, []), .inr (0, 60, []), .inr (0, 24, []), .inl (0, [0, 0, 92, 93, 94, 95, 96]), .inr (0, 24, []), .inr (0, 60, []), .inr (0, 60, []), .inr (0, 60, []), .inr (0, 24, []), .inl (0, [0, 0, 98, 99, 100, 101, 102]), .inr (0, 24, []), .inr (0, 60, []), .inr (0, 60, []), .inr (0, 60, []), .inr (0, 24, []), .inl (0, [0, 0, 104, 105, 106, 107, 108]), .inr (0, 24, []), .inr (0, 60, []), .inr (0, 60, []), .inr (0, 60, []), .inr (0, 24, []), .inl (0, [0, 0, 110, 111, 112, 113, 114]), .inr (0, 24, []), .inr (0, 60, []), .inr (0, 60, []), .inr (0, 60, []), .inr (0, 24, []), .inl (0, [0, 0, 116, 117, 118, 119, 120]), .inr (0, 24, []), .inr (0, 60, []), .inr (0, 60, []), .inr (0, 60, []), .inr (0, 24, []), .inl (0, [0, 0, 122, 123, 124, 125, 126]), .inr (0, 24, []), .inr (0, 60, []), .inr (0, 60, []), .inr (0, 60, []), .inr (0, 24, []), .inl (0, [0, 0, 128, 129, 130, 131, 132]), .inr (0, 24, []), .inr (0, 60, []), .inr (0, 60, []), .inr (0, 60, []), .inr (0, 24, []), .inl (0, [0, 0, 134, 135, 136, 137, 138]), .inr (0, 24, []), .inr (0, 60, []), .inr (0, 60, []), .inr (0, 60, []), .inr (0, 24, []), .inl (2, [0, 0, 0, 140, 141, 166, 0, 191]), .inr (0, 24, []), .inr (3, 24, [142, 143, 144, 145, 146, 147, 148, 149, 150, 151, 152, 153, 154, 155, 156, 157, 158, 159, 160, 161, 162, 163, 164, 165]), .inr (0, 24, []), .inr (0, 24, []), .inr (0, 24, []), .inr (0, 24, []), .inr (0, 24, []), .inr (0, 24, []), .inr (0, 24, []), .inr (0, 24, []), .inr (0, 24, []), .inr (0, 24, []), .inr (0, 24, []), .inr (0, 24, []), .inr (0, 24, []), .inr (0, 24, []), .inr (0, 24, []), .inr (0, 24, []), .inr (0, 24, []), .inr (0, 24, []), .inr (0, 24, []), .inr (0, 24, []), .inr (0, 24, []), .inr (0, 24, []), .inr (0, 24, []), .inr (0, 24, []), .inr (3, 24, [167, 168, 169, 170, 171, 172, 173, 174, 175, 176, 177, 178, 179, 180, 181, 182, 183, 184, 185, 186, 187, 188, 189, 190]), .inr (0, 24, []), .inr (0, 24, []), .inr (0, 24, []), .inr (0, 24, []), .inr (0, 24, []), .inr (0, 24, []), .inr (0, 24, []), .inr (0, 24, []), .inr (0, 24, []), .inr (0, 24, []), .inr (0, 24, []), .inr (0, 24, []), .inr (0, 24, []), .inr (0, 24, []), .inr (0, 24, []), .inr (0, 24, []), .inr (0, 24, []), .inr (0, 24, []), .inr (0, 24, []), .inr (0, 24, []), .inr (0, 24, []), .inr (0, 24, []), .inr (0, 24, []), .inr (0, 24, []), .inr (1, 24, []), .inl (1, [0, 0, 193, 194, 195, 196, 197]), .inr (0, 60, []), .inr (0, 60, []), .inr (0, 60, []), .inr (0, 24, []), .inr (0, 60, []), .inl (8, [0, 0, 0, 0, 0, 0, 0, 199, 200]), .inr (0, 24, []), .inr (0, 60, [])]
theorem zX8_init_197 {G : GT} {d : Nat} (hd : 1 ≤ d) {w : VT} {Q : Option Vl → List Sh → VT → Prop} (hv : ini w 198 [(0, 17), (197, 3), (197, 4)]) (hQ : ∀ w, ini w 200 [(0, 17)] → Q none zq329 w) : n_T G d 2 84 mX8_init 0 [vR 197] [] zs325 w Q := by
  refine T_aload_n dX8_init_0 rfl ?_
  refine T_objI dX8_init_1 lX8_3 w_oi w_oc (by omega) (Nat.le_of_ble_eq_true rfl) ?_
  refine T_aload_n dX8_init_4 rfl ?_
  refine T_iconst dX8_init_5 (by decide) ?_
  refine U_putZ (rs' := [0, 0, 0, 0, 0, 0, 0, 0, 0]) dX8_init_6 fX8_9 rfl rfl (by decide +kernel) (by decide) (fun w ew => ?_)
  replace hv := ini_put (E' := [(0, 17), (197, 3), (197, 4)]) hv ew (by decide) (by decide)
  clear ew
  refine T_aload_n dX8_init_9 rfl ?_
  refine T_iconst dX8_init_10 (by decide) ?_
  refine U_putZ (rs' := [0, 0, 0, 0, 0, 0, 0, 0, 0]) dX8_init_11 fX8_15 rfl rfl (by decide +kernel) (by decide) (fun w ew => ?_)
  replace hv := ini_put (E' := [(0, 17), (197, 3), (197, 4)]) hv ew (by decide) (by decide)
  clear ew
  refine T_aload_n dX8_init_14 rfl ?_
  refine T_iconst dX8_init_15 (by decide) ?_
  refine U_putI (rs' := [0, 0, 0, 0, 0, 0, 0, 0, 0]) dX8_init_16 fX8_18 rfl rfl (by decide +kernel) (fun w ew => ?_)
  replace hv := ini_put (E' := [(0, 17), (197, 3), (197, 4)]) hv ew (by decide) (by decide)
  clear ew
  refine T_aload_n dX8_init_19 rfl ?_
  refine T_iconst dX8_init_20 (by decide) ?_
  refine U_putI (rs' := [0, 0, 0, 0, 0, 0, 0, 0, 0]) dX8_init_21 fX8_22 rfl rfl (by decide +kernel) (fun w ew => ?_)
  replace hv := ini_put (E' := [(0, 17), (197, 4)]) hv ew (by decide) (by decide)
  clear ew
  refine T_aload_n dX8_init_24 rfl ?_
  refine T_iconst dX8_init_25 (by decide) ?_
  refine U_putI (rs' := [0, 0, 0, 0, 0, 0, 0, 0, 0]) dX8_init_26 fX8_25 rfl rfl (by decide +kernel) (fun w ew => ?_)
  replace hv := ini_put (E' := [(0, 17)]) hv ew (by decide) (by decide)
  clear ew
  refine T_aload_n dX8_init_29 rfl ?_
  refine T_iconst dX8_init_30 (by decide) ?_
  refine U_putI (rs' := [0, 0, 0, 0, 0, 0, 0, 0, 0]) dX8_init_31 fX8_28 rfl rfl (by decide +kernel) (fun w ew => ?_)
  replace hv := ini_put (E' := [(0, 17)]) hv ew (by decide) (by decide)
  clear ew
  refine T_aload_n dX8_init_34 rfl ?_
  refine T_iconst dX8_init_35 (by decide) ?_
  refine U_putI (rs' := [0, 0, 0, 0, 0, 0, 0, 0, 0]) dX8_init_36 fX8_31 rfl rfl (by decide +kernel) (fun w ew => ?_)
  replace hv := ini_put (E' := [(0, 17)]) hv ew (by decide) (by decide)
  clear ew
  refine T_aload_n dX8_init_39 rfl ?_
  refine T_bipush dX8_init_40 (by decide) ?_
  refine V_newa0 (n := 24) (L := 198) (rc' := 1) (rs' := 60) (sh' := zs326) dX8_init_42 (wsAll_place 173 (by decide +kernel) (by decide +kernel)) (by decide) (by decide +kernel) rfl (by decide) (by decide) (fun w ew => ?_)
  replace hv := ini_new (E' := [(0, 17)]) hv ew (by decide) (by decide)
  clear ew
  refine V_putF (sh' := zs327) (rs' := [0, 0, 0, 0, 0, 0, 0, 0, 0]) dX8_init_44 fX8_34 rfl rfl rfl rfl (by decide +kernel) rfl (by decide +kernel) ?_
  refine T_aload_n dX8_init_47 rfl ?_
  refine T_bipush dX8_init_48 (by decide) ?_
  refine V_newa0 (n := 60) (L := 199) (rc' := 0) (rs' := 0) (sh' := zs328) dX8_init_50 (wsAll_place 173 (by decide +kernel) (by decide +kernel)) (by decide) (by decide +kernel) rfl (by decide) (by decide) (fun w ew => ?_)
  replace hv := ini_new (E' := [(0, 17)]) hv ew (by decide) (by decide)
  clear ew
  refine V_putF (sh' := zs329) (rs' := [0, 0, 0, 0, 0, 0, 0, 199, 0]) dX8_init_52 fX8_38 rfl rfl rfl rfl (by decide +kernel) rfl (by decide +kernel) ?_
  have ez : zs329 = zq329 := by decide +kernel
  rw [ez]
  exact T_vret dX8_init_55 rfl (hQ _ hv)
def zs331 : List Sh := zq329.set 0 (.inl (10, [2, 4, 11, 17, 139, 192, 198, 0, 0, 0, 0, 0, 0, 0, 0, 0, 0, 0]))
def zs332 : List Sh := zs331 ++ [.inl (6, [0, 0, 0])]
def zs333 : List Sh := zs332 ++ [.inr (0, 24, [])]
def zs334 : List Sh := zs333.set 200 (.inl (6, [202, 0, 0]))
def zs335 : List Sh := zs334 ++ [.inr (0, 24, [])]
def zs336 : List Sh := zs335.set 200 (.inl (6, [202, 203, 0]))
def zq336 : List Sh := [.inl (10, [2, 4, 11, 17, 139, 192, 198, 0, 0, 0, 0, 0, 0, 0, 0, 0, 0, 0]), .inl (9, [3, 0]), .inr (0, 800, []), .inl (5, [5, 0, 0, 0, 0, 0, 0, 0]), .inl (0, [0, 0, 6, 7, 8, 9, 10]), .inr (0, 24, []), .inr (0, 60, []), .inr (0, 60, []), .inr (0, 60, []), .inr (0, 24, []), .inl (0, [0, 0, 12, 13, 14, 15, 16]), .inr (0, 24, []), .inr (0, 60, []), .inr (0, 60, []), .inr (0, 60, []), .inr (0, 24, []), .inl (3, [0, 0, 18]), .inr (4, 20, [19, 25, 31, 37, 43, 49, 55, 61, 67, 73, 79, 85, 91, 97, 103, 109, 115, 121, 127, 133]), .inl (0, [0, 0, 20, 21, 22, 23, 24]), .inr (0, 24, []), .inr (0, 60, []), .inr (0, 60, []), .inr (0, 60, []), .inr (0, 24, []), .inl (0, [0, 0, 26, 27, 28, 29, 30]), .inr (0, 24, []), .inr (0, 60, []), .inr (0, 60, []), .inr (0, 60, []), .inr (0, 24, []), .inl (0, [0, 0, 32, 33, 34, 35, 36]), .inr (0, 24, []), .inr (0, 60, []), .inr (0, 60, []), .inr (0, 60, []), .inr (0, 24, []), .inl (0, [0, 0, 38, 39, 40, 41, 42]), .inr (0, 24, []), .inr (0, 60, []), .inr (0, 60, []), .inr (0, 60, []), .inr (0, 24, []), .inl (0, [0, 0, 44, 45, 46, 47, 48]), .inr (0, 24, []), .inr (0, 60, []), .inr (0, 60, []), .inr (0, 60, []), .inr (0, 24, []), .inl (0, [0, 0, 50, 51, 52, 53, 54]), .inr (0, 24, []), .inr (0, 60, []), .inr (0, 60, []), .inr (0, 60, []), .inr (0, 24, []), .inl (0, [0, 0, 56, 57, 58, 59, 60]), .inr (0, 24, []), .inr (0, 60, []), .inr (0, 60, []), .inr (0, 60, []), .inr (0, 24, []), .inl (0, [0, 0, 62, 63, 64, 65, 66]), .inr (0, 24, []), .inr (0, 60, []), .inr (0, 60, []), .inr (0, 60, []), .inr (0, 24, []), .inl (0, [0, 0, 68, 69, 70, 71, 72]), .inr (0, 24, []), .inr (0, 60, []), .inr (0, 60, []), .inr (0, 60, []), .inr (0, 24, []), .inl (0, [0, 0, 74, 75, 76, 77, 78]), .inr (0, 24, []), .inr (0, 60, []), .inr (0, 60, []), .inr (0, 60, []), .inr (0, 24, []), .inl (0, [0, 0, 80, 81, 82, 83, 84]), .inr (0, 24, []), .inr (0, 60, []), .inr (0, 60, []), .inr (0, 60, []), .inr (0, 24, []), .inl (0, [0, 0, 86, 87, 88, 89, 90]), .inr (0, 24, []), .inr (0, 60, []), .inr (0, 60, []), .inr (0, 60, []), .inr (0, 24, []), .inl (0, [0, 0, 92, 93, 94, 95, 96]), .inr (0, 24, []), .inr (0, 60, []), .inr (0, 60, []), .inr (0, 60, []), .inr (0, 24, []), .inl (0, [0, 0, 98, 99, 100, 101, 102]), .inr (0, 24, []), .inr (0, 60, []), .inr (0, 60, []), .inr (0, 60, []), .inr (0, 24, []), .inl (0, [0, 0, 104, 105, 106, 107, 108]), .inr (0, 24, []), .inr (0, 60, []), .inr (0, 60, []), .inr (0, 60, []), .inr (0, 24, []), .inl (0, [0, 0, 110, 111, 112, 113, 114]), .inr (0, 24, []), .inr (0, 60, []), .inr (0, 60, []), .inr (0, 60, []), .inr (0, 24, []), .inl (0, [0, 0, 116, 117, 118, 119, 120]), .inr (0, 24, []), .inr (0, 60, []), .inr (0, 60, []), .inr (0, 60, []), .inr (0, 24, []), .inl (0, [0, 0, 122, 123, 124, 125, 126]), .inr (0, 24, []), .inr (0, 60, []), .inr (0, 60, []), .inr (0, 60, []), .inr (0, 24, []), .inl (0, [0, 0, 128, 129, 130, 131, 132]), .inr (0, 24, []), .inr (0, 60, []), .inr (0, 60, []), .inr (0, 60, []), .inr (0, 24, []), .inl (0, [0, 0, 134, 135, 136, 137, 138]), .inr (0, 24, []), .inr (0, 60, []), .inr (0, 60, []), .inr (0, 60, []), .inr (0, 24, []), .inl (2, [0, 0, 0, 140, 141, 166, 0, 191]), .inr (0, 24, []), .inr (3, 24, [142, 143, 144, 145, 146, 147, 148, 149, 150, 151, 152, 153, 154, 155, 156, 157, 158, 159, 160, 161, 162, 163, 164, 165]), .inr (0, 24, []), .inr (0, 24, []), .inr (0, 24, []), .inr (0, 24, []), .inr (0, 24, []), .inr (0, 24, []), .inr (0, 24, []), .inr (0, 24, []), .inr (0, 24, []), .inr (0, 24, []), .inr (0, 24, []), .inr (0, 24, []), .inr (0, 24, []), .inr (0, 24, []), .inr (0, 24, []), .inr (0, 24, []), .inr (0, 24, []), .inr (0, 24, []), .inr (0, 24, []), .inr (0, 24, []), .inr (0, 24, []), .inr (0, 24, []), .inr (0, 24, []), .inr (0, 24, []), .inr (3, 24, [167, 168, 169, 170, 171, 172, 173, 174, 175, 176, 177, 178, 179, 180, 181, 182, 183, 184, 185, 186, 187, 188, 189, 190]), .inr (0, 24, []), .inr (0, 24, []), .inr (0, 24, []), .inr (0, 24, []), .inr (0, 24, []), .inr (0, 24, []), .inr (0, 24, []), .inr (0, 24, []), .inr (0, 24, []), .inr (0, 24, []), .inr (0, 24, []), .inr (0, 24, []), .inr (0, 24, []), .inr (0, 24, []), .inr (0, 24, []), .inr (0, 24, []), .inr (0, 24, []), .inr (0, 24, []), .inr (0, 24, []), .inr (0, 24, []), .inr (0, 24, []), .inr (0, 24, []), .inr (0, 24, []), .inr (0, 24, []), .inr (1, 24, []), .inl (1, [0, 0, 193, 194, 195, 196, 197]), .inr (0, 60, []), .inr (0, 60, []), .inr (0, 60, []), .inr (0, 24, []), .inr (0, 60, []), .inl (8, [0, 0, 0, 0, 0, 0, 0, 199, 200]), .inr (0, 24, []), .inr (0, 60, []), .inl (6, [202, 203, 0]), .inr (0, 24, []), .inr (0, 24, [])]
theorem zX6_init_200 {G : GT} {d : Nat} (hd : 1 ≤ d) {w : VT} {Q : Option Vl → List Sh → VT → Prop} (hv : ini w 201 [(0, 17)]) (hQ : ∀ w, ini w 203 [(0, 17)] → Q none zq336 w) : n_T G d 2 48 mX6_init 0 [vR 200] [] zs332 w Q := by
  refine T_aload_n dX6_init_0 rfl ?_
  refine T_objI dX6_init_1 lX6_3 w_oi w_oc (by omega) (Nat.le_of_ble_eq_true rfl) ?_
  refine T_aload_n dX6_init_4 rfl ?_
  refine T_bipush dX6_init_5 (by decide) ?_
  refine V_newa0 (n := 24) (L := 201) (rc' := 1) (rs' := 24) (sh' := zs333) dX6_init_7 (wsAll_place 173 (by decide +kernel) (by decide +kernel)) (by decide) (by decide +kernel) rfl (by decide) (by decide) (fun w ew => ?_)
  replace hv := ini_new (E' := [(0, 17)]) hv ew (by decide) (by decide)
  clear ew
  refine V_putF (sh' := zs334) (rs' := [0, 0, 0]) dX6_init_9 fX6_9 rfl rfl rfl rfl (by decide +kernel) rfl (by decide +kernel) ?_
  refine T_aload_n dX6_init_12 rfl ?_
  refine T_bipush dX6_init_13 (by decide) ?_
  refine V_newa0 (n := 24) (L := 202) (rc' := 0) (rs' := 0) (sh' := zs335) dX6_init_15 (wsAll_place 173 (by decide +kernel) (by decide +kernel)) (by decide) (by decide +kernel) rfl (by decide) (by decide) (fun w ew => ?_)
  replace hv := ini_new (E' := [(0, 17)]) hv ew (by decide) (by decide)
  clear ew
  refine V_putF (sh' := zs336) (rs' := [202, 0, 0]) dX6_init_17 fX6_15 rfl rfl rfl rfl (by decide +kernel) rfl (by decide +kernel) ?_
  refine T_aload_n dX6_init_20 rfl ?_
  refine T_iconst dX6_init_21 (by decide) ?_
  refine U_putI (rs' := [202, 203, 0]) dX6_init_22 fX6_18 rfl rfl (by decide +kernel) (fun w ew => ?_)
  replace hv := ini_put (E' := [(0, 17)]) hv ew (by decide) (by decide)
  clear ew
  have ez : zs336 = zq336 := by decide +kernel
  rw [ez]
  exact T_vret dX6_init_25 rfl (hQ _ hv)
def zs338 : List Sh := zq336.set 0 (.inl (10, [2, 4, 11, 17, 139, 192, 198, 201, 0, 0, 0, 0, 0, 0, 0, 0, 0, 0]))
def zs339 : List Sh := zs338 ++ [.inl (7, [0, 0, 0])]
def zs340 : List Sh := zs339 ++ [.inr (0, 60, [])]
def zs341 : List Sh := zs340.set 203 (.inl (7, [0, 0, 205]))
def zq341 : List Sh := [.inl (10, [2, 4, 11, 17, 139, 192, 198, 201, 0, 0, 0, 0, 0, 0, 0, 0, 0, 0]), .inl (9, [3, 0]), .inr (0, 800, []), .inl (5, [5, 0, 0, 0, 0, 0, 0, 0]), .inl (0, [0, 0, 6, 7, 8, 9, 10]), .inr (0, 24, []), .inr (0, 60, []), .inr (0, 60, []), .inr (0, 60, []), .inr (0, 24, []), .inl (0, [0, 0, 12, 13, 14, 15, 16]), .inr (0, 24, []), .inr (0, 60, []), .inr (0, 60, []), .inr (0, 60, []), .inr (0, 24, []), .inl (3, [0, 0, 18]), .inr (4, 20, [19, 25, 31, 37, 43, 49, 55, 61, 67, 73, 79, 85, 91, 97, 103, 109, 115, 121, 127, 133]), .inl (0, [0, 0, 20, 21, 22, 23, 24]), .inr (0, 24, []), .inr (0, 60, []), .inr (0, 60, []), .inr (0, 60, []), .inr (0, 24, []), .inl (0, [0, 0, 26, 27, 28, 29, 30]), .inr (0, 24, []), .inr (0, 60, []), .inr (0, 60, []), .inr (0, 60, []), .inr (0, 24, []), .inl (0, [0, 0, 32, 33, 34, 35, 36]), .inr (0, 24, []), .inr (0, 60, []), .inr (0, 60, []), .inr (0, 60, []), .inr (0, 24, []), .inl (0, [0, 0, 38, 39, 40, 41, 42]), .inr (0, 24, []), .inr (0, 60, []), .inr (0, 60, []), .inr (0, 60, []), .inr (0, 24, []), .inl (0, [0, 0, 44, 45, 46, 47, 48]), .inr (0, 24, []), .inr (0, 60, []), .inr (0, 60, []), .inr (0, 60, []), .inr (0, 24, []), .inl (0, [0, 0, 50, 51, 52, 53, 54]), .inr (0, 24, []), .inr (0, 60, []), .inr (0, 60, []), .inr (0, 60, []), .inr (0, 24, []), .inl (0, [0, 0, 56, 57, 58, 59, 60]), .inr (0, 24, []), .inr (0, 60, []), .inr (0, 60, []), .inr (0, 60, []), .inr (0, 24, []), .inl (0, [0, 0, 62, 63, 64, 65, 66]), .inr (0, 24, []), .inr (0, 60, []), .inr (0, 60, []), .inr (0, 60, []), .inr (0, 24, []), .inl (0, [0, 0, 68, 69, 70, 71, 72]), .inr (0, 24, []), .inr (0, 60, []), .inr (0, 60, []), .inr (0, 60, []), .inr (0, 24, []), .inl (0, [0, 0, 74, 75, 76, 77, 78]), .inr (0, 24, []), .inr (0, 60, []), .inr (0, 60, []), .inr (0, 60, []), .inr (0, 24, []), .inl (0, [0, 0, 80, 81, 82, 83, 84]), .inr (0, 24, []), .inr (0, 60, []), .inr (0, 60, []), .inr (0, 60, []), .inr (0, 24, []), .inl (0, [0, 0, 86, 87, 88, 89, 90]), .inr (0, 24, []), .inr (0, 60, []), .inr (0, 60, []), .inr (0, 60, []), .inr (0, 24, []), .inl (0, [0, 0, 92, 93, 94, 95, 96]), .inr (0, 24, []), .inr (0, 60, []), .inr (0, 60, []), .inr (0, 60, []), .inr (0, 24, []), .inl (0, [0, 0, 98, 99, 100, 101, 102]), .inr (0, 24, []), .inr (0, 60, []), .inr (0, 60, []), .inr (0, 60, []), .inr (0, 24, []), .inl (0, [0, 0, 104, 105, 106, 107, 108]), .inr (0, 24, []), .inr (0, 60, []), .inr (0, 60, []), .inr (0, 60, []), .inr (0, 24, []), .inl (0, [0, 0, 110, 111, 112, 113, 114]), .inr (0, 24, []), .inr (0, 60, []), .inr (0, 60, []), .inr (0, 60, []), .inr (0, 24, []), .inl (0, [0, 0, 116, 117, 118, 119, 120]), .inr (0, 24, []), .inr (0, 60, []), .inr (0, 60, []), .inr (0, 60, []), .inr (0, 24, []), .inl (0, [0, 0, 122, 123, 124, 125, 126]), .inr (0, 24, []), .inr (0, 60, []), .inr (0, 60, []), .inr (0, 60, []), .inr (0, 24, []), .inl (0, [0, 0, 128, 129, 130, 131, 132]), .inr (0, 24, []), .inr (0, 60, []), .inr (0, 60, []), .inr (0, 60, []), .inr (0, 24, []), .inl (0, [0, 0, 134, 135, 136, 137, 138]), .inr (0, 24, []), .inr (0, 60, []), .inr (0, 60, []), .inr (0, 60, []), .inr (0, 24, []), .inl (2, [0, 0, 0, 140, 141, 166, 0, 191]), .inr (0, 24, []), .inr (3, 24, [142, 143, 144, 145, 146, 147, 148, 149, 150, 151, 152, 153, 154, 155, 156, 157, 158, 159, 160, 161, 162, 163, 164, 165]), .inr (0, 24, []), .inr (0, 24, []), .inr (0, 24, []), .inr (0, 24, []), .inr (0, 24, []), .inr (0, 24, []), .inr (0, 24, []), .inr (0, 24, []), .inr (0, 24, []), .inr (0, 24, []), .inr (0, 24, []), .inr (0, 24, []), .inr (0, 24, []), .inr (0, 24, []), .inr (0, 24, []), .inr (0, 24, []), .inr (0, 24, []), .inr (0, 24, []), .inr (0, 24, []), .inr (0, 24, []), .inr (0, 24, []), .inr (0, 24, []), .inr (0, 24, []), .inr (0, 24, []), .inr (3, 24, [167, 168, 169, 170, 171, 172, 173, 174, 175, 176, 177, 178, 179, 180, 181, 182, 183, 184, 185, 186, 187, 188, 189, 190]), .inr (0, 24, []), .inr (0, 24, []), .inr (0, 24, []), .inr (0, 24, []), .inr (0, 24, []), .inr (0, 24, []), .inr (0, 24, []), .inr (0, 24, []), .inr (0, 24, []), .inr (0, 24, []), .inr (0, 24, []), .inr (0, 24, []), .inr (0, 24, []), .inr (0, 24, []), .inr (0, 24, []), .inr (0, 24, []), .inr (0, 24, []), .inr (0, 24, []), .inr (0, 24, []), .inr (0, 24, []), .inr (0, 24, []), .inr (0, 24, []), .inr (0, 24, []), .inr (0, 24, []), .inr (1, 24, []), .inl (1, [0, 0, 193, 194, 195, 196, 197]), .inr (0, 60, []), .inr (0, 60, []), .inr (0, 60, []), .inr (0, 24, []), .inr (0, 60, []), .inl (8, [0, 0, 0, 0, 0, 0, 0, 199, 200]), .inr (0, 24, []), .inr (0, 60, []), .inl (6, [202, 203, 0]), .inr (0, 24, []), .inr (0, 24, []), .inl (7, [0, 0, 205]), .inr (0, 60, [])]
theorem zX7_init_203 {G : GT} {d : Nat} (hd : 1 ≤ d) {w : VT} {Q : Option Vl → List Sh → VT → Prop} (hv : ini w 204 [(0, 17)]) (hQ : ∀ w, ini w 205 [(0, 17)] → Q none zq341 w) : n_T G d 1 60 mX7_init 0 [vR 203] [] zs339 w Q := by
  refine T_aload_n dX7_init_0 rfl ?_
  refine T_objI dX7_init_1 lX7_3 w_oi w_oc (by omega) (Nat.le_of_ble_eq_true rfl) ?_
  refine T_aload_n dX7_init_4 rfl ?_
  refine T_iconst dX7_init_5 (by decide) ?_
  refine U_putI (rs' := [0, 0, 0]) dX7_init_6 fX7_9 rfl rfl (by decide +kernel) (fun w ew => ?_)
  replace hv := ini_put (E' := [(0, 17)]) hv ew (by decide) (by decide)
  clear ew
  refine T_aload_n dX7_init_9 rfl ?_
  refine T_iconst dX7_init_10 (by decide) ?_
  refine U_putI (rs' := [0, 0, 0]) dX7_init_11 fX7_15 rfl rfl (by decide +kernel) (fun w ew => ?_)
  replace hv := ini_put (E' := [(0, 17)]) hv ew (by decide) (by decide)
  clear ew
  refine T_aload_n dX7_init_14 rfl ?_
  refine T_bipush dX7_init_15 (by decide) ?_
  refine V_newa0 (n := 60) (L := 204) (rc' := 0) (rs' := 0) (sh' := zs340) dX7_init_17 (wsAll_place 173 (by decide +kernel) (by decide +kernel)) (by decide) (by decide +kernel) rfl (by decide) (by decide) (fun w ew => ?_)
  replace hv := ini_new (E' := [(0, 17)]) hv ew (by decide) (by decide)
  clear ew
  refine V_putF (sh' := zs341) (rs' := [0, 0, 0]) dX7_init_19 fX7_18 rfl rfl rfl rfl (by decide +kernel) rfl (by decide +kernel) ?_
  have ez : zs341 = zq341 := by decide +kernel
  rw [ez]
  exact T_vret dX7_init_22 rfl (hQ _ hv)
def zs343 : List Sh := zq341.set 0 (.inl (10, [2, 4, 11, 17, 139, 192, 198, 201, 204, 0, 0, 0, 0, 0, 0, 0, 0, 0]))
def zs344 : List Sh := zs343 ++ [.inl (4, [0, 0, 0])]
def zs345 : List Sh := zs344 ++ [.inr (0, 123, [])]
def zs346 : List Sh := zs345.set 205 (.inl (4, [207, 0, 0]))
def zs347 : List Sh := zs346 ++ [.inl (0, [0, 0, 0, 0, 0, 0, 0])]
def zs348 : List Sh := zs347 ++ [.inr (0, 24, [])]
def zs349 : List Sh := zs348.set 207 (.inl (0, [0, 0, 209, 0, 0, 0, 0]))
def zs350 : List Sh := zs349 ++ [.inr (0, 60, [])]
def zs351 : List Sh := zs350.set 207 (.inl (0, [0, 0, 209, 210, 0, 0, 0]))
def zs352 : List Sh := zs351 ++ [.inr (0, 60, [])]
def zs353 : List Sh := zs352.set 207 (.inl (0, [0, 0, 209, 210, 211, 0, 0]))
def zs354 : List Sh := zs353 ++ [.inr (0, 60, [])]
def zs355 : List Sh := zs354.set 207 (.inl (0, [0, 0, 209, 210, 211, 212, 0]))
def zs356 : List Sh := zs355 ++ [.inr (0, 24, [])]
def zs357 : List Sh := zs356.set 207 (.inl (0, [0, 0, 209, 210, 211, 212, 213]))
def zq357 : List Sh := [.inl (10, [2, 4, 11, 17, 139, 192, 198, 201, 204, 0, 0, 0, 0, 0, 0, 0, 0, 0]), .inl (9, [3, 0]), .inr (0, 800, []), .inl (5, [5, 0, 0, 0, 0, 0, 0, 0]), .inl (0, [0, 0, 6, 7, 8, 9, 10]), .inr (0, 24, []), .inr (0, 60, []), .inr (0, 60, []), .inr (0, 60, []), .inr (0, 24, []), .inl (0, [0, 0, 12, 13, 14, 15, 16]), .inr (0, 24, []), .inr (0, 60, []), .inr (0, 60, []), .inr (0, 60, []), .inr (0, 24, []), .inl (3, [0, 0, 18]), .inr (4, 20, [19, 25, 31, 37, 43, 49, 55, 61, 67, 73, 79, 85, 91, 97, 103, 109, 115, 121, 127, 133]), .inl (0, [0, 0, 20, 21, 22, 23, 24]), .inr (0, 24, []), .inr (0, 60, []), .inr (0, 60, []), .inr (0, 60, []), .inr (0, 24, []), .inl (0, [0, 0, 26, 27, 28, 29, 30]), .inr (0, 24, []), .inr (0, 60, []), .inr (0, 60, []), .inr (0, 60, []), .inr (0, 24, []), .inl (0, [0, 0, 32, 33, 34, 35, 36]), .inr (0, 24, []), .inr (0, 60, []), .inr (0, 60, []), .inr (0, 60, []), .inr (0, 24, []), .inl (0, [0, 0, 38, 39, 40, 41, 42]), .inr (0, 24, []), .inr (0, 60, []), .inr (0, 60, []), .inr (0, 60, []), .inr (0, 24, []), .inl (0, [0, 0, 44, 45, 46, 47, 48]), .inr (0, 24, []), .inr (0, 60, []), .inr (0, 60, []), .inr (0, 60, []), .inr (0, 24, []), .inl (0, [0, 0, 50, 51, 52, 53, 54]), .inr (0, 24, []), .inr (0, 60, []), .inr (0, 60, []), .inr (0, 60, []), .inr (0, 24, []), .inl (0, [0, 0, 56, 57, 58, 59, 60]), .inr (0, 24, []), .inr (0, 60, []), .inr (0, 60, []), .inr (0, 60, []), .inr (0, 24, []), .inl (0, [0, 0, 62, 63, 64, 65, 66]), .inr (0, 24, []), .inr (0, 60, []), .inr (0, 60, []), .inr (0, 60, []), .inr (0, 24, []), .inl (0, [0, 0, 68, 69, 70, 71, 72]), .inr (0, 24, []), .inr (0, 60, []), .inr (0, 60, []), .inr (0, 60, []), .inr (0, 24, []), .inl (0, [0, 0, 74, 75, 76, 77, 78]), .inr (0, 24, []), .inr (0, 60, []), .inr (0, 60, []), .inr (0, 60, []), .inr (0, 24, []), .inl (0, [0, 0, 80, 81, 82, 83, 84]), .inr (0, 24, []), .inr (0, 60, []), .inr (0, 60, []), .inr (0, 60, []), .inr (0, 24, []), .inl (0, [0, 0, 86, 87, 88, 89, 90]), .inr (0, 24, []), .inr (0, 60, []), .inr (0, 60, []), .inr (0, 60, []), .inr (0, 24, []), .inl (0, [0, 0, 92, 93, 94, 95, 96]), .inr (0, 24, []), .inr (0, 60, []), .inr (0, 60, []), .inr (0, 60, []), .inr (0, 24, []), .inl (0, [0, 0, 98, 99, 100, 101, 102]), .inr (0, 24, []), .inr (0, 60, []), .inr (0, 60, []), .inr (0, 60, []), .inr (0, 24, []), .inl (0, [0, 0, 104, 105, 106, 107, 108]), .inr (0, 24, []), .inr (0, 60, []), .inr (0, 60, []), .inr (0, 60, []), .inr (0, 24, []), .inl (0, [0, 0, 110, 111, 112, 113, 114]), .inr (0, 24, []), .inr (0, 60, []), .inr (0, 60, []), .inr (0, 60, []), .inr (0, 24, []), .inl (0, [0, 0, 116, 117, 118, 119, 120]), .inr (0, 24, []), .inr (0, 60, []), .inr (0, 60, []), .inr (0, 60, []), .inr (0, 24, []), .inl (0, [0, 0, 122, 123, 124, 125, 126]), .inr (0, 24, []), .inr (0, 60, []), .inr (0, 60, []), .inr (0, 60, []), .inr (0, 24, []), .inl (0, [0, 0, 128, 129, 130, 131, 132]), .inr (0, 24, []), .inr (0, 60, []), .inr (0, 60, []), .inr (0, 60, []), .inr (0, 24, []), .inl (0, [0, 0, 134, 135, 136, 137, 138]), .inr (0, 24, []), .inr (0, 60, []), .inr (0, 60, []), .inr (0, 60, []), .inr (0, 24, []), .inl (2, [0, 0, 0, 140, 141, 166, 0, 191]), .inr (0, 24, []), .inr (3, 24, [142, 143, 144, 145, 146, 147, 148, 149, 150, 151, 152, 153, 154, 155, 156, 157, 158, 159, 160, 161, 162, 163, 164, 165]), .inr (0, 24, []), .inr (0, 24, []), .inr (0, 24, []), .inr (0, 24, []), .inr (0, 24, []), .inr (0, 24, []), .inr (0, 24, []), .inr (0, 24, []), .inr (0, 24, []), .inr (0, 24, []), .inr (0, 24, []), .inr (0, 24, []), .inr (0, 24, []), .inr (0, 24, []), .inr (0, 24, []), .inr (0, 24, []), .inr (0, 24, []), .inr (0, 24, []), .inr (0, 24, []), .inr (0, 24, []), .inr (0, 24, []), .inr (0, 24, []), .inr (0, 24, []), .inr (0, 24, []), .inr (3, 24, [167, 168, 169, 170, 171, 172, 173, 174, 175, 176, 177, 178, 179, 180, 181, 182, 183, 184, 185, 186, 187, 188, 189, 190]), .inr (0, 24, []), .inr (0, 24, []), .inr (0, 24, []), .inr (0, 24, []), .inr (0, 24, []), .inr (0, 24, []), .inr (0, 24, []), .inr (0, 24, []), .inr (0, 24, []), .inr (0, 24, []), .inr (0, 24, []), .inr (0, 24, []), .inr (0, 24, []), .inr (0, 24, []), .inr (0, 24, []), .inr (0, 24, []), .inr (0, 24, []), .inr (0, 24, []), .inr (0, 24, []), .inr (0, 24, []), .inr (0, 24, []), .inr (0, 24, []), .inr (0, 24, []), .inr (0, 24, []), .inr (1, 24, []), .inl (1, [0, 0, 193, 194, 195, 196, 197]), .inr (0, 60, []), .inr (0, 60, []), .inr (0, 60, []), .inr (0, 24, []), .inr (0, 60, []), .inl (8, [0, 0, 0, 0, 0, 0, 0, 199, 200]), .inr (0, 24, []), .inr (0, 60, []), .inl (6, [202, 203, 0]), .inr (0, 24, []), .inr (0, 24, []), .inl (7, [0, 0, 205]), .inr (0, 60, []), .inl (4, [207, 0, 0]), .inr (0, 123, []), .inl (0, [0, 0, 209, 210, 211, 212, 213]), .inr (0, 24, []), .inr (0, 60, []), .inr (0, 60, []), .inr (0, 60, []), .inr (0, 24, [])]
theorem zX0_init_207 {G : GT} {d : Nat} (hd : 1 ≤ d) {w : VT} {Q : Option Vl → List Sh → VT → Prop} (hv : ini w 208 [(0, 17)]) (hQ : ∀ w, ini w 213 [(0, 17)] → Q none zq357 w) : n_T G d 5 228 mX0_init 0 [vR 207] [] zs347 w Q := by
  refine T_aload_n dX0_init_0 rfl ?_
  refine T_objI dX0_init_1 lX0_3 w_oi w_oc (by omega) (Nat.le_of_ble_eq_true rfl) ?_
  refine T_aload_n dX0_init_4 rfl ?_
  refine T_iconst dX0_init_5 (by decide) ?_
  refine U_putI (rs' := [0, 0, 0, 0, 0, 0, 0]) dX0_init_6 fX0_9 rfl rfl (by decide +kernel) (fun w ew => ?_)
  replace hv := ini_put (E' := [(0, 17)]) hv ew (by decide) (by decide)
  clear ew
  refine T_aload_n dX0_init_9 rfl ?_
  refine T_iconst dX0_init_10 (by decide) ?_
  refine U_putI (rs' := [0, 0, 0, 0, 0, 0, 0]) dX0_init_11 fX0_15 rfl rfl (by decide +kernel) (fun w ew => ?_)
  replace hv := ini_put (E' := [(0, 17)]) hv ew (by decide) (by decide)
  clear ew
  refine T_aload_n dX0_init_14 rfl ?_
  refine T_bipush dX0_init_15 (by decide) ?_
  refine V_newa0 (n := 24) (L := 208) (rc' := 4) (rs' := 204) (sh' := zs348) dX0_init_17 (wsAll_place 173 (by decide +kernel) (by decide +kernel)) (by decide) (by decide +kernel) rfl (by decide) (by decide) (fun w ew => ?_)
  replace hv := ini_new (E' := [(0, 17)]) hv ew (by decide) (by decide)
  clear ew
  refine V_putF (sh' := zs349) (rs' := [0, 0, 0, 0, 0, 0, 0]) dX0_init_19 fX0_18 rfl rfl rfl rfl (by decide +kernel) rfl (by decide +kernel) ?_
  refine T_aload_n dX0_init_22 rfl ?_
  refine T_bipush dX0_init_23 (by decide) ?_
  refine V_newa0 (n := 60) (L := 209) (rc' := 3) (rs' := 144) (sh' := zs350) dX0_init_25 (wsAll_place 173 (by decide +kernel) (by decide +kernel)) (by decide) (by decide +kernel) rfl (by decide) (by decide) (fun w ew => ?_)
  replace hv := ini_new (E' := [(0, 17)]) hv ew (by decide) (by decide)
  clear ew
  refine V_putF (sh' := zs351) (rs' := [0, 0, 209, 0, 0, 0, 0]) dX0_init_27 fX0_22 rfl rfl rfl rfl (by decide +kernel) rfl (by decide +kernel) ?_
  refine T_aload_n dX0_init_30 rfl ?_
  refine T_bipush dX0_init_31 (by decide) ?_
  refine V_newa0 (n := 60) (L := 210) (rc' := 2) (rs' := 84) (sh' := zs352) dX0_init_33 (wsAll_place 173 (by decide +kernel) (by decide +kernel)) (by decide) (by decide +kernel) rfl (by decide) (by decide) (fun w ew => ?_)
  replace hv := ini_new (E' := [(0, 17)]) hv ew (by decide) (by decide)
  clear ew
  refine V_putF (sh' := zs353) (rs' := [0, 0, 209, 210, 0, 0, 0]) dX0_init_35 fX0_25 rfl rfl rfl rfl (by decide +kernel) rfl (by decide +kernel) ?_
  refine T_aload_n dX0_init_38 rfl ?_
  refine T_bipush dX0_init_39 (by decide) ?_
  refine V_newa0 (n := 60) (L := 211) (rc' := 1) (rs' := 24) (sh' := zs354) dX0_init_41 (wsAll_place 173 (by decide +kernel) (by decide +kernel)) (by decide) (by decide +kernel) rfl (by decide) (by decide) (fun w ew => ?_)
  replace hv := ini_new (E' := [(0, 17)]) hv ew (by decide) (by decide)
  clear ew
  refine V_putF (sh' := zs355) (rs' := [0, 0, 209, 210, 211, 0, 0]) dX0_init_43 fX0_28 rfl rfl rfl rfl (by decide +kernel) rfl (by decide +kernel) ?_
  refine T_aload_n dX0_init_46 rfl ?_
  refine T_bipush dX0_init_47 (by decide) ?_
  refine V_newa0 (n := 24) (L := 212) (rc' := 0) (rs' := 0) (sh' := zs356) dX0_init_49 (wsAll_place 173 (by decide +kernel) (by decide +kernel)) (by decide) (by decide +kernel) rfl (by decide) (by decide) (fun w ew => ?_)
  replace hv := ini_new (E' := [(0, 17)]) hv ew (by decide) (by decide)
  clear ew
  refine V_putF (sh' := zs357) (rs' := [0, 0, 209, 210, 211, 212, 0]) dX0_init_51 fX0_31 rfl rfl rfl rfl (by decide +kernel) rfl (by decide +kernel) ?_
  have ez : zs357 = zq357 := by decide +kernel
  rw [ez]
  exact T_vret dX0_init_54 rfl (hQ _ hv)
def zs359 : List Sh := zq357.set 205 (.inl (4, [207, 0, 208]))
def zq359 : List Sh := [.inl (10, [2, 4, 11, 17, 139, 192, 198, 201, 204, 0, 0, 0, 0, 0, 0, 0, 0, 0]), .inl (9, [3, 0]), .inr (0, 800, []), .inl (5, [5, 0, 0, 0, 0, 0, 0, 0]), .inl (0, [0, 0, 6, 7, 8, 9, 10]), .inr (0, 24, []), .inr (0, 60, []), .inr (0, 60, []), .inr (0, 60, []), .inr (0, 24, []), .inl (0, [0, 0, 12, 13, 14, 15, 16]), .inr (0, 24, []), .inr (0, 60, []), .inr (0, 60, []), .inr (0, 60, []), .inr (0, 24, []), .inl (3, [0, 0, 18]), .inr (4, 20, [19, 25, 31, 37, 43, 49, 55, 61, 67, 73, 79, 85, 91, 97, 103, 109, 115, 121, 127, 133]), .inl (0, [0, 0, 20, 21, 22, 23, 24]), .inr (0, 24, []), .inr (0, 60, []), .inr (0, 60, []), .inr (0, 60, []), .inr (0, 24, []), .inl (0, [0, 0, 26, 27, 28, 29, 30]), .inr (0, 24, []), .inr (0, 60, []), .inr (0, 60, []), .inr (0, 60, []), .inr (0, 24, []), .inl (0, [0, 0, 32, 33, 34, 35, 36]), .inr (0, 24, []), .inr (0, 60, []), .inr (0, 60, []), .inr (0, 60, []), .inr (0, 24, []), .inl (0, [0, 0, 38, 39, 40, 41, 42]), .inr (0, 24, []), .inr (0, 60, []), .inr (0, 60, []), .inr (0, 60, []), .inr (0, 24, []), .inl (0, [0, 0, 44, 45, 46, 47, 48]), .inr (0, 24, []), .inr (0, 60, []), .inr (0, 60, []), .inr (0, 60, []), .inr (0, 24, []), .inl (0, [0, 0, 50, 51, 52, 53, 54]), .inr (0, 24, []), .inr (0, 60, []), .inr (0, 60, []), .inr (0, 60, []), .inr (0, 24, []), .inl (0, [0, 0, 56, 57, 58, 59, 60]), .inr (0, 24, []), .inr (0, 60, []), .inr (0, 60, []), .inr (0, 60, []), .inr (0, 24, []), .inl (0, [0, 0, 62, 63, 64, 65, 66]), .inr (0, 24, []), .inr (0, 60, []), .inr (0, 60, []), .inr (0, 60, []), .inr (0, 24, []), .inl (0, [0, 0, 68, 69, 70, 71, 72]), .inr (0, 24, []), .inr (0, 60, []), .inr (0, 60, []), .inr (0, 60, []), .inr (0, 24, []), .inl (0, [0, 0, 74, 75, 76, 77, 78]), .inr (0, 24, []), .inr (0, 60, []), .inr (0, 60, []), .inr (0, 60, []), .inr (0, 24, []), .inl (0, [0, 0, 80, 81, 82, 83, 84]), .inr (0, 24, []), .inr (0, 60, []), .inr (0, 60, []), .inr (0, 60, []), .inr (0, 24, []), .inl (0, [0, 0, 86, 87, 88, 89, 90]), .inr (0, 24, []), .inr (0, 60, []), .inr (0, 60, []), .inr (0, 60, []), .inr (0, 24, []), .inl (0, [0, 0, 92, 93, 94, 95, 96]), .inr (0, 24, []), .inr (0, 60, []), .inr (0, 60, []), .inr (0, 60, []), .inr (0, 24, []), .inl (0, [0, 0, 98, 99, 100, 101, 102]), .inr (0, 24, []), .inr (0, 60, []), .inr (0, 60, []), .inr (0, 60, []), .inr (0, 24, []), .inl (0, [0, 0, 104, 105, 106, 107, 108]), .inr (0, 24, []), .inr (0, 60, []), .inr (0, 60, []), .inr (0, 60, []), .inr (0, 24, []), .inl (0, [0, 0, 110, 111, 112, 113, 114]), .inr (0, 24, []), .inr (0, 60, []), .inr (0, 60, []), .inr (0, 60, []), .inr (0, 24, []), .inl (0, [0, 0, 116, 117, 118, 119, 120]), .inr (0, 24, []), .inr (0, 60, []), .inr (0, 60, []), .inr (0, 60, []), .inr (0, 24, []), .inl (0, [0, 0, 122, 123, 124, 125, 126]), .inr (0, 24, []), .inr (0, 60, []), .inr (0, 60, []), .inr (0, 60, []), .inr (0, 24, []), .inl (0, [0, 0, 128, 129, 130, 131, 132]), .inr (0, 24, []), .inr (0, 60, []), .inr (0, 60, []), .inr (0, 60, []), .inr (0, 24, []), .inl (0, [0, 0, 134, 135, 136, 137, 138]), .inr (0, 24, []), .inr (0, 60, []), .inr (0, 60, []), .inr (0, 60, []), .inr (0, 24, []), .inl (2, [0, 0, 0, 140, 141, 166, 0, 191]), .inr (0, 24, []), .inr (3, 24, [142, 143, 144, 145, 146, 147, 148, 149, 150, 151, 152, 153, 154, 155, 156, 157, 158, 159, 160, 161, 162, 163, 164, 165]), .inr (0, 24, []), .inr (0, 24, []), .inr (0, 24, []), .inr (0, 24, []), .inr (0, 24, []), .inr (0, 24, []), .inr (0, 24, []), .inr (0, 24, []), .inr (0, 24, []), .inr (0, 24, []), .inr (0, 24, []), .inr (0, 24, []), .inr (0, 24, []), .inr (0, 24, []), .inr (0, 24, []), .inr (0, 24, []), .inr (0, 24, []), .inr (0, 24, []), .inr (0, 24, []), .inr (0, 24, []), .inr (0, 24, []), .inr (0, 24, []), .inr (0, 24, []), .inr (0, 24, []), .inr (3, 24, [167, 168, 169, 170, 171, 172, 173, 174, 175, 176, 177, 178, 179, 180, 181, 182, 183, 184, 185, 186, 187, 188, 189, 190]), .inr (0, 24, []), .inr (0, 24, []), .inr (0, 24, []), .inr (0, 24, []), .inr (0, 24, []), .inr (0, 24, []), .inr (0, 24, []), .inr (0, 24, []), .inr (0, 24, []), .inr (0, 24, []), .inr (0, 24, []), .inr (0, 24, []), .inr (0, 24, []), .inr (0, 24, []), .inr (0, 24, []), .inr (0, 24, []), .inr (0, 24, []), .inr (0, 24, []), .inr (0, 24, []), .inr (0, 24, []), .inr (0, 24, []), .inr (0, 24, []), .inr (0, 24, []), .inr (0, 24, []), .inr (1, 24, []), .inl (1, [0, 0, 193, 194, 195, 196, 197]), .inr (0, 60, []), .inr (0, 60, []), .inr (0, 60, []), .inr (0, 24, []), .inr (0, 60, []), .inl (8, [0, 0, 0, 0, 0, 0, 0, 199, 200]), .inr (0, 24, []), .inr (0, 60, []), .inl (6, [202, 203, 0]), .inr (0, 24, []), .inr (0, 24, []), .inl (7, [0, 0, 205]), .inr (0, 60, []), .inl (4, [207, 0, 208]), .inr (0, 123, []), .inl (0, [0, 0, 209, 210, 211, 212, 213]), .inr (0, 24, []), .inr (0, 60, []), .inr (0, 60, []), .inr (0, 60, []), .inr (0, 24, [])]
theorem zX4_init_205 {G : GT} {d : Nat} (hd : 2 ≤ d) {w : VT} {Q : Option Vl → List Sh → VT → Prop} (hv : ini w 206 [(0, 17)]) (hQ : ∀ w, ini w 213 [(0, 17)] → Q none zq359 w) : n_T G d 7 358 mX4_init 0 [vR 205] [] zs344 w Q := by
  refine T_aload_n dX4_init_0 rfl ?_
  refine T_objI dX4_init_1 lX4_3 w_oi w_oc (by omega) (Nat.le_of_ble_eq_true rfl) ?_
  refine T_aload_n dX4_init_4 rfl ?_
  refine T_bipush dX4_init_5 (by decide) ?_
  refine V_newa0 (n := 123) (L := 206) (rc' := 6) (rs' := 235) (sh' := zs345) dX4_init_7 (wsAll_place 173 (by decide +kernel) (by decide +kernel)) (by decide) (by decide +kernel) rfl (by decide) (by decide) (fun w ew => ?_)
  replace hv := ini_new (E' := [(0, 17)]) hv ew (by decide) (by decide)
  clear ew
  refine V_putF (sh' := zs346) (rs' := [0, 0, 0]) dX4_init_9 fX4_9 rfl rfl rfl rfl (by decide +kernel) rfl (by decide +kernel) ?_
  refine T_aload_n dX4_init_12 rfl ?_
  refine T_iconst dX4_init_13 (by decide) ?_
  refine U_putI (rs' := [207, 0, 0]) dX4_init_14 fX4_15 rfl rfl (by decide +kernel) (fun w ew => ?_)
  replace hv := ini_put (E' := [(0, 17)]) hv ew (by decide) (by decide)
  clear ew
  refine T_aload_n dX4_init_17 rfl ?_
  refine V_new (L := 207) (rc' := 5) (rs' := 228) (sh' := zs347) dX4_init_18 cok0 okty0 (wsAll_place 450 (by decide +kernel) (by decide +kernel)) (wsAll_place 181 (by decide +kernel) (by decide +kernel)) (wsAll_place 131 (by decide +kernel) (by decide +kernel)) (by decide +kernel) (by decide +kernel) (by decide) (by decide) (fun w ew => ?_)
  replace hv := ini_new (E' := [(0, 17)]) hv ew (by decide) (by decide)
  clear ew
  refine T_dup dX4_init_21 rfl ?_
  refine V_callI (rc1 := 5) (rs1 := 228) (rc2 := 0) (rs2 := 0) dX4_init_22 kX0_init lX4_21 (by decide) (Nat.le_of_ble_eq_true rfl) (by omega) (by decide) (by decide) ?_
  refine zX0_init_207 (by omega) hv (fun w hv => ?_)
  show n_T G d 0 0 mX4_init 25 [vR 205] [vR 207, vR 205] zq357 w Q
  refine V_putF (sh' := zs359) (rs' := [207, 0, 0]) dX4_init_25 fX4_22 rfl rfl rfl rfl (by decide +kernel) rfl (by decide +kernel) ?_
  have ez : zs359 = zq359 := by decide +kernel
  rw [ez]
  exact T_vret dX4_init_28 rfl (hQ _ hv)
def zs361 : List Sh := zq359.set 0 (.inl (10, [2, 4, 11, 17, 139, 192, 198, 201, 204, 206, 0, 0, 0, 0, 0, 0, 0, 0]))
def zs362 : List Sh := zs361 ++ [.inr (0, 15, [])]
def zs363 : List Sh := zs362.set 0 (.inl (10, [2, 4, 11, 17, 139, 192, 198, 201, 204, 206, 214, 0, 0, 0, 0, 0, 0, 0]))
def zs364 : List Sh := zs363 ++ [.inr (0, 12, [])]
def zs365 : List Sh := zs364.set 0 (.inl (10, [2, 4, 11, 17, 139, 192, 198, 201, 204, 206, 214, 215, 0, 0, 0, 0, 0, 0]))
def zs366 : List Sh := zs365 ++ [.inr (0, 12, [])]
def zs367 : List Sh := zs366.set 0 (.inl (10, [2, 4, 11, 17, 139, 192, 198, 201, 204, 206, 214, 215, 216, 0, 0, 0, 0, 0]))
def zs368 : List Sh := zs367 ++ [.inr (0, 25, [])]
def zs369 : List Sh := zs368.set 0 (.inl (10, [2, 4, 11, 17, 139, 192, 198, 201, 204, 206, 214, 215, 216, 217, 0, 0, 0, 0]))
def zs370 : List Sh := zs369 ++ [.inr (0, 6, [])]
def zs371 : List Sh := zs370.set 0 (.inl (10, [2, 4, 11, 17, 139, 192, 198, 201, 204, 206, 214, 215, 216, 217, 218, 0, 0, 0]))
def zq371 : List Sh := [.inl (10, [2, 4, 11, 17, 139, 192, 198, 201, 204, 206, 214, 215, 216, 217, 218, 0, 0, 0]), .inl (9, [3, 0]), .inr (0, 800, []), .inl (5, [5, 0, 0, 0, 0, 0, 0, 0]), .inl (0, [0, 0, 6, 7, 8, 9, 10]), .inr (0, 24, []), .inr (0, 60, []), .inr (0, 60, []), .inr (0, 60, []), .inr (0, 24, []), .inl (0, [0, 0, 12, 13, 14, 15, 16]), .inr (0, 24, []), .inr (0, 60, []), .inr (0, 60, []), .inr (0, 60, []), .inr (0, 24, []), .inl (3, [0, 0, 18]), .inr (4, 20, [19, 25, 31, 37, 43, 49, 55, 61, 67, 73, 79, 85, 91, 97, 103, 109, 115, 121, 127, 133]), .inl (0, [0, 0, 20, 21, 22, 23, 24]), .inr (0, 24, []), .inr (0, 60, []), .inr (0, 60, []), .inr (0, 60, []), .inr (0, 24, []), .inl (0, [0, 0, 26, 27, 28, 29, 30]), .inr (0, 24, []), .inr (0, 60, []), .inr (0, 60, []), .inr (0, 60, []), .inr (0, 24, []), .inl (0, [0, 0, 32, 33, 34, 35, 36]), .inr (0, 24, []), .inr (0, 60, []), .inr (0, 60, []), .inr (0, 60, []), .inr (0, 24, []), .inl (0, [0, 0, 38, 39, 40, 41, 42]), .inr (0, 24, []), .inr (0, 60, []), .inr (0, 60, []), .inr (0, 60, []), .inr (0, 24, []), .inl (0, [0, 0, 44, 45, 46, 47, 48]), .inr (0, 24, []), .inr (0, 60, []), .inr (0, 60, []), .inr (0, 60, []), .inr (0, 24, []), .inl (0, [0, 0, 50, 51, 52, 53, 54]), .inr (0, 24, []), .inr (0, 60, []), .inr (0, 60, []), .inr (0, 60, []), .inr (0, 24, []), .inl (0, [0, 0, 56, 57, 58, 59, 60]), .inr (0, 24, []), .inr (0, 60, []), .inr (0, 60, []), .inr (0, 60, []), .inr (0, 24, []), .inl (0, [0, 0, 62, 63, 64, 65, 66]), .inr (0, 24, []), .inr (0, 60, []), .inr (0, 60, []), .inr (0, 60, []), .inr (0, 24, []), .inl (0, [0, 0, 68, 69, 70, 71, 72]), .inr (0, 24, []), .inr (0, 60, []), .inr (0, 60, []), .inr (0, 60, []), .inr (0, 24, []), .inl (0, [0, 0, 74, 75, 76, 77, 78]), .inr (0, 24, []), .inr (0, 60, []), .inr (0, 60, []), .inr (0, 60, []), .inr (0, 24, []), .inl (0, [0, 0, 80, 81, 82, 83, 84]), .inr (0, 24, []), .inr (0, 60, []), .inr (0, 60, []), .inr (0, 60, []), .inr (0, 24, []), .inl (0, [0, 0, 86, 87, 88, 89, 90]), .inr (0, 24, []), .inr (0, 60, []), .inr (0, 60, []), .inr (0, 60, []), .inr (0, 24, []), .inl (0, [0, 0, 92, 93, 94, 95, 96]), .inr (0, 24, []), .inr (0, 60, []), .inr (0, 60, []), .inr (0, 60, []), .inr (0, 24, []), .inl (0, [0, 0, 98, 99, 100, 101, 102]), .inr (0, 24, []), .inr (0, 60, []), .inr (0, 60, []), .inr (0, 60, []), .inr (0, 24, []), .inl (0, [0, 0, 104, 105, 106, 107, 108]), .inr (0, 24, []), .inr (0, 60, []), .inr (0, 60, []), .inr (0, 60, []), .inr (0, 24, []), .inl (0, [0, 0, 110, 111, 112, 113, 114]), .inr (0, 24, []), .inr (0, 60, []), .inr (0, 60, []), .inr (0, 60, []), .inr (0, 24, []), .inl (0, [0, 0, 116, 117, 118, 119, 120]), .inr (0, 24, []), .inr (0, 60, []), .inr (0, 60, []), .inr (0, 60, []), .inr (0, 24, []), .inl (0, [0, 0, 122, 123, 124, 125, 126]), .inr (0, 24, []), .inr (0, 60, []), .inr (0, 60, []), .inr (0, 60, []), .inr (0, 24, []), .inl (0, [0, 0, 128, 129, 130, 131, 132]), .inr (0, 24, []), .inr (0, 60, []), .inr (0, 60, []), .inr (0, 60, []), .inr (0, 24, []), .inl (0, [0, 0, 134, 135, 136, 137, 138]), .inr (0, 24, []), .inr (0, 60, []), .inr (0, 60, []), .inr (0, 60, []), .inr (0, 24, []), .inl (2, [0, 0, 0, 140, 141, 166, 0, 191]), .inr (0, 24, []), .inr (3, 24, [142, 143, 144, 145, 146, 147, 148, 149, 150, 151, 152, 153, 154, 155, 156, 157, 158, 159, 160, 161, 162, 163, 164, 165]), .inr (0, 24, []), .inr (0, 24, []), .inr (0, 24, []), .inr (0, 24, []), .inr (0, 24, []), .inr (0, 24, []), .inr (0, 24, []), .inr (0, 24, []), .inr (0, 24, []), .inr (0, 24, []), .inr (0, 24, []), .inr (0, 24, []), .inr (0, 24, []), .inr (0, 24, []), .inr (0, 24, []), .inr (0, 24, []), .inr (0, 24, []), .inr (0, 24, []), .inr (0, 24, []), .inr (0, 24, []), .inr (0, 24, []), .inr (0, 24, []), .inr (0, 24, []), .inr (0, 24, []), .inr (3, 24, [167, 168, 169, 170, 171, 172, 173, 174, 175, 176, 177, 178, 179, 180, 181, 182, 183, 184, 185, 186, 187, 188, 189, 190]), .inr (0, 24, []), .inr (0, 24, []), .inr (0, 24, []), .inr (0, 24, []), .inr (0, 24, []), .inr (0, 24, []), .inr (0, 24, []), .inr (0, 24, []), .inr (0, 24, []), .inr (0, 24, []), .inr (0, 24, []), .inr (0, 24, []), .inr (0, 24, []), .inr (0, 24, []), .inr (0, 24, []), .inr (0, 24, []), .inr (0, 24, []), .inr (0, 24, []), .inr (0, 24, []), .inr (0, 24, []), .inr (0, 24, []), .inr (0, 24, []), .inr (0, 24, []), .inr (0, 24, []), .inr (1, 24, []), .inl (1, [0, 0, 193, 194, 195, 196, 197]), .inr (0, 60, []), .inr (0, 60, []), .inr (0, 60, []), .inr (0, 24, []), .inr (0, 60, []), .inl (8, [0, 0, 0, 0, 0, 0, 0, 199, 200]), .inr (0, 24, []), .inr (0, 60, []), .inl (6, [202, 203, 0]), .inr (0, 24, []), .inr (0, 24, []), .inl (7, [0, 0, 205]), .inr (0, 60, []), .inl (4, [207, 0, 208]), .inr (0, 123, []), .inl (0, [0, 0, 209, 210, 211, 212, 213]), .inr (0, 24, []), .inr (0, 60, []), .inr (0, 60, []), .inr (0, 60, []), .inr (0, 24, []), .inr (0, 15, []), .inr (0, 12, []), .inr (0, 12, []), .inr (0, 25, []), .inr (0, 6, [])]
theorem zX10_init_0 {G : GT} {d : Nat} (hd : 3 ≤ d) {w : VT} {Q : Option Vl → List Sh → VT → Prop} (hv : ini w 1 [(0, 17)]) (hQ : ∀ w, ini w 218 [] → Q none zq371 w) : n_T G d 217 8168 mX10_init 0 [vR 0] [] zs1 w Q := by
  refine T_aload_n dX10_init_0 rfl ?_
  refine T_objI dX10_init_1 lX10_1 w_oi w_oc (by omega) (Nat.le_of_ble_eq_true rfl) ?_
  refine T_aload_n dX10_init_4 rfl ?_
  refine V_new (L := 1) (rc' := 216) (rs' := 8166) (sh' := zs2) dX10_init_5 cok9 okty9 (wsAll_place 155 (by decide +kernel) (by decide +kernel)) (wsAll_place 156 (by decide +kernel) (by decide +kernel)) (wsAll_place 129 (by decide +kernel) (by decide +kernel)) (by decide +kernel) (by decide +kernel) (by decide) (by decide) (fun w ew => ?_)
  replace hv := ini_new (E' := [(0, 17)]) hv ew (by decide) (by decide)
  clear ew
  refine T_dup dX10_init_8 rfl ?_
  refine V_callI (rc1 := 1) (rs1 := 800) (rc2 := 215) (rs2 := 7366) dX10_init_9 kX9_init lX10_9 (by decide) (Nat.le_of_ble_eq_true rfl) (by omega) (by decide) (by decide) ?_
  refine zX9_init_1 (by omega) hv (fun w hv => ?_)
  show n_T G d 215 7366 mX10_init 12 [vR 0] [vR 1, vR 0] zq4 w Q
  refine V_putF (sh' := zs6) (rs' := [0, 0, 0, 0, 0, 0, 0, 0, 0, 0, 0, 0, 0, 0, 0, 0, 0, 0]) dX10_init_12 fX10_10 rfl rfl rfl rfl (by decide +kernel) rfl (by decide +kernel) ?_
  refine T_aload_n dX10_init_15 rfl ?_
  refine V_new (L := 3) (rc' := 214) (rs' := 7358) (sh' := zs7) dX10_init_16 cok5 okty5 (wsAll_place 174 (by decide +kernel) (by decide +kernel)) (wsAll_place 175 (by decide +kernel) (by decide +kernel)) (wsAll_place 130 (by decide +kernel) (by decide +kernel)) (by decide +kernel) (by decide +kernel) (by decide) (by decide) (fun w ew => ?_)
  replace hv := ini_new (E' := [(0, 17), (3, 2)]) hv ew (by decide) (by decide)
  clear ew
  refine T_dup dX10_init_19 rfl ?_
  refine V_callI (rc1 := 6) (rs1 := 235) (rc2 := 208) (rs2 := 7123) dX10_init_20 kX5_init lX10_18 (by decide) (Nat.le_of_ble_eq_true rfl) (by omega) (by decide) (by decide) ?_
  refine zX5_init_3 (by omega) hv (fun w hv => ?_)
  show n_T G d 208 7123 mX10_init 23 [vR 0] [vR 3, vR 0] zq20 w Q
  refine V_putF (sh' := zs22) (rs' := [2, 0, 0, 0, 0, 0, 0, 0, 0, 0, 0, 0, 0, 0, 0, 0, 0, 0]) dX10_init_23 fX10_19 rfl rfl rfl rfl (by decide +kernel) rfl (by decide +kernel) ?_
  refine T_aload_n dX10_init_26 rfl ?_
  refine V_new (L := 10) (rc' := 207) (rs' := 7116) (sh' := zs23) dX10_init_27 cok0 okty0 (wsAll_place 266 (by decide +kernel) (by decide +kernel)) (wsAll_place 181 (by decide +kernel) (by decide +kernel)) (wsAll_place 131 (by decide +kernel) (by decide +kernel)) (by decide +kernel) (by decide +kernel) (by decide) (by decide) (fun w ew => ?_)
  replace hv := ini_new (E' := [(0, 17)]) hv ew (by decide) (by decide)
  clear ew
  refine T_dup dX10_init_30 rfl ?_
  refine V_callI (rc1 := 5) (rs1 := 228) (rc2 := 202) (rs2 := 6888) dX10_init_31 kX0_init lX10_25 (by decide) (Nat.le_of_ble_eq_true rfl) (by omega) (by decide) (by decide) ?_
  refine zX0_init_10 (by omega) hv (fun w hv => ?_)
  show n_T G d 202 6888 mX10_init 34 [vR 0] [vR 10, vR 0] zq33 w Q
  refine V_putF (sh' := zs35) (rs' := [2, 4, 0, 0, 0, 0, 0, 0, 0, 0, 0, 0, 0, 0, 0, 0, 0, 0]) dX10_init_34 fX10_26 rfl rfl rfl rfl (by decide +kernel) rfl (by decide +kernel) ?_
  refine T_aload_n dX10_init_37 rfl ?_
  refine V_new (L := 16) (rc' := 201) (rs' := 6885) (sh' := zs36) dX10_init_38 cok3 okty3 (wsAll_place 268 (by decide +kernel) (by decide +kernel)) (wsAll_place 269 (by decide +kernel) (by decide +kernel)) (wsAll_place 132 (by decide +kernel) (by decide +kernel)) (by decide +kernel) (by decide +kernel) (by decide) (by decide) (fun w ew => ?_)
  replace hv := ini_new (E' := [(0, 17)]) hv ew (by decide) (by decide)
  clear ew
  refine T_dup dX10_init_41 rfl ?_
  refine V_callI (rc1 := 121) (rs1 := 4720) (rc2 := 80) (rs2 := 2165) dX10_init_42 kX3_init lX10_32 (by decide) (Nat.le_of_ble_eq_true rfl) (by omega) (by decide) (by decide) ?_
  refine zX3_init_16 (by omega) hv (fun w hv => ?_)
  show n_T G d 80 2165 mX10_init 45 [vR 0] [vR 16, vR 0] zq298 w Q
  refine V_putF (sh' := zs300) (rs' := [2, 4, 11, 0, 0, 0, 0, 0, 0, 0, 0, 0, 0, 0, 0, 0, 0, 0]) dX10_init_45 fX10_33 rfl rfl rfl rfl (by decide +kernel) rfl (by decide +kernel) ?_
  refine T_aload_n dX10_init_48 rfl ?_
  refine V_new (L := 138) (rc' := 79) (rs' := 2157) (sh' := zs301) dX10_init_49 cok2 okty2 (wsAll_place 288 (by decide +kernel) (by decide +kernel)) (wsAll_place 289 (by decide +kernel) (by decide +kernel)) (wsAll_place 133 (by decide +kernel) (by decide +kernel)) (by decide +kernel) (by decide +kernel) (by decide) (by decide) (fun w ew => ?_)
  replace hv := ini_new (E' := [(0, 17), (138, 1)]) hv ew (by decide) (by decide)
  clear ew
  refine T_dup dX10_init_52 rfl ?_
  refine V_callI (rc1 := 52) (rs1 := 1248) (rc2 := 27) (rs2 := 909) dX10_init_53 kX2_init lX10_39 (by decide) (Nat.le_of_ble_eq_true rfl) (by omega) (by decide) (by decide) ?_
  refine zX2_init_138 (by omega) hv (fun w hv => ?_)
  show n_T G d 27 909 mX10_init 56 [vR 0] [vR 138, vR 0] zq309 w Q
  refine V_putF (sh' := zs311) (rs' := [2, 4, 11, 17, 0, 0, 0, 0, 0, 0, 0, 0, 0, 0, 0, 0, 0, 0]) dX10_init_56 fX10_40 rfl rfl rfl rfl (by decide +kernel) rfl (by decide +kernel) ?_
  refine T_aload_n dX10_init_59 rfl ?_
  refine V_new (L := 191) (rc' := 26) (rs' := 902) (sh' := zs312) dX10_init_60 cok1 okty1 (wsAll_place 327 (by decide +kernel) (by decide +kernel)) (wsAll_place 328 (by decide +kernel) (by decide +kernel)) (wsAll_place 134 (by decide +kernel) (by decide +kernel)) (by decide +kernel) (by decide +kernel) (by decide) (by decide) (fun w ew => ?_)
  replace hv := ini_new (E' := [(0, 17)]) hv ew (by decide) (by decide)
  clear ew
  refine T_dup dX10_init_63 rfl ?_
  refine V_callI (rc1 := 5) (rs1 := 264) (rc2 := 21) (rs2 := 638) dX10_init_64 kX1_init lX10_46 (by decide) (Nat.le_of_ble_eq_true rfl) (by omega) (by decide) (by decide) ?_
  refine zX1_init_191 (by omega) hv (fun w hv => ?_)
  show n_T G d 21 638 mX10_init 67 [vR 0] [vR 191, vR 0] zq322 w Q
  refine V_putF (sh' := zs324) (rs' := [2, 4, 11, 17, 139, 0, 0, 0, 0, 0, 0, 0, 0, 0, 0, 0, 0, 0]) dX10_init_67 fX10_47 rfl rfl rfl rfl (by decide +kernel) rfl (by decide +kernel) ?_
  refine T_aload_n dX10_init_70 rfl ?_
  refine V_new (L := 197) (rc' := 20) (rs' := 629) (sh' := zs325) dX10_init_71 cok8 okty8 (wsAll_place 364 (by decide +kernel) (by decide +kernel)) (wsAll_place 365 (by decide +kernel) (by decide +kernel)) (wsAll_place 135 (by decide +kernel) (by decide +kernel)) (by decide +kernel) (by decide +kernel) (by decide) (by decide) (fun w ew => ?_)
  replace hv := ini_new (E' := [(0, 17), (197, 3), (197, 4)]) hv ew (by decide) (by decide)
  clear ew
  refine T_dup dX10_init_74 rfl ?_
  refine V_callI (rc1 := 2) (rs1 := 84) (rc2 := 18) (rs2 := 545) dX10_init_75 kX8_init lX10_53 (by decide) (Nat.le_of_ble_eq_true rfl) (by omega) (by decide) (by decide) ?_
  refine zX8_init_197 (by omega) hv (fun w hv => ?_)
  show n_T G d 18 545 mX10_init 78 [vR 0] [vR 197, vR 0] zq329 w Q
  refine V_putF (sh' := zs331) (rs' := [2, 4, 11, 17, 139, 192, 0, 0, 0, 0, 0, 0, 0, 0, 0, 0, 0, 0]) dX10_init_78 fX10_54 rfl rfl rfl rfl (by decide +kernel) rfl (by decide +kernel) ?_
  refine T_aload_n dX10_init_81 rfl ?_
  refine V_new (L := 200) (rc' := 17) (rs' := 542) (sh' := zs332) dX10_init_82 cok6 okty6 (wsAll_place 407 (by decide +kernel) (by decide +kernel)) (wsAll_place 408 (by decide +kernel) (by decide +kernel)) (wsAll_place 136 (by decide +kernel) (by decide +kernel)) (by decide +kernel) (by decide +kernel) (by decide) (by decide) (fun w ew => ?_)
  replace hv := ini_new (E' := [(0, 17)]) hv ew (by decide) (by decide)
  clear ew
  refine T_dup dX10_init_85 rfl ?_
  refine V_callI (rc1 := 2) (rs1 := 48) (rc2 := 15) (rs2 := 494) dX10_init_86 kX6_init lX10_60 (by decide) (Nat.le_of_ble_eq_true rfl) (by omega) (by decide) (by decide) ?_
  refine zX6_init_200 (by omega) hv (fun w hv => ?_)
  show n_T G d 15 494 mX10_init 89 [vR 0] [vR 200, vR 0] zq336 w Q
  refine V_putF (sh' := zs338) (rs' := [2, 4, 11, 17, 139, 192, 198, 0, 0, 0, 0, 0, 0, 0, 0, 0, 0, 0]) dX10_init_89 fX10_61 rfl rfl rfl rfl (by decide +kernel) rfl (by decide +kernel) ?_
  refine T_aload_n dX10_init_92 rfl ?_
  refine V_new (L := 203) (rc' := 14) (rs' := 491) (sh' := zs339) dX10_init_93 cok7 okty7 (wsAll_place 426 (by decide +kernel) (by decide +kernel)) (wsAll_place 427 (by decide +kernel) (by decide +kernel)) (wsAll_place 137 (by decide +kernel) (by decide +kernel)) (by decide +kernel) (by decide +kernel) (by decide) (by decide) (fun w ew => ?_)
  replace hv := ini_new (E' := [(0, 17)]) hv ew (by decide) (by decide)
  clear ew
  refine T_dup dX10_init_96 rfl ?_
  refine V_callI (rc1 := 1) (rs1 := 60) (rc2 := 13) (rs2 := 431) dX10_init_97 kX7_init lX10_67 (by decide) (Nat.le_of_ble_eq_true rfl) (by omega) (by decide) (by decide) ?_
  refine zX7_init_203 (by omega) hv (fun w hv => ?_)
  show n_T G d 13 431 mX10_init 100 [vR 0] [vR 203, vR 0] zq341 w Q
  refine V_putF (sh' := zs343) (rs' := [2, 4, 11, 17, 139, 192, 198, 201, 0, 0, 0, 0, 0, 0, 0, 0, 0, 0]) dX10_init_100 fX10_68 rfl rfl rfl rfl (by decide +kernel) rfl (by decide +kernel) ?_
  refine T_aload_n dX10_init_103 rfl ?_
  refine V_new (L := 205) (rc' := 12) (rs' := 428) (sh' := zs344) dX10_init_104 cok4 okty4 (wsAll_place 444 (by decide +kernel) (by decide +kernel)) (wsAll_place 445 (by decide +kernel) (by decide +kernel)) (wsAll_place 138 (by decide +kernel) (by decide +kernel)) (by decide +kernel) (by decide +kernel) (by decide) (by decide) (fun w ew => ?_)
  replace hv := ini_new (E' := [(0, 17)]) hv ew (by decide) (by decide)
  clear ew
  refine T_dup dX10_init_107 rfl ?_
  refine V_callI (rc1 := 7) (rs1 := 358) (rc2 := 5) (rs2 := 70) dX10_init_108 kX4_init lX10_74 (by decide) (Nat.le_of_ble_eq_true rfl) (by omega) (by decide) (by decide) ?_
  refine zX4_init_205 (by omega) hv (fun w hv => ?_)
  show n_T G d 5 70 mX10_init 111 [vR 0] [vR 205, vR 0] zq359 w Q
  refine V_putF (sh' := zs361) (rs' := [2, 4, 11, 17, 139, 192, 198, 201, 204, 0, 0, 0, 0, 0, 0, 0, 0, 0]) dX10_init_111 fX10_75 rfl rfl rfl rfl (by decide +kernel) rfl (by decide +kernel) ?_
  refine T_aload_n dX10_init_114 rfl ?_
  refine T_bipush dX10_init_115 (by decide) ?_
  refine V_newa0 (n := 15) (L := 213) (rc' := 4) (rs' := 55) (sh' := zs362) dX10_init_117 (wsAll_place 173 (by decide +kernel) (by decide +kernel)) (by decide) (by decide +kernel) rfl (by decide) (by decide) (fun w ew => ?_)
  replace hv := ini_new (E' := [(0, 17)]) hv ew (by decide) (by decide)
  clear ew
  refine V_putF (sh' := zs363) (rs' := [2, 4, 11, 17, 139, 192, 198, 201, 204, 206, 0, 0, 0, 0, 0, 0, 0, 0]) dX10_init_119 fX10_79 rfl rfl rfl rfl (by decide +kernel) rfl (by decide +kernel) ?_
  refine T_aload_n dX10_init_122 rfl ?_
  refine T_bipush dX10_init_123 (by decide) ?_
  refine V_newa0 (n := 12) (L := 214) (rc' := 3) (rs' := 43) (sh' := zs364) dX10_init_125 (wsAll_place 173 (by decide +kernel) (by decide +kernel)) (by decide) (by decide +kernel) rfl (by decide) (by decide) (fun w ew => ?_)
  replace hv := ini_new (E' := [(0, 17)]) hv ew (by decide) (by decide)
  clear ew
  refine V_putF (sh' := zs365) (rs' := [2, 4, 11, 17, 139, 192, 198, 201, 204, 206, 214, 0, 0, 0, 0, 0, 0, 0]) dX10_init_127 fX10_83 rfl rfl rfl rfl (by decide +kernel) rfl (by decide +kernel) ?_
  refine T_aload_n dX10_init_130 rfl ?_
  refine T_bipush dX10_init_131 (by decide) ?_
  refine V_newa0 (n := 12) (L := 215) (rc' := 2) (rs' := 31) (sh' := zs366) dX10_init_133 (wsAll_place 173 (by decide +kernel) (by decide +kernel)) (by decide) (by decide +kernel) rfl (by decide) (by decide) (fun w ew => ?_)
  replace hv := ini_new (E' := [(0, 17)]) hv ew (by decide) (by decide)
  clear ew
  refine V_putF (sh' := zs367) (rs' := [2, 4, 11, 17, 139, 192, 198, 201, 204, 206, 214, 215, 0, 0, 0, 0, 0, 0]) dX10_init_135 fX10_86 rfl rfl rfl rfl (by decide +kernel) rfl (by decide +kernel) ?_
  refine T_aload_n dX10_init_138 rfl ?_
  refine T_bipush dX10_init_139 (by decide) ?_
  refine V_newa0 (n := 25) (L := 216) (rc' := 1) (rs' := 6) (sh' := zs368) dX10_init_141 (wsAll_place 173 (by decide +kernel) (by decide +kernel)) (by decide) (by decide +kernel) rfl (by decide) (by decide) (fun w ew => ?_)
  replace hv := ini_new (E' := [(0, 17)]) hv ew (by decide) (by decide)
  clear ew
  refine V_putF (sh' := zs369) (rs' := [2, 4, 11, 17, 139, 192, 198, 201, 204, 206, 214, 215, 216, 0, 0, 0, 0, 0]) dX10_init_143 fX10_89 rfl rfl rfl rfl (by decide +kernel) rfl (by decide +kernel) ?_
  refine T_aload_n dX10_init_146 rfl ?_
  refine T_bipush dX10_init_147 (by decide) ?_
  refine V_newa0 (n := 6) (L := 217) (rc' := 0) (rs' := 0) (sh' := zs370) dX10_init_149 (wsAll_place 173 (by decide +kernel) (by decide +kernel)) (by decide) (by decide +kernel) rfl (by decide) (by decide) (fun w ew => ?_)
  replace hv := ini_new (E' := [(0, 17)]) hv ew (by decide) (by decide)
  clear ew
  refine V_putF (sh' := zs371) (rs' := [2, 4, 11, 17, 139, 192, 198, 201, 204, 206, 214, 215, 216, 217, 0, 0, 0, 0]) dX10_init_151 fX10_92 rfl rfl rfl rfl (by decide +kernel) rfl (by decide +kernel) ?_
  refine T_aload_n dX10_init_154 rfl ?_
  refine T_iconst dX10_init_155 (by decide) ?_
  refine U_putI (rs' := [2, 4, 11, 17, 139, 192, 198, 201, 204, 206, 214, 215, 216, 217, 218, 0, 0, 0]) dX10_init_156 fX10_95 rfl rfl (by decide +kernel) (fun w ew => ?_)
  replace hv := ini_put (E' := [(0, 17)]) hv ew (by decide) (by decide)
  clear ew
  refine T_aload_n dX10_init_159 rfl ?_
  refine T_iconst dX10_init_160 (by decide) ?_
  refine U_putI (rs' := [2, 4, 11, 17, 139, 192, 198, 201, 204, 206, 214, 215, 216, 217, 218, 0, 0, 0]) dX10_init_161 fX10_99 rfl rfl (by decide +kernel) (fun w ew => ?_)
  replace hv := ini_put (E' := [(0, 17)]) hv ew (by decide) (by decide)
  clear ew
  refine T_aload_n dX10_init_164 rfl ?_
  refine T_iconst dX10_init_165 (by decide) ?_
  refine U_putI (rs' := [2, 4, 11, 17, 139, 192, 198, 201, 204, 206, 214, 215, 216, 217, 218, 0, 0, 0]) dX10_init_166 fX10_102 rfl rfl (by decide +kernel) (fun w ew => ?_)
  replace hv := ini_put (E' := []) hv ew (by decide) (by decide)
  clear ew
  have ez : zs371 = zq371 := by decide +kernel
  rw [ez]
  exact T_vret dX10_init_169 rfl (hQ _ hv)
def zs373 : List Sh := zq371 ++ [.inl (11, [0, 0, 0, 0, 0, 0, 0, 0, 0, 0, 0, 0, 0, 0, 0, 0, 0, 0, 0, 0, 0, 0, 0, 0, 0, 0, 0, 0, 0, 0, 0, 0, 0, 0, 0, 0, 0, 0, 0, 0, 0, 0, 0, 0])]
def zs374 : List Sh := zs373 ++ [.inr (0, 800, [])]
def zs375 : List Sh := zs374.set 218 (.inl (11, [220, 0, 0, 0, 0, 0, 0, 0, 0, 0, 0, 0, 0, 0, 0, 0, 0, 0, 0, 0, 0, 0, 0, 0, 0, 0, 0, 0, 0, 0, 0, 0, 0, 0, 0, 0, 0, 0, 0, 0, 0, 0, 0, 0]))
def zs376 : List Sh := zs375 ++ [.inr (0, 6, [])]
def zs377 : List Sh := zs376.set 218 (.inl (11, [220, 0, 0, 0, 0, 0, 0, 0, 0, 221, 0, 0, 0, 0, 0, 0, 0, 0, 0, 0, 0, 0, 0, 0, 0, 0, 0, 0, 0, 0, 0, 0, 0, 0, 0, 0, 0, 0, 0, 0, 0, 0, 0, 0]))
def zs378 : List Sh := zs377 ++ [.inr (0, 206, [])]
def zs379 : List Sh := zs378.set 218 (.inl (11, [220, 0, 0, 0, 0, 0, 0, 0, 0, 221, 0, 222, 0, 0, 0, 0, 0, 0, 0, 0, 0, 0, 0, 0, 0, 0, 0, 0, 0, 0, 0, 0, 0, 0, 0, 0, 0, 0, 0, 0, 0, 0, 0, 0]))
def zs380 : List Sh := zs379 ++ [.inr (0, 206, [])]
def zs381 : List Sh := zs380.set 218 (.inl (11, [220, 0, 0, 0, 0, 0, 0, 0, 0, 221, 0, 222, 223, 0, 0, 0, 0, 0, 0, 0, 0, 0, 0, 0, 0, 0, 0, 0, 0, 0, 0, 0, 0, 0, 0, 0, 0, 0, 0, 0, 0, 0, 0, 0]))
def zs382 : List Sh := zs381 ++ [.inr (0, 206, [])]
def zs383 : List Sh := zs382.set 218 (.inl (11, [220, 0, 0, 0, 0, 0, 0, 0, 0, 221, 0, 222, 223, 224, 0, 0, 0, 0, 0, 0, 0, 0, 0, 0, 0, 0, 0, 0, 0, 0, 0, 0, 0, 0, 0, 0, 0, 0, 0, 0, 0, 0, 0, 0]))
def zs384 : List Sh := zs383 ++ [.inr (0, 576, [])]
def zs385 : List Sh := zs384.set 218 (.inl (11, [220, 0, 0, 0, 0, 0, 0, 0, 0, 221, 0, 222, 223, 224, 0, 0, 225, 0, 0, 0, 0, 0, 0, 0, 0, 0, 0, 0, 0, 0, 0, 0, 0, 0, 0, 0, 0, 0, 0, 0, 0, 0, 0, 0]))
def zs386 : List Sh := zs385 ++ [.inr (0, 60, [])]
def zs387 : List Sh := zs386.set 218 (.inl (11, [220, 0, 0, 0, 0, 0, 0, 0, 0, 221, 0, 222, 223, 224, 0, 0, 225, 226, 0, 0, 0, 0, 0, 0, 0, 0, 0, 0, 0, 0, 0, 0, 0, 0, 0, 0, 0, 0, 0, 0, 0, 0, 0, 0]))
def zs388 : List Sh := zs387 ++ [.inr (0, 2, [])]
def zs389 : List Sh := zs388.set 218 (.inl (11, [220, 0, 0, 0, 0, 0, 0, 0, 0, 221, 0, 222, 223, 224, 0, 0, 225, 226, 0, 0, 227, 0, 0, 0, 0, 0, 0, 0, 0, 0, 0, 0, 0, 0, 0, 0, 0, 0, 0, 0, 0, 0, 0, 0]))
def zs390 : List Sh := zs389 ++ [.inr (0, 60, [])]
def zs391 : List Sh := zs390.set 218 (.inl (11, [220, 0, 0, 0, 0, 0, 0, 0, 0, 221, 0, 222, 223, 224, 0, 0, 225, 226, 0, 0, 227, 228, 0, 0, 0, 0, 0, 0, 0, 0, 0, 0, 0, 0, 0, 0, 0, 0, 0, 0, 0, 0, 0, 0]))
def zs392 : List Sh := zs391 ++ [.inr (0, 24, [])]
def zs393 : List Sh := zs392.set 218 (.inl (11, [220, 0, 0, 0, 0, 0, 0, 0, 0, 221, 0, 222, 223, 224, 0, 0, 225, 226, 0, 0, 227, 228, 229, 0, 0, 0, 0, 0, 0, 0, 0, 0, 0, 0, 0, 0, 0, 0, 0, 0, 0, 0, 0, 0]))
def zs394 : List Sh := zs393 ++ [.inr (0, 60, [])]
def zs395 : List Sh := zs394.set 218 (.inl (11, [220, 0, 0, 0, 0, 0, 0, 0, 0, 221, 0, 222, 223, 224, 0, 0, 225, 226, 0, 0, 227, 228, 229, 230, 0, 0, 0, 0, 0, 0, 0, 0, 0, 0, 0, 0, 0, 0, 0, 0, 0, 0, 0, 0]))
def zs396 : List Sh := zs395 ++ [.inr (1, 24, [])]
def zs397 : List Sh := zs396.set 218 (.inl (11, [220, 0, 0, 0, 0, 0, 0, 0, 0, 221, 0, 222, 223, 224, 0, 0, 225, 226, 0, 0, 227, 228, 229, 230, 231, 0, 0, 0, 0, 0, 0, 0, 0, 0, 0, 0, 0, 0, 0, 0, 0, 0, 0, 0]))
def zs398 : List Sh := zs397 ++ [.inr (0, 24, [])]
def zs399 : List Sh := zs398.set 218 (.inl (11, [220, 0, 0, 0, 0, 0, 0, 0, 0, 221, 0, 222, 223, 224, 0, 0, 225, 226, 0, 0, 227, 228, 229, 230, 231, 232, 0, 0, 0, 0, 0, 0, 0, 0, 0, 0, 0, 0, 0, 0, 0, 0, 0, 0]))
def zs400 : List Sh := zs399 ++ [.inr (0, 25, [])]
def zs401 : List Sh := zs400.set 218 (.inl (11, [220, 0, 0, 0, 0, 0, 0, 0, 0, 221, 0, 222, 223, 224, 0, 0, 225, 226, 0, 0, 227, 228, 229, 230, 231, 232, 233, 0, 0, 0, 0, 0, 0, 0, 0, 0, 0, 0, 0, 0, 0, 0, 0, 0]))
def zs402 : List Sh := zs401 ++ [.inr (0, 25, [])]
def zs403 : List Sh := zs402.set 218 (.inl (11, [220, 0, 0, 0, 0, 0, 0, 0, 0, 221, 0, 222, 223, 224, 0, 0, 225, 226, 0, 0, 227, 228, 229, 230, 231, 232, 233, 234, 0, 0, 0, 0, 0, 0, 0, 0, 0, 0, 0, 0, 0, 0, 0, 0]))
def zs404 : List Sh := zs403 ++ [.inr (2, 65536, [])]
def zs405 : List Sh := zs404.set 218 (.inl (11, [220, 0, 0, 0, 0, 0, 0, 0, 0, 221, 0, 222, 223, 224, 0, 0, 225, 226, 0, 0, 227, 228, 229, 230, 231, 232, 233, 234, 235, 0, 0, 0, 0, 0, 0, 0, 0, 0, 0, 0, 0, 0, 0, 0]))
def zs406 : List Sh := zs405 ++ [.inr (0, 16, [])]
def zs407 : List Sh := zs406.set 218 (.inl (11, [220, 0, 0, 0, 0, 0, 0, 0, 0, 221, 0, 222, 223, 224, 0, 0, 225, 226, 0, 0, 227, 228, 229, 230, 231, 232, 233, 234, 235, 236, 0, 0, 0, 0, 0, 0, 0, 0, 0, 0, 0, 0, 0, 0]))
def zs408 : List Sh := zs407 ++ [.inr (0, 15, [])]
def zs409 : List Sh := zs408.set 218 (.inl (11, [220, 0, 0, 0, 0, 0, 0, 0, 0, 221, 0, 222, 223, 224, 0, 0, 225, 226, 0, 0, 227, 228, 229, 230, 231, 232, 233, 234, 235, 236, 0, 237, 0, 0, 0, 0, 0, 0, 0, 0, 0, 0, 0, 0]))
def zs410 : List Sh := zs409 ++ [.inr (0, 576, [])]
def zs411 : List Sh := zs410.set 218 (.inl (11, [220, 0, 0, 0, 0, 0, 0, 0, 0, 221, 0, 222, 223, 224, 0, 0, 225, 226, 0, 0, 227, 228, 229, 230, 231, 232, 233, 234, 235, 236, 0, 237, 238, 0, 0, 0, 0, 0, 0, 0, 0, 0, 0, 0]))
def zs412 : List Sh := zs411 ++ [.inr (0, 24, [])]
def zs413 : List Sh := zs412.set 218 (.inl (11, [220, 0, 0, 0, 0, 0, 0, 0, 0, 221, 0, 222, 223, 224, 0, 0, 225, 226, 0, 0, 227, 228, 229, 230, 231, 232, 233, 234, 235, 236, 0, 237, 238, 0, 239, 0, 0, 0, 0, 0, 0, 0, 0, 0]))
def zs414 : List Sh := zs413 ++ [.inr (0, 4120, [])]
def zs415 : List Sh := zs414.set 218 (.inl (11, [220, 0, 0, 0, 0, 0, 0, 0, 0, 221, 0, 222, 223, 224, 0, 0, 225, 226, 0, 0, 227, 228, 229, 230, 231, 232, 233, 234, 235, 236, 0, 237, 238, 0, 239, 240, 0, 0, 0, 0, 0, 0, 0, 0]))
def zs416 : List Sh := zs415 ++ [.inr (0, 24, [])]
def zs417 : List Sh := zs416.set 218 (.inl (11, [220, 0, 0, 0, 0, 0, 0, 0, 0, 221, 0, 222, 223, 224, 0, 0, 225, 226, 0, 0, 227, 228, 229, 230, 231, 232, 233, 234, 235, 236, 0, 237, 238, 0, 239, 240, 0, 0, 241, 0, 0, 0, 0, 0]))
def zs418 : List Sh := zs417 ++ [.inr (0, 24, [])]
def zs419 : List Sh := zs418.set 218 (.inl (11, [220, 0, 0, 0, 0, 0, 0, 0, 0, 221, 0, 222, 223, 224, 0, 0, 225, 226, 0, 0, 227, 228, 229, 230, 231, 232, 233, 234, 235, 236, 0, 237, 238, 0, 239, 240, 0, 0, 241, 242, 0, 0, 0, 0]))
def zs420 : List Sh := zs419 ++ [.inr (0, 24, [])]
def zs421 : List Sh := zs420.set 218 (.inl (11, [220, 0, 0, 0, 0, 0, 0, 0, 0, 221, 0, 222, 223, 224, 0, 0, 225, 226, 0, 0, 227, 228, 229, 230, 231, 232, 233, 234, 235, 236, 0, 237, 238, 0, 239, 240, 0, 0, 241, 242, 243, 0, 0, 0]))
def zs422 : List Sh := zs421 ++ [.inr (0, 123, [])]
def zs423 : List Sh := zs422.set 218 (.inl (11, [220, 0, 0, 0, 0, 0, 0, 0, 0, 221, 0, 222, 223, 224, 0, 0, 225, 226, 0, 0, 227, 228, 229, 230, 231, 232, 233, 234, 235, 236, 0, 237, 238, 0, 239, 240, 0, 0, 241, 242, 243, 0, 244, 0]))
def zq423 : List Sh := [.inl (10, [2, 4, 11, 17, 139, 192, 198, 201, 204, 206, 214, 215, 216, 217, 218, 0, 0, 0]), .inl (9, [3, 0]), .inr (0, 800, []), .inl (5, [5, 0, 0, 0, 0, 0, 0, 0]), .inl (0, [0, 0, 6, 7, 8, 9, 10]), .inr (0, 24, []), .inr (0, 60, []), .inr (0, 60, []), .inr (0, 60, []), .inr (0, 24, []), .inl (0, [0, 0, 12, 13, 14, 15, 16]), .inr (0, 24, []), .inr (0, 60, []), .inr (0, 60, []), .inr (0, 60, []), .inr (0, 24, []), .inl (3, [0, 0, 18]), .inr (4, 20, [19, 25, 31, 37, 43, 49, 55, 61, 67, 73, 79, 85, 91, 97, 103, 109, 115, 121, 127, 133]), .inl (0, [0, 0, 20, 21, 22, 23, 24]), .inr (0, 24, []), .inr (0, 60, []), .inr (0, 60, []), .inr (0, 60, []), .inr (0, 24, []), .inl (0, [0, 0, 26, 27, 28, 29, 30]), .inr (0, 24, []), .inr (0, 60, []), .inr (0, 60, []), .inr (0, 60, []), .inr (0, 24, []), .inl (0, [0, 0, 32, 33, 34, 35, 36]), .inr (0, 24, []), .inr (0, 60, []), .inr (0, 60, []), .inr (0, 60, []), .inr (0, 24, []), .inl (0, [0, 0, 38, 39, 40, 41, 42]), .inr (0, 24, []), .inr (0, 60, []), .inr (0, 60, []), .inr (0, 60, []), .inr (0, 24, []), .inl (0, [0, 0, 44, 45, 46, 47, 48]), .inr (0, 24, []), .inr (0, 60, []), .inr (0, 60, []), .inr (0, 60, []), .inr (0, 24, []), .inl (0, [0, 0, 50, 51, 52, 53, 54]), .inr (0, 24, []), .inr (0, 60, []), .inr (0, 60, []), .inr (0, 60, []), .inr (0, 24, []), .inl (0, [0, 0, 56, 57, 58, 59, 60]), .inr (0, 24, []), .inr (0, 60, []), .inr (0, 60, []), .inr (0, 60, []), .inr (0, 24, []), .inl (0, [0, 0, 62, 63, 64, 65, 66]), .inr (0, 24, []), .inr (0, 60, []), .inr (0, 60, []), .inr (0, 60, []), .inr (0, 24, []), .inl (0, [0, 0, 68, 69, 70, 71, 72]), .inr (0, 24, []), .inr (0, 60, []), .inr (0, 60, []), .inr (0, 60, []), .inr (0, 24, []), .inl (0, [0, 0, 74, 75, 76, 77, 78]), .inr (0, 24, []), .inr (0, 60, []), .inr (0, 60, []), .inr (0, 60, []), .inr (0, 24, []), .inl (0, [0, 0, 80, 81, 82, 83, 84]), .inr (0, 24, []), .inr (0, 60, []), .inr (0, 60, []), .inr (0, 60, []), .inr (0, 24, []), .inl (0, [0, 0, 86, 87, 88, 89, 90]), .inr (0, 24, []), .inr (0, 60, []), .inr (0, 60, []), .inr (0, 60, []), .inr (0, 24, []), .inl (0, [0, 0, 92, 93, 94, 95, 96]), .inr (0, 24, []), .inr (0, 60, []), .inr (0, 60, []), .inr (0, 60, []), .inr (0, 24, []), .inl (0, [0, 0, 98, 99, 100, 101, 102]), .inr (0, 24, []), .inr (0, 60, []), .inr (0, 60, []), .inr (0, 60, []), .inr (0, 24, []), .inl (0, [0, 0, 104, 105, 106, 107, 108]), .inr (0, 24, []), .inr (0, 60, []), .inr (0, 60, []), .inr (0, 60, []), .inr (0, 24, []), .inl (0, [0, 0, 110, 111, 112, 113, 114]), .inr (0, 24, []), .inr (0, 60, []), .inr (0, 60, []), .inr (0, 60, []), .inr (0, 24, []), .inl (0, [0, 0, 116, 117, 118, 119, 120]), .inr (0, 24, []), .inr (0, 60, []), .inr (0, 60, []), .inr (0, 60, []), .inr (0, 24, []), .inl (0, [0, 0, 122, 123, 124, 125, 126]), .inr (0, 24, []), .inr (0, 60, []), .inr (0, 60, []), .inr (0, 60, []), .inr (0, 24, []), .inl (0, [0, 0, 128, 129, 130, 131, 132]), .inr (0, 24, []), .inr (0, 60, []), .inr (0, 60, []), .inr (0, 60, []), .inr (0, 24, []), .inl (0, [0, 0, 134, 135, 136, 137, 138]), .inr (0, 24, []), .inr (0, 60, []), .inr (0, 60, []), .inr (0, 60, []), .inr (0, 24, []), .inl (2, [0, 0, 0, 140, 141, 166, 0, 191]), .inr (0, 24, []), .inr (3, 24, [142, 143, 144, 145, 146, 147, 148, 149, 150, 151, 152, 153, 154, 155, 156, 157, 158, 159, 160, 161, 162, 163, 164, 165]), .inr (0, 24, []), .inr (0, 24, []), .inr (0, 24, []), .inr (0, 24, []), .inr (0, 24, []), .inr (0, 24, []), .inr (0, 24, []), .inr (0, 24, []), .inr (0, 24, []), .inr (0, 24, []), .inr (0, 24, []), .inr (0, 24, []), .inr (0, 24, []), .inr (0, 24, []), .inr (0, 24, []), .inr (0, 24, []), .inr (0, 24, []), .inr (0, 24, []), .inr (0, 24, []), .inr (0, 24, []), .inr (0, 24, []), .inr (0, 24, []), .inr (0, 24, []), .inr (0, 24, []), .inr (3, 24, [167, 168, 169, 170, 171, 172, 173, 174, 175, 176, 177, 178, 179, 180, 181, 182, 183, 184, 185, 186, 187, 188, 189, 190]), .inr (0, 24, []), .inr (0, 24, []), .inr (0, 24, []), .inr (0, 24, []), .inr (0, 24, []), .inr (0, 24, []), .inr (0, 24, []), .inr (0, 24, []), .inr (0, 24, []), .inr (0, 24, []), .inr (0, 24, []), .inr (0, 24, []), .inr (0, 24, []), .inr (0, 24, []), .inr (0, 24, []), .inr (0, 24, []), .inr (0, 24, []), .inr (0, 24, []), .inr (0, 24, []), .inr (0, 24, []), .inr (0, 24, []), .inr (0, 24, []), .inr (0, 24, []), .inr (0, 24, []), .inr (1, 24, []), .inl (1, [0, 0, 193, 194, 195, 196, 197]), .inr (0, 60, []), .inr (0, 60, []), .inr (0, 60, []), .inr (0, 24, []), .inr (0, 60, []), .inl (8, [0, 0, 0, 0, 0, 0, 0, 199, 200]), .inr (0, 24, []), .inr (0, 60, []), .inl (6, [202, 203, 0]), .inr (0, 24, []), .inr (0, 24, []), .inl (7, [0, 0, 205]), .inr (0, 60, []), .inl (4, [207, 0, 208]), .inr (0, 123, []), .inl (0, [0, 0, 209, 210, 211, 212, 213]), .inr (0, 24, []), .inr (0, 60, []), .inr (0, 60, []), .inr (0, 60, []), .inr (0, 24, []), .inr (0, 15, []), .inr (0, 12, []), .inr (0, 12, []), .inr (0, 25, []), .inr (0, 6, []), .inl (11, [220, 0, 0, 0, 0, 0, 0, 0, 0, 221, 0, 222, 223, 224, 0, 0, 225, 226, 0, 0, 227, 228, 229, 230, 231, 232, 233, 234, 235, 236, 0, 237, 238, 0, 239, 240, 0, 0, 241, 242, 243, 0, 244, 0]), .inr (0, 800, []), .inr (0, 6, []), .inr (0, 206, []), .inr (0, 206, []), .inr (0, 206, []), .inr (0, 576, []), .inr (0, 60, []), .inr (0, 2, []), .inr (0, 60, []), .inr (0, 24, []), .inr (0, 60, []), .inr (1, 24, []), .inr (0, 24, []), .inr (0, 25, []), .inr (0, 25, []), .inr (2, 65536, []), .inr (0, 16, []), .inr (0, 15, []), .inr (0, 576, []), .inr (0, 24, []), .inr (0, 4120, []), .inr (0, 24, []), .inr (0, 24, []), .inr (0, 24, []), .inr (0, 123, [])]
theorem zX11_init_218 {G : GT} {d : Nat} (hd : 1 ≤ d) {w : VT} {Q : Option Vl → List Sh → VT → Prop} (hv : ini w 219 [(218, 8), (218, 41)]) (hQ : ∀ w, ini w 244 [] → Q none zq423 w) : n_T G d 25 72786 mX11_init 0 [vR 218] [] zs373 w Q := by
  refine T_aload_n dX11_init_0 rfl ?_
  refine T_objI dX11_init_1 lX11_1 w_oi w_oc (by omega) (Nat.le_of_ble_eq_true rfl) ?_
  refine T_aload_n dX11_init_4 rfl ?_
  refine T_sipush dX11_init_5 (by decide) ?_
  refine V_newa0 (n := 800) (L := 219) (rc' := 24) (rs' := 71986) (sh' := zs374) dX11_init_8 (wsAll_place 173 (by decide +kernel) (by decide +kernel)) (by decide) (by decide +kernel) rfl (by decide) (by decide) (fun w ew => ?_)
  replace hv := ini_new (E' := [(218, 8), (218, 41)]) hv ew (by decide) (by decide)
  clear ew
  refine V_putF (sh' := zs375) (rs' := [0, 0, 0, 0, 0, 0, 0, 0, 0, 0, 0, 0, 0, 0, 0, 0, 0, 0, 0, 0, 0, 0, 0, 0, 0, 0, 0, 0, 0, 0, 0, 0, 0, 0, 0, 0, 0, 0, 0, 0, 0, 0, 0, 0]) dX11_init_10 fX11_7 rfl rfl rfl rfl (by decide +kernel) rfl (by decide +kernel) ?_
  refine T_aload_n dX11_init_13 rfl ?_
  refine T_iconst dX11_init_14 (by decide) ?_
  refine U_putI (rs' := [220, 0, 0, 0, 0, 0, 0, 0, 0, 0, 0, 0, 0, 0, 0, 0, 0, 0, 0, 0, 0, 0, 0, 0, 0, 0, 0, 0, 0, 0, 0, 0, 0, 0, 0, 0, 0, 0, 0, 0, 0, 0, 0, 0]) dX11_init_15 fX11_13 rfl rfl (by decide +kernel) (fun w ew => ?_)
  replace hv := ini_put (E' := [(218, 41)]) hv ew (by decide) (by decide)
  clear ew
  refine T_aload_n dX11_init_18 rfl ?_
  refine T_bipush dX11_init_19 (by decide) ?_
  refine V_newa0 (n := 6) (L := 220) (rc' := 23) (rs' := 71980) (sh' := zs376) dX11_init_21 (wsAll_place 173 (by decide +kernel) (by decide +kernel)) (by decide) (by decide +kernel) rfl (by decide) (by decide) (fun w ew => ?_)
  replace hv := ini_new (E' := [(218, 41)]) hv ew (by decide) (by decide)
  clear ew
  refine V_putF (sh' := zs377) (rs' := [220, 0, 0, 0, 0, 0, 0, 0, 0, 0, 0, 0, 0, 0, 0, 0, 0, 0, 0, 0, 0, 0, 0, 0, 0, 0, 0, 0, 0, 0, 0, 0, 0, 0, 0, 0, 0, 0, 0, 0, 0, 0, 0, 0]) dX11_init_23 fX11_17 rfl rfl rfl rfl (by decide +kernel) rfl (by decide +kernel) ?_
  refine T_aload_n dX11_init_26 rfl ?_
  refine T_sipush dX11_init_27 (by decide) ?_
  refine V_newa0 (n := 206) (L := 221) (rc' := 22) (rs' := 71774) (sh' := zs378) dX11_init_30 (wsAll_place 173 (by decide +kernel) (by decide +kernel)) (by decide) (by decide +kernel) rfl (by decide) (by decide) (fun w ew => ?_)
  replace hv := ini_new (E' := [(218, 41)]) hv ew (by decide) (by decide)
  clear ew
  refine V_putF (sh' := zs379) (rs' := [220, 0, 0, 0, 0, 0, 0, 0, 0, 221, 0, 0, 0, 0, 0, 0, 0, 0, 0, 0, 0, 0, 0, 0, 0, 0, 0, 0, 0, 0, 0, 0, 0, 0, 0, 0, 0, 0, 0, 0, 0, 0, 0, 0]) dX11_init_32 fX11_20 rfl rfl rfl rfl (by decide +kernel) rfl (by decide +kernel) ?_
  refine T_aload_n dX11_init_35 rfl ?_
  refine T_sipush dX11_init_36 (by decide) ?_
  refine V_newa0 (n := 206) (L := 222) (rc' := 21) (rs' := 71568) (sh' := zs380) dX11_init_39 (wsAll_place 173 (by decide +kernel) (by decide +kernel)) (by decide) (by decide +kernel) rfl (by decide) (by decide) (fun w ew => ?_)
  replace hv := ini_new (E' := [(218, 41)]) hv ew (by decide) (by decide)
  clear ew
  refine V_putF (sh' := zs381) (rs' := [220, 0, 0, 0, 0, 0, 0, 0, 0, 221, 0, 222, 0, 0, 0, 0, 0, 0, 0, 0, 0, 0, 0, 0, 0, 0, 0, 0, 0, 0, 0, 0, 0, 0, 0, 0, 0, 0, 0, 0, 0, 0, 0, 0]) dX11_init_41 fX11_23 rfl rfl rfl rfl (by decide +kernel) rfl (by decide +kernel) ?_
  refine T_aload_n dX11_init_44 rfl ?_
  refine T_sipush dX11_init_45 (by decide) ?_
  refine V_newa0 (n := 206) (L := 223) (rc' := 20) (rs' := 71362) (sh' := zs382) dX11_init_48 (wsAll_place 173 (by decide +kernel) (by decide +kernel)) (by decide) (by decide +kernel) rfl (by decide) (by decide) (fun w ew => ?_)
  replace hv := ini_new (E' := [(218, 41)]) hv ew (by decide) (by decide)
  clear ew
  refine V_putF (sh' := zs383) (rs' := [220, 0, 0, 0, 0, 0, 0, 0, 0, 221, 0, 222, 223, 0, 0, 0, 0, 0, 0, 0, 0, 0, 0, 0, 0, 0, 0, 0, 0, 0, 0, 0, 0, 0, 0, 0, 0, 0, 0, 0, 0, 0, 0, 0]) dX11_init_50 fX11_26 rfl rfl rfl rfl (by decide +kernel) rfl (by decide +kernel) ?_
  refine T_aload_n dX11_init_53 rfl ?_
  refine T_sipush dX11_init_54 (by decide) ?_
  refine V_newa0 (n := 576) (L := 224) (rc' := 19) (rs' := 70786) (sh' := zs384) dX11_init_57 (wsAll_place 173 (by decide +kernel) (by decide +kernel)) (by decide) (by decide +kernel) rfl (by decide) (by decide) (fun w ew => ?_)
  replace hv := ini_new (E' := [(218, 41)]) hv ew (by decide) (by decide)
  clear ew
  refine V_putF (sh' := zs385) (rs' := [220, 0, 0, 0, 0, 0, 0, 0, 0, 221, 0, 222, 223, 224, 0, 0, 0, 0, 0, 0, 0, 0, 0, 0, 0, 0, 0, 0, 0, 0, 0, 0, 0, 0, 0, 0, 0, 0, 0, 0, 0, 0, 0, 0]) dX11_init_59 fX11_29 rfl rfl rfl rfl (by decide +kernel) rfl (by decide +kernel) ?_
  refine T_aload_n dX11_init_62 rfl ?_
  refine T_bipush dX11_init_63 (by decide) ?_
  refine V_newa0 (n := 60) (L := 225) (rc' := 18) (rs' := 70726) (sh' := zs386) dX11_init_65 (wsAll_place 173 (by decide +kernel) (by decide +kernel)) (by decide) (by decide +kernel) rfl (by decide) (by decide) (fun w ew => ?_)
  replace hv := ini_new (E' := [(218, 41)]) hv ew (by decide) (by decide)
  clear ew
  refine V_putF (sh' := zs387) (rs' := [220, 0, 0, 0, 0, 0, 0, 0, 0, 221, 0, 222, 223, 224, 0, 0, 225, 0, 0, 0, 0, 0, 0, 0, 0, 0, 0, 0, 0, 0, 0, 0, 0, 0, 0, 0, 0, 0, 0, 0, 0, 0, 0, 0]) dX11_init_67 fX11_32 rfl rfl rfl rfl (by decide +kernel) rfl (by decide +kernel) ?_
  refine T_aload_n dX11_init_70 rfl ?_
  refine T_iconst dX11_init_71 (by decide) ?_
  refine V_newa0 (n := 2) (L := 226) (rc' := 17) (rs' := 70724) (sh' := zs388) dX11_init_72 (wsAll_place 173 (by decide +kernel) (by decide +kernel)) (by decide) (by decide +kernel) rfl (by decide) (by decide) (fun w ew => ?_)
  replace hv := ini_new (E' := [(218, 41)]) hv ew (by decide) (by decide)
  clear ew
  refine V_putF (sh' := zs389) (rs' := [220, 0, 0, 0, 0, 0, 0, 0, 0, 221, 0, 222, 223, 224, 0, 0, 225, 226, 0, 0, 0, 0, 0, 0, 0, 0, 0, 0, 0, 0, 0, 0, 0, 0, 0, 0, 0, 0, 0, 0, 0, 0, 0, 0]) dX11_init_74 fX11_35 rfl rfl rfl rfl (by decide +kernel) rfl (by decide +kernel) ?_
  refine T_aload_n dX11_init_77 rfl ?_
  refine T_bipush dX11_init_78 (by decide) ?_
  refine V_newa0 (n := 60) (L := 227) (rc' := 16) (rs' := 70664) (sh' := zs390) dX11_init_80 (wsAll_place 173 (by decide +kernel) (by decide +kernel)) (by decide) (by decide +kernel) rfl (by decide) (by decide) (fun w ew => ?_)
  replace hv := ini_new (E' := [(218, 41)]) hv ew (by decide) (by decide)
  clear ew
  refine V_putF (sh' := zs391) (rs' := [220, 0, 0, 0, 0, 0, 0, 0, 0, 221, 0, 222, 223, 224, 0, 0, 225, 226, 0, 0, 227, 0, 0, 0, 0, 0, 0, 0, 0, 0, 0, 0, 0, 0, 0, 0, 0, 0, 0, 0, 0, 0, 0, 0]) dX11_init_82 fX11_38 rfl rfl rfl rfl (by decide +kernel) rfl (by decide +kernel) ?_
  refine T_aload_n dX11_init_85 rfl ?_
  refine T_bipush dX11_init_86 (by decide) ?_
  refine V_newa0 (n := 24) (L := 228) (rc' := 15) (rs' := 70640) (sh' := zs392) dX11_init_88 (wsAll_place 173 (by decide +kernel) (by decide +kernel)) (by decide) (by decide +kernel) rfl (by decide) (by decide) (fun w ew => ?_)
  replace hv := ini_new (E' := [(218, 41)]) hv ew (by decide) (by decide)
  clear ew
  refine V_putF (sh' := zs393) (rs' := [220, 0, 0, 0, 0, 0, 0, 0, 0, 221, 0, 222, 223, 224, 0, 0, 225, 226, 0, 0, 227, 228, 0, 0, 0, 0, 0, 0, 0, 0, 0, 0, 0, 0, 0, 0, 0, 0, 0, 0, 0, 0, 0, 0]) dX11_init_90 fX11_41 rfl rfl rfl rfl (by decide +kernel) rfl (by decide +kernel) ?_
  refine T_aload_n dX11_init_93 rfl ?_
  refine T_bipush dX11_init_94 (by decide) ?_
  refine V_newa0 (n := 60) (L := 229) (rc' := 14) (rs' := 70580) (sh' := zs394) dX11_init_96 (wsAll_place 173 (by decide +kernel) (by decide +kernel)) (by decide) (by decide +kernel) rfl (by decide) (by decide) (fun w ew => ?_)
  replace hv := ini_new (E' := [(218, 41)]) hv ew (by decide) (by decide)
  clear ew
  refine V_putF (sh' := zs395) (rs' := [220, 0, 0, 0, 0, 0, 0, 0, 0, 221, 0, 222, 223, 224, 0, 0, 225, 226, 0, 0, 227, 228, 229, 0, 0, 0, 0, 0, 0, 0, 0, 0, 0, 0, 0, 0, 0, 0, 0, 0, 0, 0, 0, 0]) dX11_init_98 fX11_44 rfl rfl rfl rfl (by decide +kernel) rfl (by decide +kernel) ?_
  refine T_aload_n dX11_init_101 rfl ?_
  refine T_bipush dX11_init_102 (by decide) ?_
  refine V_newa1 (n := 24) (L := 230) (rc' := 13) (rs' := 70556) (sh' := zs396) dX11_init_104 (wsAll_place 326 (by decide +kernel) (by decide +kernel)) (by decide) (by decide +kernel) rfl (by decide) (by decide) (fun w ew => ?_)
  replace hv := ini_new (E' := [(218, 41)]) hv ew (by decide) (by decide)
  clear ew
  refine V_putF (sh' := zs397) (rs' := [220, 0, 0, 0, 0, 0, 0, 0, 0, 221, 0, 222, 223, 224, 0, 0, 225, 226, 0, 0, 227, 228, 229, 230, 0, 0, 0, 0, 0, 0, 0, 0, 0, 0, 0, 0, 0, 0, 0, 0, 0, 0, 0, 0]) dX11_init_106 fX11_47 rfl rfl rfl rfl (by decide +kernel) rfl (by decide +kernel) ?_
  refine T_aload_n dX11_init_109 rfl ?_
  refine T_bipush dX11_init_110 (by decide) ?_
  refine V_newa0 (n := 24) (L := 231) (rc' := 12) (rs' := 70532) (sh' := zs398) dX11_init_112 (wsAll_place 173 (by decide +kernel) (by decide +kernel)) (by decide) (by decide +kernel) rfl (by decide) (by decide) (fun w ew => ?_)
  replace hv := ini_new (E' := [(218, 41)]) hv ew (by decide) (by decide)
  clear ew
  refine V_putF (sh' := zs399) (rs' := [220, 0, 0, 0, 0, 0, 0, 0, 0, 221, 0, 222, 223, 224, 0, 0, 225, 226, 0, 0, 227, 228, 229, 230, 231, 0, 0, 0, 0, 0, 0, 0, 0, 0, 0, 0, 0, 0, 0, 0, 0, 0, 0, 0]) dX11_init_114 fX11_51 rfl rfl rfl rfl (by decide +kernel) rfl (by decide +kernel) ?_
  refine T_aload_n dX11_init_117 rfl ?_
  refine T_bipush dX11_init_118 (by decide) ?_
  refine V_newa0 (n := 25) (L := 232) (rc' := 11) (rs' := 70507) (sh' := zs400) dX11_init_120 (wsAll_place 173 (by decide +kernel) (by decide +kernel)) (by decide) (by decide +kernel) rfl (by decide) (by decide) (fun w ew => ?_)
  replace hv := ini_new (E' := [(218, 41)]) hv ew (by decide) (by decide)
  clear ew
  refine V_putF (sh' := zs401) (rs' := [220, 0, 0, 0, 0, 0, 0, 0, 0, 221, 0, 222, 223, 224, 0, 0, 225, 226, 0, 0, 227, 228, 229, 230, 231, 232, 0, 0, 0, 0, 0, 0, 0, 0, 0, 0, 0, 0, 0, 0, 0, 0, 0, 0]) dX11_init_122 fX11_54 rfl rfl rfl rfl (by decide +kernel) rfl (by decide +kernel) ?_
  refine T_aload_n dX11_init_125 rfl ?_
  refine T_bipush dX11_init_126 (by decide) ?_
  refine V_newa0 (n := 25) (L := 233) (rc' := 10) (rs' := 70482) (sh' := zs402) dX11_init_128 (wsAll_place 173 (by decide +kernel) (by decide +kernel)) (by decide) (by decide +kernel) rfl (by decide) (by decide) (fun w ew => ?_)
  replace hv := ini_new (E' := [(218, 41)]) hv ew (by decide) (by decide)
  clear ew
  refine V_putF (sh' := zs403) (rs' := [220, 0, 0, 0, 0, 0, 0, 0, 0, 221, 0, 222, 223, 224, 0, 0, 225, 226, 0, 0, 227, 228, 229, 230, 231, 232, 233, 0, 0, 0, 0, 0, 0, 0, 0, 0, 0, 0, 0, 0, 0, 0, 0, 0]) dX11_init_130 fX11_57 rfl rfl rfl rfl (by decide +kernel) rfl (by decide +kernel) ?_
  refine T_aload_n dX11_init_133 rfl ?_
  refine T_ldc (n := 65536) dX11_init_134 cX11_60 (by unfold r32; omega) ?_
  refine V_newa2 (n := 65536) (L := 234) (rc' := 9) (rs' := 4946) (sh' := zs404) dX11_init_136 (wsAll_place 679 (by decide +kernel) (by decide +kernel)) (by decide) (by decide +kernel) rfl (by decide) (by decide) (fun w ew => ?_)
  replace hv := ini_new (E' := [(218, 41)]) hv ew (by decide) (by decide)
  clear ew
  refine V_putF (sh' := zs405) (rs' := [220, 0, 0, 0, 0, 0, 0, 0, 0, 221, 0, 222, 223, 224, 0, 0, 225, 226, 0, 0, 227, 228, 229, 230, 231, 232, 233, 234, 0, 0, 0, 0, 0, 0, 0, 0, 0, 0, 0, 0, 0, 0, 0, 0]) dX11_init_138 fX11_61 rfl rfl rfl rfl (by decide +kernel) rfl (by decide +kernel) ?_
  refine T_aload_n dX11_init_141 rfl ?_
  refine T_bipush dX11_init_142 (by decide) ?_
  refine V_newa0 (n := 16) (L := 235) (rc' := 8) (rs' := 4930) (sh' := zs406) dX11_init_144 (wsAll_place 173 (by decide +kernel) (by decide +kernel)) (by decide) (by decide +kernel) rfl (by decide) (by decide) (fun w ew => ?_)
  replace hv := ini_new (E' := [(218, 41)]) hv ew (by decide) (by decide)
  clear ew
  refine V_putF (sh' := zs407) (rs' := [220, 0, 0, 0, 0, 0, 0, 0, 0, 221, 0, 222, 223, 224, 0, 0, 225, 226, 0, 0, 227, 228, 229, 230, 231, 232, 233, 234, 235, 0, 0, 0, 0, 0, 0, 0, 0, 0, 0, 0, 0, 0, 0, 0]) dX11_init_146 fX11_65 rfl rfl rfl rfl (by decide +kernel) rfl (by decide +kernel) ?_
  refine T_aload_n dX11_init_149 rfl ?_
  refine T_bipush dX11_init_150 (by decide) ?_
  refine V_newa0 (n := 15) (L := 236) (rc' := 7) (rs' := 4915) (sh' := zs408) dX11_init_152 (wsAll_place 173 (by decide +kernel) (by decide +kernel)) (by decide) (by decide +kernel) rfl (by decide) (by decide) (fun w ew => ?_)
  replace hv := ini_new (E' := [(218, 41)]) hv ew (by decide) (by decide)
  clear ew
  refine V_putF (sh' := zs409) (rs' := [220, 0, 0, 0, 0, 0, 0, 0, 0, 221, 0, 222, 223, 224, 0, 0, 225, 226, 0, 0, 227, 228, 229, 230, 231, 232, 233, 234, 235, 236, 0, 0, 0, 0, 0, 0, 0, 0, 0, 0, 0, 0, 0, 0]) dX11_init_154 fX11_68 rfl rfl rfl rfl (by decide +kernel) rfl (by decide +kernel) ?_
  refine T_aload_n dX11_init_157 rfl ?_
  refine T_sipush dX11_init_158 (by decide) ?_
  refine V_newa0 (n := 576) (L := 237) (rc' := 6) (rs' := 4339) (sh' := zs410) dX11_init_161 (wsAll_place 173 (by decide +kernel) (by decide +kernel)) (by decide) (by decide +kernel) rfl (by decide) (by decide) (fun w ew => ?_)
  replace hv := ini_new (E' := [(218, 41)]) hv ew (by decide) (by decide)
  clear ew
  refine V_putF (sh' := zs411) (rs' := [220, 0, 0, 0, 0, 0, 0, 0, 0, 221, 0, 222, 223, 224, 0, 0, 225, 226, 0, 0, 227, 228, 229, 230, 231, 232, 233, 234, 235, 236, 0, 237, 0, 0, 0, 0, 0, 0, 0, 0, 0, 0, 0, 0]) dX11_init_163 fX11_71 rfl rfl rfl rfl (by decide +kernel) rfl (by decide +kernel) ?_
  refine T_aload_n dX11_init_166 rfl ?_
  refine T_bipush dX11_init_167 (by decide) ?_
  refine V_newa0 (n := 24) (L := 238) (rc' := 5) (rs' := 4315) (sh' := zs412) dX11_init_169 (wsAll_place 173 (by decide +kernel) (by decide +kernel)) (by decide) (by decide +kernel) rfl (by decide) (by decide) (fun w ew => ?_)
  replace hv := ini_new (E' := [(218, 41)]) hv ew (by decide) (by decide)
  clear ew
  refine V_putF (sh' := zs413) (rs' := [220, 0, 0, 0, 0, 0, 0, 0, 0, 221, 0, 222, 223, 224, 0, 0, 225, 226, 0, 0, 227, 228, 229, 230, 231, 232, 233, 234, 235, 236, 0, 237, 238, 0, 0, 0, 0, 0, 0, 0, 0, 0, 0, 0]) dX11_init_171 fX11_74 rfl rfl rfl rfl (by decide +kernel) rfl (by decide +kernel) ?_
  refine T_aload_n dX11_init_174 rfl ?_
  refine T_sipush dX11_init_175 (by decide) ?_
  refine V_newa0 (n := 4120) (L := 239) (rc' := 4) (rs' := 195) (sh' := zs414) dX11_init_178 (wsAll_place 173 (by decide +kernel) (by decide +kernel)) (by decide) (by decide +kernel) rfl (by decide) (by decide) (fun w ew => ?_)
  replace hv := ini_new (E' := [(218, 41)]) hv ew (by decide) (by decide)
  clear ew
  refine V_putF (sh' := zs415) (rs' := [220, 0, 0, 0, 0, 0, 0, 0, 0, 221, 0, 222, 223, 224, 0, 0, 225, 226, 0, 0, 227, 228, 229, 230, 231, 232, 233, 234, 235, 236, 0, 237, 238, 0, 239, 0, 0, 0, 0, 0, 0, 0, 0, 0]) dX11_init_180 fX11_77 rfl rfl rfl rfl (by decide +kernel) rfl (by decide +kernel) ?_
  refine T_aload_n dX11_init_183 rfl ?_
  refine T_bipush dX11_init_184 (by decide) ?_
  refine V_newa0 (n := 24) (L := 240) (rc' := 3) (rs' := 171) (sh' := zs416) dX11_init_186 (wsAll_place 173 (by decide +kernel) (by decide +kernel)) (by decide) (by decide +kernel) rfl (by decide) (by decide) (fun w ew => ?_)
  replace hv := ini_new (E' := [(218, 41)]) hv ew (by decide) (by decide)
  clear ew
  refine V_putF (sh' := zs417) (rs' := [220, 0, 0, 0, 0, 0, 0, 0, 0, 221, 0, 222, 223, 224, 0, 0, 225, 226, 0, 0, 227, 228, 229, 230, 231, 232, 233, 234, 235, 236, 0, 237, 238, 0, 239, 240, 0, 0, 0, 0, 0, 0, 0, 0]) dX11_init_188 fX11_80 rfl rfl rfl rfl (by decide +kernel) rfl (by decide +kernel) ?_
  refine T_aload_n dX11_init_191 rfl ?_
  refine T_bipush dX11_init_192 (by decide) ?_
  refine V_newa0 (n := 24) (L := 241) (rc' := 2) (rs' := 147) (sh' := zs418) dX11_init_194 (wsAll_place 173 (by decide +kernel) (by decide +kernel)) (by decide) (by decide +kernel) rfl (by decide) (by decide) (fun w ew => ?_)
  replace hv := ini_new (E' := [(218, 41)]) hv ew (by decide) (by decide)
  clear ew
  refine V_putF (sh' := zs419) (rs' := [220, 0, 0, 0, 0, 0, 0, 0, 0, 221, 0, 222, 223, 224, 0, 0, 225, 226, 0, 0, 227, 228, 229, 230, 231, 232, 233, 234, 235, 236, 0, 237, 238, 0, 239, 240, 0, 0, 241, 0, 0, 0, 0, 0]) dX11_init_196 fX11_83 rfl rfl rfl rfl (by decide +kernel) rfl (by decide +kernel) ?_
  refine T_aload_n dX11_init_199 rfl ?_
  refine T_bipush dX11_init_200 (by decide) ?_
  refine V_newa0 (n := 24) (L := 242) (rc' := 1) (rs' := 123) (sh' := zs420) dX11_init_202 (wsAll_place 173 (by decide +kernel) (by decide +kernel)) (by decide) (by decide +kernel) rfl (by decide) (by decide) (fun w ew => ?_)
  replace hv := ini_new (E' := [(218, 41)]) hv ew (by decide) (by decide)
  clear ew
  refine V_putF (sh' := zs421) (rs' := [220, 0, 0, 0, 0, 0, 0, 0, 0, 221, 0, 222, 223, 224, 0, 0, 225, 226, 0, 0, 227, 228, 229, 230, 231, 232, 233, 234, 235, 236, 0, 237, 238, 0, 239, 240, 0, 0, 241, 242, 0, 0, 0, 0]) dX11_init_204 fX11_86 rfl rfl rfl rfl (by decide +kernel) rfl (by decide +kernel) ?_
  refine T_aload_n dX11_init_207 rfl ?_
  refine T_lconst dX11_init_208 ?_
  refine U_putJ (rs' := [220, 0, 0, 0, 0, 0, 0, 0, 0, 221, 0, 222, 223, 224, 0, 0, 225, 226, 0, 0, 227, 228, 229, 230, 231, 232, 233, 234, 235, 236, 0, 237, 238, 0, 239, 240, 0, 0, 241, 242, 243, 0, 0, 0]) dX11_init_209 fX11_89 rfl rfl (by decide +kernel) (fun w ew => ?_)
  replace hv := ini_put (E' := []) hv ew (by decide) (by decide)
  clear ew
  refine T_aload_n dX11_init_212 rfl ?_
  refine T_bipush dX11_init_213 (by decide) ?_
  refine V_newa0 (n := 123) (L := 243) (rc' := 0) (rs' := 0) (sh' := zs422) dX11_init_215 (wsAll_place 173 (by decide +kernel) (by decide +kernel)) (by decide) (by decide +kernel) rfl (by decide) (by decide) (fun w ew => ?_)
  replace hv := ini_new (E' := []) hv ew (by decide) (by decide)
  clear ew
  refine V_putF (sh' := zs423) (rs' := [220, 0, 0, 0, 0, 0, 0, 0, 0, 221, 0, 222, 223, 224, 0, 0, 225, 226, 0, 0, 227, 228, 229, 230, 231, 232, 233, 234, 235, 236, 0, 237, 238, 0, 239, 240, 0, 0, 241, 242, 243, 0, 0, 0]) dX11_init_217 fX11_93 rfl rfl rfl rfl (by decide +kernel) rfl (by decide +kernel) ?_
  have ez : zs423 = zq423 := by decide +kernel
  rw [ez]
  exact T_vret dX11_init_220 rfl (hQ _ hv)
theorem z_start {G : GT} {d : Nat} (hd : 8 ≤ d) {w : VT} {Q : Option Vl → List Sh → VT → Prop} (hK : ∀ w, ini w 244 [] → n_T G d 0 0 mL_law 16 [vS 0, vR 0, vR 218, vS 9] [] SH w Q) : n_T G d 244 81016 mL_law 0 [vS 0, vS 9, vS 9, vS 9] [] [] w Q := by
  have hv : ini w 0 [] := fun a ha => absurd ha (Nat.not_lt_zero a)
  refine V_new (L := 0) (rc' := 243) (rs' := 80998) (sh' := zs1) dL_law_0 cok10 okty10 (wsAll_place 147 (by decide +kernel) (by decide +kernel)) (wsAll_place 148 (by decide +kernel) (by decide +kernel)) (wsAll_place 128 (by decide +kernel) (by decide +kernel)) (by decide +kernel) (by decide +kernel) (by decide) (by decide) (fun w ew => ?_)
  replace hv := ini_new (E' := [(0, 17)]) hv ew (by decide) (by decide)
  clear ew
  refine T_dup dL_law_3 rfl ?_
  refine V_callI (rc1 := 217) (rs1 := 8168) (rc2 := 26) (rs2 := 72830) dL_law_4 kX10_init lL_9 (by decide) (Nat.le_of_ble_eq_true rfl) (by omega) (by decide) (by decide) ?_
  refine zX10_init_0 (by omega) hv (fun w hv => ?_)
  show n_T G d 26 72830 mL_law 7 [vS 0, vS 9, vS 9, vS 9] [vR 0] zq371 w Q
  refine T_astore_n dL_law_7 (by decide) rfl ?_
  refine V_new (L := 218) (rc' := 25) (rs' := 72786) (sh' := zs373) dL_law_8 cok11 okty11 (wsAll_place 1256 (by decide +kernel) (by decide +kernel)) (wsAll_place 1257 (by decide +kernel) (by decide +kernel)) (wsAll_place 139 (by decide +kernel) (by decide +kernel)) (by decide +kernel) (by decide +kernel) (by decide) (by decide) (fun w ew => ?_)
  replace hv := ini_new (E' := [(218, 8), (218, 41)]) hv ew (by decide) (by decide)
  clear ew
  refine T_dup dL_law_11 rfl ?_
  refine V_callI (rc1 := 25) (rs1 := 72786) (rc2 := 0) (rs2 := 0) dL_law_12 kX11_init lL_12 (by decide) (Nat.le_of_ble_eq_true rfl) (by omega) (by decide) (by decide) ?_
  refine zX11_init_218 (by omega) hv (fun w hv => ?_)
  show n_T G d 0 0 mL_law 15 [vS 0, vR 0, vS 9, vS 9] [vR 218] zq423 w Q
  refine T_astore_n dL_law_15 (by decide) rfl ?_
  have ez : zq423 = SH := by decide +kernel
  rw [ez]
  exact hK w hv

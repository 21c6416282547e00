/-! ===== the walks: each method keeps its predicate ===== -/
theorem W_X0_wipe {G : GT} {d : Nat} (hd : 1 ≤ d) {g : Nat} (hg : isG g)  {v : VT} {q : VT → Prop} {Q : Option Vl → List Sh → VT → Prop} (h : P_X0_wipe g v q) (hQ : ∀ w, q w → Q none SH w) : n_T G d 0 0 mX0_wipe 0 [vR g] [] SH v Q := by
  unfold P_X0_wipe at h
  refine T_aload_n dX0_wipe_0 rfl ?_
  refine T_iconst dX0_wipe_1 (by decide) ?_
  refine U_putI dX0_wipe_2 fX0_9 rfl rfl (isG_o hg) (fun v2 ev2 => ?_)
  replace h := h v2 ev2
  refine T_aload_n dX0_wipe_5 rfl ?_
  refine T_iconst dX0_wipe_6 (by decide) ?_
  refine U_putI dX0_wipe_7 fX0_15 rfl rfl (isG_o hg) (fun v7 ev7 => ?_)
  replace h := h v7 ev7
  exact T_vret dX0_wipe_10 rfl (hQ _ h)

theorem W_X0_takeFrom {G : GT} {d : Nat} (hd : 7 ≤ d) {g : Nat} {o : Nat} (hg : isG g) (ho : isG o)  {v : VT} {q : VT → Prop} {Q : Option Vl → List Sh → VT → Prop} (h : P_X0_takeFrom g o v q) (hQ : ∀ w, q w → Q none SH w) : n_T G d 0 0 mX0_takeFrom 0 [vR g, vR o] [] SH v Q := by
  unfold P_X0_takeFrom at h
  refine T_aload_n dX0_takeFrom_0 rfl ?_
  refine T_aload_n dX0_takeFrom_1 rfl ?_
  refine T_getI dX0_takeFrom_2 fX0_9 rfl (isG_o ho) ?_
  refine U_putI dX0_takeFrom_5 fX0_9 rfl rfl (isG_o hg) (fun v5 ev5 => ?_)
  replace h := h v5 ev5
  refine T_aload_n dX0_takeFrom_8 rfl ?_
  refine T_aload_n dX0_takeFrom_9 rfl ?_
  refine T_getI dX0_takeFrom_10 fX0_15 rfl (isG_o ho) ?_
  refine U_putI dX0_takeFrom_13 fX0_15 rfl rfl (isG_o hg) (fun v13 ev13 => ?_)
  replace h := h v13 ev13
  refine T_aload_n dX0_takeFrom_16 rfl ?_
  refine T_getR (r := (o + 1)) dX0_takeFrom_17 fX0_18 rfl (isG_o ho) rfl ?_
  refine T_iconst dX0_takeFrom_20 (by decide) ?_
  refine T_aload_n dX0_takeFrom_21 rfl ?_
  refine T_getR (r := (g + 1)) dX0_takeFrom_22 fX0_18 rfl (isG_o hg) rfl ?_
  refine T_iconst dX0_takeFrom_25 (by decide) ?_
  refine T_aload_n dX0_takeFrom_26 rfl ?_
  refine T_getI dX0_takeFrom_27 fX0_9 rfl (isG_o hg) ?_
  refine U_copy dX0_takeFrom_30 lX0_34 (isG_1 ho) (isG_1 hg) h.1 h.1.2 (by omega) (Nat.le_of_ble_eq_true rfl) (fun v30 ev30 => ?_)
  replace h := h.2 v30 ev30
  refine T_aload_n dX0_takeFrom_33 rfl ?_
  refine T_getR (r := (o + 2)) dX0_takeFrom_34 fX0_22 rfl (isG_o ho) rfl ?_
  refine T_iconst dX0_takeFrom_37 (by decide) ?_
  refine T_aload_n dX0_takeFrom_38 rfl ?_
  refine T_getR (r := (g + 2)) dX0_takeFrom_39 fX0_22 rfl (isG_o hg) rfl ?_
  refine T_iconst dX0_takeFrom_42 (by decide) ?_
  refine T_aload_n dX0_takeFrom_43 rfl ?_
  refine T_getI dX0_takeFrom_44 fX0_15 rfl (isG_o hg) ?_
  refine U_copy dX0_takeFrom_47 lX0_34 (isG_2 ho) (isG_2 hg) h.1 h.1.2 (by omega) (Nat.le_of_ble_eq_true rfl) (fun v47 ev47 => ?_)
  replace h := h.2 v47 ev47
  refine T_aload_n dX0_takeFrom_50 rfl ?_
  refine T_getR (r := (o + 3)) dX0_takeFrom_51 fX0_25 rfl (isG_o ho) rfl ?_
  refine T_iconst dX0_takeFrom_54 (by decide) ?_
  refine T_aload_n dX0_takeFrom_55 rfl ?_
  refine T_getR (r := (g + 3)) dX0_takeFrom_56 fX0_25 rfl (isG_o hg) rfl ?_
  refine T_iconst dX0_takeFrom_59 (by decide) ?_
  refine T_aload_n dX0_takeFrom_60 rfl ?_
  refine T_getI dX0_takeFrom_61 fX0_15 rfl (isG_o hg) ?_
  refine U_copy dX0_takeFrom_64 lX0_34 (isG_3 ho) (isG_3 hg) h.1 h.1.2 (by omega) (Nat.le_of_ble_eq_true rfl) (fun v64 ev64 => ?_)
  replace h := h.2 v64 ev64
  refine T_aload_n dX0_takeFrom_67 rfl ?_
  refine T_getR (r := (o + 4)) dX0_takeFrom_68 fX0_28 rfl (isG_o ho) rfl ?_
  refine T_iconst dX0_takeFrom_71 (by decide) ?_
  refine T_aload_n dX0_takeFrom_72 rfl ?_
  refine T_getR (r := (g + 4)) dX0_takeFrom_73 fX0_28 rfl (isG_o hg) rfl ?_
  refine T_iconst dX0_takeFrom_76 (by decide) ?_
  refine T_aload_n dX0_takeFrom_77 rfl ?_
  refine T_getI dX0_takeFrom_78 fX0_15 rfl (isG_o hg) ?_
  refine U_copy dX0_takeFrom_81 lX0_34 (isG_4 ho) (isG_4 hg) h.1 h.1.2 (by omega) (Nat.le_of_ble_eq_true rfl) (fun v81 ev81 => ?_)
  replace h := h.2 v81 ev81
  exact T_vret dX0_takeFrom_84 rfl (hQ _ h)

theorem W_X0_isNode {G : GT} {d : Nat} (hd : 1 ≤ d) {g : Nat} {x1 : Int} (hg : isG g)  {v : VT} {q : Int → Prop} {Q : Option Vl → List Sh → VT → Prop} (h : P_X0_isNode g x1 v q) (hQ : ∀ r, q r → Q (some (vI r)) SH v) : n_T G d 0 0 mX0_isNode 0 [vR g, vI x1] [] SH v Q := by
  unfold P_X0_isNode at h
  refine T_iload_n dX0_isNode_0 rfl ?_
  refine U_if_lt (tgt := 16) dX0_isNode_1 (by decide) (fun hc => ?_) (fun hc => ?_)
  · replace h := h.1 hc
    refine T_iconst dX0_isNode_16 (by decide) ?_
    exact T_zret dX0_isNode_17 rfl (by decide) (hQ _ h)
  · replace h := h.2 hc
    refine T_iload_n dX0_isNode_4 rfl ?_
    refine T_aload_n dX0_isNode_5 rfl ?_
    refine T_getI dX0_isNode_6 fX0_9 rfl (isG_o hg) ?_
    refine U_icmp_ge (tgt := 16) dX0_isNode_9 (by decide) (fun hc => ?_) (fun hc => ?_)
    · replace h := h.1 hc
      refine T_iconst dX0_isNode_16 (by decide) ?_
      exact T_zret dX0_isNode_17 rfl (by decide) (hQ _ h)
    · replace h := h.2 hc
      refine T_iconst dX0_isNode_12 (by decide) ?_
      refine T_goto (tgt := 17) dX0_isNode_13 (by decide) ?_
      exact T_zret dX0_isNode_17 rfl (by decide) (hQ _ h)

theorem W_X0_isLine {G : GT} {d : Nat} (hd : 1 ≤ d) {g : Nat} {x1 : Int} (hg : isG g)  {v : VT} {q : Int → Prop} {Q : Option Vl → List Sh → VT → Prop} (h : P_X0_isLine g x1 v q) (hQ : ∀ r, q r → Q (some (vI r)) SH v) : n_T G d 0 0 mX0_isLine 0 [vR g, vI x1] [] SH v Q := by
  unfold P_X0_isLine at h
  refine T_iload_n dX0_isLine_0 rfl ?_
  refine U_if_lt (tgt := 16) dX0_isLine_1 (by decide) (fun hc => ?_) (fun hc => ?_)
  · replace h := h.1 hc
    refine T_iconst dX0_isLine_16 (by decide) ?_
    exact T_zret dX0_isLine_17 rfl (by decide) (hQ _ h)
  · replace h := h.2 hc
    refine T_iload_n dX0_isLine_4 rfl ?_
    refine T_aload_n dX0_isLine_5 rfl ?_
    refine T_getI dX0_isLine_6 fX0_15 rfl (isG_o hg) ?_
    refine U_icmp_ge (tgt := 16) dX0_isLine_9 (by decide) (fun hc => ?_) (fun hc => ?_)
    · replace h := h.1 hc
      refine T_iconst dX0_isLine_16 (by decide) ?_
      exact T_zret dX0_isLine_17 rfl (by decide) (hQ _ h)
    · replace h := h.2 hc
      refine T_iconst dX0_isLine_12 (by decide) ?_
      refine T_goto (tgt := 17) dX0_isLine_13 (by decide) ?_
      exact T_zret dX0_isLine_17 rfl (by decide) (hQ _ h)

theorem W_X0_findName {G : GT} {d : Nat} (hd : 1 ≤ d) {g : Nat} {x1 : Int} (hg : isG g)  {v : VT} {q : Int → Prop} {Q : Option Vl → List Sh → VT → Prop} (h : P_X0_findName g x1 v q) (hQ : ∀ r, q r → Q (some (vI r)) SH v) : n_T G d 0 0 mX0_findName 0 [vR g, vI x1, vS 9] [] SH v Q := by
  unfold P_X0_findName at h
  refine T_iconst dX0_findName_0 (by decide) ?_
  refine T_istore_n dX0_findName_1 (by decide) rfl ?_
  refine T_drop (h (fun (i2 : Int) => n_T G d 0 0 mX0_findName 2 [vR g, vI x1, vI i2] [] SH v Q) (fun i2 h => ?_)) ⟨Or.inl rfl, Or.inl rfl, Or.inl rfl, trivial⟩
  refine T_iload_n dX0_findName_2 rfl ?_
  refine U_if_eq (tgt := 32) dX0_findName_3 (by decide) (fun hc => ?_) (fun hc => ?_)
  · replace h := h.1 hc
    refine T_iconst dX0_findName_32 (by decide) ?_
    exact T_iret dX0_findName_33 rfl (hQ _ h)
  · replace h := h.2 hc
    refine T_iload_n dX0_findName_6 rfl ?_
    refine T_aload_n dX0_findName_7 rfl ?_
    refine T_getI dX0_findName_8 fX0_9 rfl (isG_o hg) ?_
    refine U_icmp_ge (tgt := 32) dX0_findName_11 (by decide) (fun hc => ?_) (fun hc => ?_)
    · replace h := h.1 hc
      refine T_iconst dX0_findName_32 (by decide) ?_
      exact T_iret dX0_findName_33 rfl (hQ _ h)
    · replace h := h.2 hc
      refine T_aload_n dX0_findName_14 rfl ?_
      refine T_getR (r := (g + 1)) dX0_findName_15 fX0_18 rfl (isG_o hg) rfl ?_
      refine T_iload_n dX0_findName_18 rfl ?_
      refine T_iald dX0_findName_19 (isG_1 hg) h.1 ?_
      replace h := h.2
      refine T_iload_n dX0_findName_20 rfl ?_
      refine U_icmp_ne (tgt := 26) dX0_findName_21 (by decide) (fun hc => ?_) (fun hc => ?_)
      · replace h := h.1 hc
        refine U_iinc dX0_findName_26 rfl (by decide) rfl h.1 ?_
        replace h := h.2
        refine T_goto (tgt := 2) dX0_findName_29 (by decide) ?_
        exact T_drop h ⟨Or.inl rfl, Or.inl rfl, Or.inl rfl, trivial⟩
      · replace h := h.2 hc
        refine T_iload_n dX0_findName_24 rfl ?_
        exact T_iret dX0_findName_25 rfl (hQ _ h)

theorem W_X0_findLine {G : GT} {d : Nat} (hd : 7 ≤ d) {g : Nat} {x1 : Int} {x2 : Int} (hg : isG g)  {v : VT} {q : Int → Prop} {Q : Option Vl → List Sh → VT → Prop} (h : P_X0_findLine g x1 x2 v q) (hQ : ∀ r, q r → Q (some (vI r)) SH v) : n_T G d 0 0 mX0_findLine 0 [vR g, vI x1, vI x2, vS 9, vS 9, vS 9] [] SH v Q := by
  unfold P_X0_findLine at h
  refine T_iload_n dX0_findLine_0 rfl ?_
  refine T_iload_n dX0_findLine_1 rfl ?_
  refine U_min dX0_findLine_2 lX0_40 (by omega) (Nat.le_of_ble_eq_true rfl) ?_
  refine T_istore_n dX0_findLine_5 (by decide) rfl ?_
  refine T_iload_n dX0_findLine_6 rfl ?_
  refine T_iload_n dX0_findLine_7 rfl ?_
  refine U_max dX0_findLine_8 lX0_46 (by omega) (Nat.le_of_ble_eq_true rfl) ?_
  refine T_istore dX0_findLine_11 (by decide) rfl ?_
  refine T_iconst dX0_findLine_13 (by decide) ?_
  refine T_istore dX0_findLine_14 (by decide) rfl ?_
  refine T_drop (h (fun (i5 : Int) => n_T G d 0 0 mX0_findLine 16 [vR g, vS 9, vS 9, vI (min x1 x2), vI (max x1 x2), vI i5] [] SH v Q) (fun i5 h => ?_)) ⟨Or.inl rfl, Or.inr rfl, Or.inr rfl, Or.inl rfl, Or.inl rfl, Or.inl rfl, trivial⟩
  refine T_iload dX0_findLine_16 rfl ?_
  refine T_aload_n dX0_findLine_18 rfl ?_
  refine T_getI dX0_findLine_19 fX0_15 rfl (isG_o hg) ?_
  refine U_icmp_ge (tgt := 57) dX0_findLine_22 (by decide) (fun hc => ?_) (fun hc => ?_)
  · replace h := h.1 hc
    refine T_iconst dX0_findLine_57 (by decide) ?_
    exact T_iret dX0_findLine_58 rfl (hQ _ h)
  · replace h := h.2 hc
    refine T_aload_n dX0_findLine_25 rfl ?_
    refine T_getR (r := (g + 2)) dX0_findLine_26 fX0_22 rfl (isG_o hg) rfl ?_
    refine T_iload dX0_findLine_29 rfl ?_
    refine T_iald dX0_findLine_31 (isG_2 hg) h.1 ?_
    replace h := h.2
    refine T_iload_n dX0_findLine_32 rfl ?_
    refine U_icmp_ne (tgt := 51) dX0_findLine_33 (by decide) (fun hc => ?_) (fun hc => ?_)
    · replace h := h.1 hc
      refine U_iinc dX0_findLine_51 rfl (by decide) rfl h.1 ?_
      replace h := h.2
      refine T_goto (tgt := 16) dX0_findLine_54 (by decide) ?_
      exact T_drop h ⟨Or.inl rfl, Or.inr rfl, Or.inr rfl, Or.inl rfl, Or.inl rfl, Or.inl rfl, trivial⟩
    · replace h := h.2 hc
      refine T_aload_n dX0_findLine_36 rfl ?_
      refine T_getR (r := (g + 3)) dX0_findLine_37 fX0_25 rfl (isG_o hg) rfl ?_
      refine T_iload dX0_findLine_40 rfl ?_
      refine T_iald dX0_findLine_42 (isG_3 hg) h.1 ?_
      replace h := h.2
      refine T_iload dX0_findLine_43 rfl ?_
      refine U_icmp_ne (tgt := 51) dX0_findLine_45 (by decide) (fun hc => ?_) (fun hc => ?_)
      · replace h := h.1 hc
        refine U_iinc dX0_findLine_51 rfl (by decide) rfl h.1 ?_
        replace h := h.2
        refine T_goto (tgt := 16) dX0_findLine_54 (by decide) ?_
        exact T_drop h ⟨Or.inl rfl, Or.inr rfl, Or.inr rfl, Or.inl rfl, Or.inl rfl, Or.inl rfl, trivial⟩
      · replace h := h.2 hc
        refine T_iload dX0_findLine_48 rfl ?_
        exact T_iret dX0_findLine_50 rfl (hQ _ h)

theorem W_X0_canJoin {G : GT} {d : Nat} (hd : 8 ≤ d) {g : Nat} {x1 : Int} {x2 : Int} (hg : isG g)  {v : VT} {q : Int → Prop} {Q : Option Vl → List Sh → VT → Prop} (h : P_X0_canJoin g x1 x2 v q) (hQ : ∀ r, q r → Q (some (vI r)) SH v) : n_T G d 0 0 mX0_canJoin 0 [vR g, vI x1, vI x2] [] SH v Q := by
  unfold P_X0_canJoin at h
  refine T_aload_n dX0_canJoin_0 rfl ?_
  refine T_iload_n dX0_canJoin_1 rfl ?_
  refine U_callV (as := [vI x1]) (st := []) dX0_canJoin_2 kX0_isNode lX0_49 (isG_o hg) rfl rfl rfl rfl (Nat.le_of_ble_eq_true rfl) (Nat.le_of_ble_eq_true rfl) (by omega) ?_
  refine W_X0_isNode (by omega) hg h (fun r2 h => ?_)
  show n_T G d 0 0 mX0_canJoin 5 [vR g, vI x1, vI x2] [vI r2] SH v Q
  refine U_if_eq (tgt := 44) dX0_canJoin_5 (by decide) (fun hc => ?_) (fun hc => ?_)
  · replace h := h.1 hc
    refine T_iconst dX0_canJoin_44 (by decide) ?_
    exact T_zret dX0_canJoin_45 rfl (by decide) (hQ _ h)
  · replace h := h.2 hc
    refine T_aload_n dX0_canJoin_8 rfl ?_
    refine T_iload_n dX0_canJoin_9 rfl ?_
    refine U_callV (as := [vI x2]) (st := []) dX0_canJoin_10 kX0_isNode lX0_49 (isG_o hg) rfl rfl rfl rfl (Nat.le_of_ble_eq_true rfl) (Nat.le_of_ble_eq_true rfl) (by omega) ?_
    refine W_X0_isNode (by omega) hg h (fun r10 h => ?_)
    show n_T G d 0 0 mX0_canJoin 13 [vR g, vI x1, vI x2] [vI r10] SH v Q
    refine U_if_eq (tgt := 44) dX0_canJoin_13 (by decide) (fun hc => ?_) (fun hc => ?_)
    · replace h := h.1 hc
      refine T_iconst dX0_canJoin_44 (by decide) ?_
      exact T_zret dX0_canJoin_45 rfl (by decide) (hQ _ h)
    · replace h := h.2 hc
      refine T_iload_n dX0_canJoin_16 rfl ?_
      refine T_iload_n dX0_canJoin_17 rfl ?_
      refine U_icmp_eq (tgt := 44) dX0_canJoin_18 (by decide) (fun hc => ?_) (fun hc => ?_)
      · replace h := h.1 hc
        refine T_iconst dX0_canJoin_44 (by decide) ?_
        exact T_zret dX0_canJoin_45 rfl (by decide) (hQ _ h)
      · replace h := h.2 hc
        refine T_aload_n dX0_canJoin_21 rfl ?_
        refine T_getI dX0_canJoin_22 fX0_15 rfl (isG_o hg) ?_
        refine T_bipush dX0_canJoin_25 (by decide) ?_
        refine U_icmp_ge (tgt := 44) dX0_canJoin_27 (by decide) (fun hc => ?_) (fun hc => ?_)
        · replace h := h.1 hc
          refine T_iconst dX0_canJoin_44 (by decide) ?_
          exact T_zret dX0_canJoin_45 rfl (by decide) (hQ _ h)
        · replace h := h.2 hc
          refine T_aload_n dX0_canJoin_30 rfl ?_
          refine T_iload_n dX0_canJoin_31 rfl ?_
          refine T_iload_n dX0_canJoin_32 rfl ?_
          refine U_callV (as := [vI x1, vI x2]) (st := []) dX0_canJoin_33 kX0_findLine lX0_53 (isG_o hg) rfl rfl rfl rfl (Nat.le_of_ble_eq_true rfl) (Nat.le_of_ble_eq_true rfl) (by omega) ?_
          refine W_X0_findLine (by omega) hg h (fun r33 h => ?_)
          show n_T G d 0 0 mX0_canJoin 36 [vR g, vI x1, vI x2] [vI r33] SH v Q
          refine T_iconst dX0_canJoin_36 (by decide) ?_
          refine U_icmp_ne (tgt := 44) dX0_canJoin_37 (by decide) (fun hc => ?_) (fun hc => ?_)
          · replace h := h.1 hc
            refine T_iconst dX0_canJoin_44 (by decide) ?_
            exact T_zret dX0_canJoin_45 rfl (by decide) (hQ _ h)
          · replace h := h.2 hc
            refine T_iconst dX0_canJoin_40 (by decide) ?_
            refine T_goto (tgt := 45) dX0_canJoin_41 (by decide) ?_
            exact T_zret dX0_canJoin_45 rfl (by decide) (hQ _ h)

theorem W_X0_canGrow {G : GT} {d : Nat} (hd : 2 ≤ d) {g : Nat} {x1 : Int} (hg : isG g)  {v : VT} {q : Int → Prop} {Q : Option Vl → List Sh → VT → Prop} (h : P_X0_canGrow g x1 v q) (hQ : ∀ r, q r → Q (some (vI r)) SH v) : n_T G d 0 0 mX0_canGrow 0 [vR g, vI x1] [] SH v Q := by
  unfold P_X0_canGrow at h
  refine T_aload_n dX0_canGrow_0 rfl ?_
  refine T_iload_n dX0_canGrow_1 rfl ?_
  refine U_callV (as := [vI x1]) (st := []) dX0_canGrow_2 kX0_isNode lX0_49 (isG_o hg) rfl rfl rfl rfl (Nat.le_of_ble_eq_true rfl) (Nat.le_of_ble_eq_true rfl) (by omega) ?_
  refine W_X0_isNode (by omega) hg h (fun r2 h => ?_)
  show n_T G d 0 0 mX0_canGrow 5 [vR g, vI x1] [vI r2] SH v Q
  refine U_if_eq (tgt := 30) dX0_canGrow_5 (by decide) (fun hc => ?_) (fun hc => ?_)
  · replace h := h.1 hc
    refine T_iconst dX0_canGrow_30 (by decide) ?_
    exact T_zret dX0_canGrow_31 rfl (by decide) (hQ _ h)
  · replace h := h.2 hc
    refine T_aload_n dX0_canGrow_8 rfl ?_
    refine T_getI dX0_canGrow_9 fX0_9 rfl (isG_o hg) ?_
    refine T_bipush dX0_canGrow_12 (by decide) ?_
    refine U_icmp_ge (tgt := 30) dX0_canGrow_14 (by decide) (fun hc => ?_) (fun hc => ?_)
    · replace h := h.1 hc
      refine T_iconst dX0_canGrow_30 (by decide) ?_
      exact T_zret dX0_canGrow_31 rfl (by decide) (hQ _ h)
    · replace h := h.2 hc
      refine T_aload_n dX0_canGrow_17 rfl ?_
      refine T_getI dX0_canGrow_18 fX0_15 rfl (isG_o hg) ?_
      refine T_bipush dX0_canGrow_21 (by decide) ?_
      refine U_icmp_ge (tgt := 30) dX0_canGrow_23 (by decide) (fun hc => ?_) (fun hc => ?_)
      · replace h := h.1 hc
        refine T_iconst dX0_canGrow_30 (by decide) ?_
        exact T_zret dX0_canGrow_31 rfl (by decide) (hQ _ h)
      · replace h := h.2 hc
        refine T_iconst dX0_canGrow_26 (by decide) ?_
        refine T_goto (tgt := 31) dX0_canGrow_27 (by decide) ?_
        exact T_zret dX0_canGrow_31 rfl (by decide) (hQ _ h)

theorem W_X0_addNode {G : GT} {d : Nat} (hd : 1 ≤ d) {g : Nat} {x1 : Int} (hg : isG g)  {v : VT} {q : VT → Prop} {Q : Option Vl → List Sh → VT → Prop} (h : P_X0_addNode g x1 v q) (hQ : ∀ w, q w → Q none SH w) : n_T G d 0 0 mX0_addNode 0 [vR g, vI x1] [] SH v Q := by
  unfold P_X0_addNode at h
  refine T_aload_n dX0_addNode_0 rfl ?_
  refine T_getI dX0_addNode_1 fX0_9 rfl (isG_o hg) ?_
  refine T_bipush dX0_addNode_4 (by decide) ?_
  refine U_icmp_ge (tgt := 29) dX0_addNode_6 (by decide) (fun hc => ?_) (fun hc => ?_)
  · replace h := h.1 hc
    exact T_vret dX0_addNode_29 rfl (hQ _ h)
  · replace h := h.2 hc
    refine T_aload_n dX0_addNode_9 rfl ?_
    refine T_getR (r := (g + 1)) dX0_addNode_10 fX0_18 rfl (isG_o hg) rfl ?_
    refine T_aload_n dX0_addNode_13 rfl ?_
    refine T_getI dX0_addNode_14 fX0_9 rfl (isG_o hg) ?_
    refine T_iload_n dX0_addNode_17 rfl ?_
    refine U_iast dX0_addNode_18 (isG_1 hg) h.1 (fun v18 ev18 => ?_)
    replace h := h.2 v18 ev18
    refine T_aload_n dX0_addNode_19 rfl ?_
    refine T_dup dX0_addNode_20 rfl ?_
    refine T_getI dX0_addNode_21 fX0_9 rfl (isG_o hg) ?_
    refine T_iconst dX0_addNode_24 (by decide) ?_
    refine U_iadd dX0_addNode_25 h.1 ?_
    replace h := h.2
    refine U_putI dX0_addNode_26 fX0_9 rfl rfl (isG_o hg) (fun v26 ev26 => ?_)
    replace h := h v26 ev26
    exact T_vret dX0_addNode_29 rfl (hQ _ h)

theorem W_X0_addLine {G : GT} {d : Nat} (hd : 7 ≤ d) {g : Nat} {x1 : Int} {x2 : Int} {x3 : Int} (hg : isG g)  {v : VT} {q : VT → Prop} {Q : Option Vl → List Sh → VT → Prop} (h : P_X0_addLine g x1 x2 x3 v q) (hQ : ∀ w, q w → Q none SH w) : n_T G d 0 0 mX0_addLine 0 [vR g, vI x1, vI x2, vI x3] [] SH v Q := by
  unfold P_X0_addLine at h
  refine T_aload_n dX0_addLine_0 rfl ?_
  refine T_getI dX0_addLine_1 fX0_15 rfl (isG_o hg) ?_
  refine T_bipush dX0_addLine_4 (by decide) ?_
  refine U_icmp_ge (tgt := 57) dX0_addLine_6 (by decide) (fun hc => ?_) (fun hc => ?_)
  · replace h := h.1 hc
    exact T_vret dX0_addLine_57 rfl (hQ _ h)
  · replace h := h.2 hc
    refine T_aload_n dX0_addLine_9 rfl ?_
    refine T_getR (r := (g + 2)) dX0_addLine_10 fX0_22 rfl (isG_o hg) rfl ?_
    refine T_aload_n dX0_addLine_13 rfl ?_
    refine T_getI dX0_addLine_14 fX0_15 rfl (isG_o hg) ?_
    refine T_iload_n dX0_addLine_17 rfl ?_
    refine T_iload_n dX0_addLine_18 rfl ?_
    refine U_min dX0_addLine_19 lX0_40 (by omega) (Nat.le_of_ble_eq_true rfl) ?_
    refine U_iast dX0_addLine_22 (isG_2 hg) h.1 (fun v22 ev22 => ?_)
    replace h := h.2 v22 ev22
    refine T_aload_n dX0_addLine_23 rfl ?_
    refine T_getR (r := (g + 3)) dX0_addLine_24 fX0_25 rfl (isG_o hg) rfl ?_
    refine T_aload_n dX0_addLine_27 rfl ?_
    refine T_getI dX0_addLine_28 fX0_15 rfl (isG_o hg) ?_
    refine T_iload_n dX0_addLine_31 rfl ?_
    refine T_iload_n dX0_addLine_32 rfl ?_
    refine U_max dX0_addLine_33 lX0_46 (by omega) (Nat.le_of_ble_eq_true rfl) ?_
    refine U_iast dX0_addLine_36 (isG_3 hg) h.1 (fun v36 ev36 => ?_)
    replace h := h.2 v36 ev36
    refine T_aload_n dX0_addLine_37 rfl ?_
    refine T_getR (r := (g + 4)) dX0_addLine_38 fX0_28 rfl (isG_o hg) rfl ?_
    refine T_aload_n dX0_addLine_41 rfl ?_
    refine T_getI dX0_addLine_42 fX0_15 rfl (isG_o hg) ?_
    refine T_iload_n dX0_addLine_45 rfl ?_
    refine U_iast dX0_addLine_46 (isG_4 hg) h.1 (fun v46 ev46 => ?_)
    replace h := h.2 v46 ev46
    refine T_aload_n dX0_addLine_47 rfl ?_
    refine T_dup dX0_addLine_48 rfl ?_
    refine T_getI dX0_addLine_49 fX0_15 rfl (isG_o hg) ?_
    refine T_iconst dX0_addLine_52 (by decide) ?_
    refine U_iadd dX0_addLine_53 h.1 ?_
    replace h := h.2
    refine U_putI dX0_addLine_54 fX0_15 rfl rfl (isG_o hg) (fun v54 ev54 => ?_)
    replace h := h v54 ev54
    exact T_vret dX0_addLine_57 rfl (hQ _ h)

theorem W_X0_addLeaf {G : GT} {d : Nat} (hd : 8 ≤ d) {g : Nat} {x1 : Int} (hg : isG g)  {v : VT} {q : VT → Prop} {Q : Option Vl → List Sh → VT → Prop} (h : P_X0_addLeaf g x1 v q) (hQ : ∀ w, q w → Q none SH w) : n_T G d 0 0 mX0_addLeaf 0 [vR g, vI x1] [] SH v Q := by
  unfold P_X0_addLeaf at h
  refine T_aload_n dX0_addLeaf_0 rfl ?_
  refine T_iconst dX0_addLeaf_1 (by decide) ?_
  refine U_callV (as := [vI 0]) (st := []) dX0_addLeaf_2 kX0_addNode lX0_56 (isG_o hg) rfl rfl rfl rfl (Nat.le_of_ble_eq_true rfl) (Nat.le_of_ble_eq_true rfl) (by omega) ?_
  refine W_X0_addNode (by omega) hg h (fun v2 h => ?_)
  show n_T G d 0 0 mX0_addLeaf 5 [vR g, vI x1] [] SH v2 Q
  refine T_aload_n dX0_addLeaf_5 rfl ?_
  refine T_iload_n dX0_addLeaf_6 rfl ?_
  refine T_aload_n dX0_addLeaf_7 rfl ?_
  refine T_getI dX0_addLeaf_8 fX0_9 rfl (isG_o hg) ?_
  refine T_iconst dX0_addLeaf_11 (by decide) ?_
  refine U_isub dX0_addLeaf_12 h.1 ?_
  replace h := h.2
  refine T_iconst dX0_addLeaf_13 (by decide) ?_
  refine U_callV (as := [vI x1, vI ((v2 g 0) - 1), vI 1]) (st := []) dX0_addLeaf_14 kX0_addLine lX0_60 (isG_o hg) rfl rfl rfl rfl (Nat.le_of_ble_eq_true rfl) (Nat.le_of_ble_eq_true rfl) (by omega) ?_
  refine W_X0_addLine (by omega) hg h (fun v14 h => ?_)
  show n_T G d 0 0 mX0_addLeaf 17 [vR g, vI x1] [] SH v14 Q
  exact T_vret dX0_addLeaf_17 rfl (hQ _ h)

theorem W_X0_removeLine {G : GT} {d : Nat} (hd : 8 ≤ d) {g : Nat} {x1 : Int} (hg : isG g)  {v : VT} {q : VT → Prop} {Q : Option Vl → List Sh → VT → Prop} (h : P_X0_removeLine g x1 v q) (hQ : ∀ w, q w → Q none SH w) : n_T G d 0 0 mX0_removeLine 0 [vR g, vI x1, vS 9, vS 9] [] SH v Q := by
  unfold P_X0_removeLine at h
  refine T_aload_n dX0_removeLine_0 rfl ?_
  refine T_getI dX0_removeLine_1 fX0_15 rfl (isG_o hg) ?_
  refine T_istore_n dX0_removeLine_4 (by decide) rfl ?_
  refine T_aload_n dX0_removeLine_5 rfl ?_
  refine T_iconst dX0_removeLine_6 (by decide) ?_
  refine U_putI dX0_removeLine_7 fX0_15 rfl rfl (isG_o hg) (fun v7 ev7 => ?_)
  replace h := h v7 ev7
  refine T_iconst dX0_removeLine_10 (by decide) ?_
  refine T_istore_n dX0_removeLine_11 (by decide) rfl ?_
  refine T_drop (h (fun (i3 : Int) (v12 : VT) => n_T G d 0 0 mX0_removeLine 12 [vR g, vI x1, vI (v g 1), vI i3] [] SH v12 Q) (fun i3 v12 h => ?_)) ⟨Or.inl rfl, Or.inl rfl, Or.inl rfl, Or.inl rfl, trivial⟩
  refine T_iload_n dX0_removeLine_12 rfl ?_
  refine T_iload_n dX0_removeLine_13 rfl ?_
  refine U_icmp_ge (tgt := 50) dX0_removeLine_14 (by decide) (fun hc => ?_) (fun hc => ?_)
  · replace h := h.1 hc
    exact T_vret dX0_removeLine_50 rfl (hQ _ h)
  · replace h := h.2 hc
    refine T_iload_n dX0_removeLine_17 rfl ?_
    refine T_iload_n dX0_removeLine_18 rfl ?_
    refine U_icmp_eq (tgt := 44) dX0_removeLine_19 (by decide) (fun hc => ?_) (fun hc => ?_)
    · replace h := h.1 hc
      refine U_iinc dX0_removeLine_44 rfl (by decide) rfl h.1 ?_
      replace h := h.2
      refine T_goto (tgt := 12) dX0_removeLine_47 (by decide) ?_
      exact T_drop h ⟨Or.inl rfl, Or.inl rfl, Or.inl rfl, Or.inl rfl, trivial⟩
    · replace h := h.2 hc
      refine T_aload_n dX0_removeLine_22 rfl ?_
      refine T_aload_n dX0_removeLine_23 rfl ?_
      refine T_getR (r := (g + 2)) dX0_removeLine_24 fX0_22 rfl (isG_o hg) rfl ?_
      refine T_iload_n dX0_removeLine_27 rfl ?_
      refine T_iald dX0_removeLine_28 (isG_2 hg) h.1 ?_
      replace h := h.2
      refine T_aload_n dX0_removeLine_29 rfl ?_
      refine T_getR (r := (g + 3)) dX0_removeLine_30 fX0_25 rfl (isG_o hg) rfl ?_
      refine T_iload_n dX0_removeLine_33 rfl ?_
      refine T_iald dX0_removeLine_34 (isG_3 hg) h.1 ?_
      replace h := h.2
      refine T_aload_n dX0_removeLine_35 rfl ?_
      refine T_getR (r := (g + 4)) dX0_removeLine_36 fX0_28 rfl (isG_o hg) rfl ?_
      refine T_iload_n dX0_removeLine_39 rfl ?_
      refine T_iald dX0_removeLine_40 (isG_4 hg) h.1 ?_
      replace h := h.2
      refine U_callV (as := [vI (v12 (g + 2) i3.toNat), vI (v12 (g + 3) i3.toNat), vI (v12 (g + 4) i3.toNat)]) (st := []) dX0_removeLine_41 kX0_addLine lX0_60 (isG_o hg) rfl rfl rfl rfl (Nat.le_of_ble_eq_true rfl) (Nat.le_of_ble_eq_true rfl) (by omega) ?_
      refine W_X0_addLine (by omega) hg h (fun v41 h => ?_)
      show n_T G d 0 0 mX0_removeLine 44 [vR g, vI x1, vI (v g 1), vI i3] [] SH v41 Q
      refine U_iinc dX0_removeLine_44 rfl (by decide) rfl h.1 ?_
      replace h := h.2
      refine T_goto (tgt := 12) dX0_removeLine_47 (by decide) ?_
      exact T_drop h ⟨Or.inl rfl, Or.inl rfl, Or.inl rfl, Or.inl rfl, trivial⟩

theorem W_X0_removeNode {G : GT} {d : Nat} (hd : 8 ≤ d) {g : Nat} {x1 : Int} (hg : isG g)  {v : VT} {q : VT → Prop} {Q : Option Vl → List Sh → VT → Prop} (h : P_X0_removeNode g x1 v q) (hQ : ∀ w, q w → Q none SH w) : n_T G d 0 0 mX0_removeNode 0 [vR g, vI x1, vS 9, vS 9, vS 9, vS 9] [] SH v Q := by
  unfold P_X0_removeNode at h
  refine T_aload_n dX0_removeNode_0 rfl ?_
  refine T_getI dX0_removeNode_1 fX0_15 rfl (isG_o hg) ?_
  refine T_istore_n dX0_removeNode_4 (by decide) rfl ?_
  refine T_aload_n dX0_removeNode_5 rfl ?_
  refine T_iconst dX0_removeNode_6 (by decide) ?_
  refine U_putI dX0_removeNode_7 fX0_15 rfl rfl (isG_o hg) (fun v7 ev7 => ?_)
  replace h := h v7 ev7
  refine T_iconst dX0_removeNode_10 (by decide) ?_
  refine T_istore_n dX0_removeNode_11 (by decide) rfl ?_
  refine n_cut (h (fun (v91 : VT) => n_T G d 0 0 mX0_removeNode 91 [vR g, vI x1, vS 9, vS 9, vS 9, vS 9] [] SH v91 Q)) ?_ ?_
  · intro v91 h
    refine T_aload_n dX0_removeNode_91 rfl ?_
    refine T_dup dX0_removeNode_92 rfl ?_
    refine T_getI dX0_removeNode_93 fX0_9 rfl (isG_o hg) ?_
    refine T_iconst dX0_removeNode_96 (by decide) ?_
    refine U_isub dX0_removeNode_97 h.1 ?_
    replace h := h.2
    refine U_putI dX0_removeNode_98 fX0_9 rfl rfl (isG_o hg) (fun v98 ev98 => ?_)
    replace h := h v98 ev98
    refine T_iload_n dX0_removeNode_101 rfl ?_
    refine T_istore_n dX0_removeNode_102 (by decide) rfl ?_
    refine T_drop (h (fun (i3 : Int) (v103 : VT) => n_T G d 0 0 mX0_removeNode 103 [vR g, vS 9, vS 9, vI i3, vS 9, vS 9] [] SH v103 Q) (fun i3 v103 h => ?_)) ⟨Or.inl rfl, Or.inr rfl, Or.inr rfl, Or.inl rfl, Or.inr rfl, Or.inr rfl, trivial⟩
    refine T_iload_n dX0_removeNode_103 rfl ?_
    refine T_aload_n dX0_removeNode_104 rfl ?_
    refine T_getI dX0_removeNode_105 fX0_9 rfl (isG_o hg) ?_
    refine U_icmp_ge (tgt := 131) dX0_removeNode_108 (by decide) (fun hc => ?_) (fun hc => ?_)
    · replace h := h.1 hc
      exact T_vret dX0_removeNode_131 rfl (hQ _ h)
    · replace h := h.2 hc
      refine T_aload_n dX0_removeNode_111 rfl ?_
      refine T_getR (r := (g + 1)) dX0_removeNode_112 fX0_18 rfl (isG_o hg) rfl ?_
      refine T_iload_n dX0_removeNode_115 rfl ?_
      refine T_aload_n dX0_removeNode_116 rfl ?_
      refine T_getR (r := (g + 1)) dX0_removeNode_117 fX0_18 rfl (isG_o hg) rfl ?_
      refine T_iload_n dX0_removeNode_120 rfl ?_
      refine T_iconst dX0_removeNode_121 (by decide) ?_
      refine U_iadd dX0_removeNode_122 h.1 ?_
      replace h := h.2
      refine T_iald dX0_removeNode_123 (isG_1 hg) h.1 ?_
      replace h := h.2
      refine U_iast dX0_removeNode_124 (isG_1 hg) h.1 (fun v124 ev124 => ?_)
      replace h := h.2 v124 ev124
      refine U_iinc dX0_removeNode_125 rfl (by decide) rfl h.1 ?_
      replace h := h.2
      refine T_goto (tgt := 103) dX0_removeNode_128 (by decide) ?_
      exact T_drop h ⟨Or.inl rfl, Or.inr rfl, Or.inr rfl, Or.inl rfl, Or.inr rfl, Or.inr rfl, trivial⟩
  · intro h
    refine T_drop (h (fun (i3_1 : Int) (v12 : VT) => n_T G d 0 0 mX0_removeNode 12 [vR g, vI x1, vI (v g 1), vI i3_1, vS 9, vS 9] [] SH v12 Q) (fun i3_1 v12 h => ?_)) ⟨Or.inl rfl, Or.inl rfl, Or.inl rfl, Or.inl rfl, Or.inr rfl, Or.inr rfl, trivial⟩
    refine T_iload_n dX0_removeNode_12 rfl ?_
    refine T_iload_n dX0_removeNode_13 rfl ?_
    refine U_icmp_ge (tgt := 91) dX0_removeNode_14 (by decide) (fun hc => ?_) (fun hc => ?_)
    · replace h := h.1 hc
      exact T_drop h ⟨Or.inl rfl, Or.inl rfl, Or.inr rfl, Or.inr rfl, Or.inr rfl, Or.inr rfl, trivial⟩
    · replace h := h.2 hc
      refine T_aload_n dX0_removeNode_17 rfl ?_
      refine T_getR (r := (g + 2)) dX0_removeNode_18 fX0_22 rfl (isG_o hg) rfl ?_
      refine T_iload_n dX0_removeNode_21 rfl ?_
      refine T_iald dX0_removeNode_22 (isG_2 hg) h.1 ?_
      replace h := h.2
      refine U_istore dX0_removeNode_23 (by decide) rfl (fun l4 el4 => ?_)
      replace h := h l4 el4
      refine T_aload_n dX0_removeNode_25 rfl ?_
      refine T_getR (r := (g + 3)) dX0_removeNode_26 fX0_25 rfl (isG_o hg) rfl ?_
      refine T_iload_n dX0_removeNode_29 rfl ?_
      refine T_iald dX0_removeNode_30 (isG_3 hg) h.1 ?_
      replace h := h.2
      refine U_istore dX0_removeNode_31 (by decide) rfl (fun l5 el5 => ?_)
      replace h := h l5 el5
      refine T_iload dX0_removeNode_33 rfl ?_
      refine T_iload_n dX0_removeNode_35 rfl ?_
      refine U_icmp_eq (tgt := 85) dX0_removeNode_36 (by decide) (fun hc => ?_) (fun hc => ?_)
      · replace h := h.1 hc
        refine U_iinc dX0_removeNode_85 rfl (by decide) rfl h.1 ?_
        replace h := h.2
        refine T_goto (tgt := 12) dX0_removeNode_88 (by decide) ?_
        exact T_drop h ⟨Or.inl rfl, Or.inl rfl, Or.inl rfl, Or.inl rfl, Or.inr rfl, Or.inr rfl, trivial⟩
      · replace h := h.2 hc
        refine T_iload dX0_removeNode_39 rfl ?_
        refine T_iload_n dX0_removeNode_41 rfl ?_
        refine U_icmp_eq (tgt := 85) dX0_removeNode_42 (by decide) (fun hc => ?_) (fun hc => ?_)
        · replace h := h.1 hc
          refine U_iinc dX0_removeNode_85 rfl (by decide) rfl h.1 ?_
          replace h := h.2
          refine T_goto (tgt := 12) dX0_removeNode_88 (by decide) ?_
          exact T_drop h ⟨Or.inl rfl, Or.inl rfl, Or.inl rfl, Or.inl rfl, Or.inr rfl, Or.inr rfl, trivial⟩
        · replace h := h.2 hc
          refine T_aload_n dX0_removeNode_45 rfl ?_
          refine T_iload dX0_removeNode_46 rfl ?_
          refine T_iload_n dX0_removeNode_48 rfl ?_
          refine n_cut (h (fun (s0 : Int) => n_T G d 0 0 mX0_removeNode 61 [vR g, vI x1, vI (v g 1), vI i3_1, vS 9, vI l5] [vI s0, vR g] SH v12 Q)) ?_ ?_
          · intro s0 h
            refine T_iload dX0_removeNode_61 rfl ?_
            refine T_iload_n dX0_removeNode_63 rfl ?_
            refine U_icmp_le (tgt := 74) dX0_removeNode_64 (by decide) (fun hc => ?_) (fun hc => ?_)
            · replace h := h.1 hc
              refine T_iload dX0_removeNode_74 rfl ?_
              refine T_aload_n dX0_removeNode_76 rfl ?_
              refine T_getR (r := (g + 4)) dX0_removeNode_77 fX0_28 rfl (isG_o hg) rfl ?_
              refine T_iload_n dX0_removeNode_80 rfl ?_
              refine T_iald dX0_removeNode_81 (isG_4 hg) h.1 ?_
              replace h := h.2
              refine U_callV (as := [vI s0, vI l5, vI (v12 (g + 4) i3_1.toNat)]) (st := []) dX0_removeNode_82 kX0_addLine lX0_60 (isG_o hg) rfl rfl rfl rfl (Nat.le_of_ble_eq_true rfl) (Nat.le_of_ble_eq_true rfl) (by omega) ?_
              refine W_X0_addLine (by omega) hg h (fun v82 h => ?_)
              show n_T G d 0 0 mX0_removeNode 85 [vR g, vI x1, vI (v g 1), vI i3_1, vS 9, vI l5] [] SH v82 Q
              refine U_iinc dX0_removeNode_85 rfl (by decide) rfl h.1 ?_
              replace h := h.2
              refine T_goto (tgt := 12) dX0_removeNode_88 (by decide) ?_
              exact T_drop h ⟨Or.inl rfl, Or.inl rfl, Or.inl rfl, Or.inl rfl, Or.inr rfl, Or.inr rfl, trivial⟩
            · replace h := h.2 hc
              refine T_iload dX0_removeNode_67 rfl ?_
              refine T_iconst dX0_removeNode_69 (by decide) ?_
              refine U_isub dX0_removeNode_70 h.1 ?_
              replace h := h.2
              refine T_goto (tgt := 76) dX0_removeNode_71 (by decide) ?_
              refine T_aload_n dX0_removeNode_76 rfl ?_
              refine T_getR (r := (g + 4)) dX0_removeNode_77 fX0_28 rfl (isG_o hg) rfl ?_
              refine T_iload_n dX0_removeNode_80 rfl ?_
              refine T_iald dX0_removeNode_81 (isG_4 hg) h.1 ?_
              replace h := h.2
              refine U_callV (as := [vI s0, vI (l5 - 1), vI (v12 (g + 4) i3_1.toNat)]) (st := []) dX0_removeNode_82 kX0_addLine lX0_60 (isG_o hg) rfl rfl rfl rfl (Nat.le_of_ble_eq_true rfl) (Nat.le_of_ble_eq_true rfl) (by omega) ?_
              refine W_X0_addLine (by omega) hg h (fun v82_1 h => ?_)
              show n_T G d 0 0 mX0_removeNode 85 [vR g, vI x1, vI (v g 1), vI i3_1, vS 9, vI l5] [] SH v82_1 Q
              refine U_iinc dX0_removeNode_85 rfl (by decide) rfl h.1 ?_
              replace h := h.2
              refine T_goto (tgt := 12) dX0_removeNode_88 (by decide) ?_
              exact T_drop h ⟨Or.inl rfl, Or.inl rfl, Or.inl rfl, Or.inl rfl, Or.inr rfl, Or.inr rfl, trivial⟩
          · intro h
            refine U_icmp_le (tgt := 59) dX0_removeNode_49 (by decide) (fun hc => ?_) (fun hc => ?_)
            · replace h := h.1 hc
              refine T_iload dX0_removeNode_59 rfl ?_
              exact T_drop h ⟨Or.inl rfl, Or.inl rfl, Or.inl rfl, Or.inl rfl, Or.inr rfl, Or.inl rfl, trivial⟩
            · replace h := h.2 hc
              refine T_iload dX0_removeNode_52 rfl ?_
              refine T_iconst dX0_removeNode_54 (by decide) ?_
              refine U_isub dX0_removeNode_55 h.1 ?_
              replace h := h.2
              refine T_goto (tgt := 61) dX0_removeNode_56 (by decide) ?_
              exact T_drop h ⟨Or.inl rfl, Or.inl rfl, Or.inl rfl, Or.inl rfl, Or.inr rfl, Or.inl rfl, trivial⟩

theorem W_X0_merge {G : GT} {d : Nat} (hd : 8 ≤ d) {g : Nat} (hg : isG g)  {v : VT} {q : VT → Prop} {Q : Option Vl → List Sh → VT → Prop} (h : P_X0_merge g v q) (hQ : ∀ w, q w → Q none SH w) : n_T G d 0 0 mX0_merge 0 [vR g, vR 195, vS 9, vS 9, vS 9, vS 9, vS 9] [] SH v Q := by
  unfold P_X0_merge at h
  refine T_iconst dX0_merge_0 (by decide) ?_
  refine T_istore_n dX0_merge_1 (by decide) rfl ?_
  refine T_iconst dX0_merge_2 (by decide) ?_
  refine T_istore_n dX0_merge_3 (by decide) rfl ?_
  refine n_cut (h (fun (i2 : Int) (v47 : VT) => n_T G d 0 0 mX0_merge 47 [vR g, vR 195, vI i2, vS 9, vS 9, vS 9, vS 9] [] SH v47 Q)) ?_ ?_
  · intro i2 v47 h
    refine T_aload_n dX0_merge_47 rfl ?_
    refine T_iload_n dX0_merge_48 rfl ?_
    refine U_putI dX0_merge_49 fX0_9 rfl rfl (isG_o hg) (fun v49 ev49 => ?_)
    replace h := h v49 ev49
    refine T_aload_n dX0_merge_52 rfl ?_
    refine T_getI dX0_merge_53 fX0_15 rfl (isG_o hg) ?_
    refine T_istore_n dX0_merge_56 (by decide) rfl ?_
    refine T_aload_n dX0_merge_57 rfl ?_
    refine T_iconst dX0_merge_58 (by decide) ?_
    refine U_putI dX0_merge_59 fX0_15 rfl rfl (isG_o hg) (fun v59 ev59 => ?_)
    replace h := h v59 ev59
    refine T_iconst dX0_merge_62 (by decide) ?_
    refine T_istore dX0_merge_63 (by decide) rfl ?_
    refine T_drop (h (fun (i4 : Int) (v65 : VT) => n_T G d 0 0 mX0_merge 65 [vR g, vR 195, vS 9, vI (v49 g 1), vI i4, vS 9, vS 9] [] SH v65 Q) (fun i4 v65 h => ?_)) ⟨Or.inl rfl, Or.inl rfl, Or.inr rfl, Or.inl rfl, Or.inl rfl, Or.inr rfl, Or.inr rfl, trivial⟩
    refine T_iload dX0_merge_65 rfl ?_
    refine T_iload_n dX0_merge_67 rfl ?_
    refine U_icmp_ge (tgt := 143) dX0_merge_68 (by decide) (fun hc => ?_) (fun hc => ?_)
    · replace h := h.1 hc
      exact T_vret dX0_merge_143 rfl (hQ _ h)
    · replace h := h.2 hc
      refine T_aload_n dX0_merge_71 rfl ?_
      refine T_getR (r := (g + 5)) dX0_merge_72 fX0_31 rfl (isG_o hg) rfl ?_
      refine T_aload_n dX0_merge_75 rfl ?_
      refine T_aload_n dX0_merge_76 rfl ?_
      refine T_getR (r := (g + 2)) dX0_merge_77 fX0_22 rfl (isG_o hg) rfl ?_
      refine T_iload dX0_merge_80 rfl ?_
      refine T_iald dX0_merge_82 (isG_2 hg) h.1 ?_
      replace h := h.2
      refine T_iald dX0_merge_83 SH_195 h.1 ?_
      replace h := h.2
      refine T_iald dX0_merge_84 (isG_5 hg) h.1 ?_
      replace h := h.2
      refine U_istore dX0_merge_85 (by decide) rfl (fun l5 el5 => ?_)
      replace h := h l5 el5
      refine T_aload_n dX0_merge_87 rfl ?_
      refine T_getR (r := (g + 5)) dX0_merge_88 fX0_31 rfl (isG_o hg) rfl ?_
      refine T_aload_n dX0_merge_91 rfl ?_
      refine T_aload_n dX0_merge_92 rfl ?_
      refine T_getR (r := (g + 3)) dX0_merge_93 fX0_25 rfl (isG_o hg) rfl ?_
      refine T_iload dX0_merge_96 rfl ?_
      refine T_iald dX0_merge_98 (isG_3 hg) h.1 ?_
      replace h := h.2
      refine T_iald dX0_merge_99 SH_195 h.1 ?_
      replace h := h.2
      refine T_iald dX0_merge_100 (isG_5 hg) h.1 ?_
      replace h := h.2
      refine U_istore dX0_merge_101 (by decide) rfl (fun l6 el6 => ?_)
      replace h := h l6 el6
      refine T_iload dX0_merge_103 rfl ?_
      refine T_iload dX0_merge_105 rfl ?_
      refine U_icmp_eq (tgt := 137) dX0_merge_107 (by decide) (fun hc => ?_) (fun hc => ?_)
      · replace h := h.1 hc
        refine U_iinc dX0_merge_137 rfl (by decide) rfl h.1 ?_
        replace h := h.2
        refine T_goto (tgt := 65) dX0_merge_140 (by decide) ?_
        exact T_drop h ⟨Or.inl rfl, Or.inl rfl, Or.inr rfl, Or.inl rfl, Or.inl rfl, Or.inr rfl, Or.inr rfl, trivial⟩
      · replace h := h.2 hc
        refine T_aload_n dX0_merge_110 rfl ?_
        refine T_iload dX0_merge_111 rfl ?_
        refine T_iload dX0_merge_113 rfl ?_
        refine U_callV (as := [vI l5, vI l6]) (st := []) dX0_merge_115 kX0_findLine lX0_53 (isG_o hg) rfl rfl rfl rfl (Nat.le_of_ble_eq_true rfl) (Nat.le_of_ble_eq_true rfl) (by omega) ?_
        refine W_X0_findLine (by omega) hg h (fun r115 h => ?_)
        show n_T G d 0 0 mX0_merge 118 [vR g, vR 195, vS 9, vI (v49 g 1), vI i4, vI l5, vI l6] [vI r115] SH v65 Q
        refine T_iconst dX0_merge_118 (by decide) ?_
        refine U_icmp_ne (tgt := 137) dX0_merge_119 (by decide) (fun hc => ?_) (fun hc => ?_)
        · replace h := h.1 hc
          refine U_iinc dX0_merge_137 rfl (by decide) rfl h.1 ?_
          replace h := h.2
          refine T_goto (tgt := 65) dX0_merge_140 (by decide) ?_
          exact T_drop h ⟨Or.inl rfl, Or.inl rfl, Or.inr rfl, Or.inl rfl, Or.inl rfl, Or.inr rfl, Or.inr rfl, trivial⟩
        · replace h := h.2 hc
          refine T_aload_n dX0_merge_122 rfl ?_
          refine T_iload dX0_merge_123 rfl ?_
          refine T_iload dX0_merge_125 rfl ?_
          refine T_aload_n dX0_merge_127 rfl ?_
          refine T_getR (r := (g + 4)) dX0_merge_128 fX0_28 rfl (isG_o hg) rfl ?_
          refine T_iload dX0_merge_131 rfl ?_
          refine T_iald dX0_merge_133 (isG_4 hg) h.1 ?_
          replace h := h.2
          refine U_callV (as := [vI l5, vI l6, vI (v65 (g + 4) i4.toNat)]) (st := []) dX0_merge_134 kX0_addLine lX0_60 (isG_o hg) rfl rfl rfl rfl (Nat.le_of_ble_eq_true rfl) (Nat.le_of_ble_eq_true rfl) (by omega) ?_
          refine W_X0_addLine (by omega) hg h (fun v134 h => ?_)
          show n_T G d 0 0 mX0_merge 137 [vR g, vR 195, vS 9, vI (v49 g 1), vI i4, vI l5, vI l6] [] SH v134 Q
          refine U_iinc dX0_merge_137 rfl (by decide) rfl h.1 ?_
          replace h := h.2
          refine T_goto (tgt := 65) dX0_merge_140 (by decide) ?_
          exact T_drop h ⟨Or.inl rfl, Or.inl rfl, Or.inr rfl, Or.inl rfl, Or.inl rfl, Or.inr rfl, Or.inr rfl, trivial⟩
  · intro h
    refine T_drop (h (fun (i2_1 : Int) (i3 : Int) (v4 : VT) => n_T G d 0 0 mX0_merge 4 [vR g, vR 195, vI i2_1, vI i3, vS 9, vS 9, vS 9] [] SH v4 Q) (fun i2_1 i3 v4 h => ?_)) ⟨Or.inl rfl, Or.inl rfl, Or.inl rfl, Or.inl rfl, Or.inr rfl, Or.inr rfl, Or.inr rfl, trivial⟩
    refine T_iload_n dX0_merge_4 rfl ?_
    refine T_aload_n dX0_merge_5 rfl ?_
    refine T_getI dX0_merge_6 fX0_9 rfl (isG_o hg) ?_
    refine U_icmp_ge (tgt := 47) dX0_merge_9 (by decide) (fun hc => ?_) (fun hc => ?_)
    · replace h := h.1 hc
      exact T_drop h ⟨Or.inl rfl, Or.inl rfl, Or.inl rfl, Or.inr rfl, Or.inr rfl, Or.inr rfl, Or.inr rfl, trivial⟩
    · replace h := h.2 hc
      refine T_aload_n dX0_merge_12 rfl ?_
      refine T_iload_n dX0_merge_13 rfl ?_
      refine T_iald dX0_merge_14 SH_195 h.1 ?_
      replace h := h.2
      refine T_iload_n dX0_merge_15 rfl ?_
      refine U_icmp_ne (tgt := 41) dX0_merge_16 (by decide) (fun hc => ?_) (fun hc => ?_)
      · replace h := h.1 hc
        refine U_iinc dX0_merge_41 rfl (by decide) rfl h.1 ?_
        replace h := h.2
        refine T_goto (tgt := 4) dX0_merge_44 (by decide) ?_
        exact T_drop h ⟨Or.inl rfl, Or.inl rfl, Or.inl rfl, Or.inl rfl, Or.inr rfl, Or.inr rfl, Or.inr rfl, trivial⟩
      · replace h := h.2 hc
        refine T_aload_n dX0_merge_19 rfl ?_
        refine T_getR (r := (g + 5)) dX0_merge_20 fX0_31 rfl (isG_o hg) rfl ?_
        refine T_iload_n dX0_merge_23 rfl ?_
        refine T_iload_n dX0_merge_24 rfl ?_
        refine U_iast dX0_merge_25 (isG_5 hg) h.1 (fun v25 ev25 => ?_)
        replace h := h.2 v25 ev25
        refine T_aload_n dX0_merge_26 rfl ?_
        refine T_getR (r := (g + 1)) dX0_merge_27 fX0_18 rfl (isG_o hg) rfl ?_
        refine T_iload_n dX0_merge_30 rfl ?_
        refine T_aload_n dX0_merge_31 rfl ?_
        refine T_getR (r := (g + 1)) dX0_merge_32 fX0_18 rfl (isG_o hg) rfl ?_
        refine T_iload_n dX0_merge_35 rfl ?_
        refine T_iald dX0_merge_36 (isG_1 hg) h.1 ?_
        replace h := h.2
        refine U_iast dX0_merge_37 (isG_1 hg) h.1 (fun v37 ev37 => ?_)
        replace h := h.2 v37 ev37
        refine U_iinc dX0_merge_38 rfl (by decide) rfl h.1 ?_
        replace h := h.2
        refine U_iinc dX0_merge_41 rfl (by decide) rfl h.1 ?_
        replace h := h.2
        refine T_goto (tgt := 4) dX0_merge_44 (by decide) ?_
        exact T_drop h ⟨Or.inl rfl, Or.inl rfl, Or.inl rfl, Or.inl rfl, Or.inr rfl, Or.inr rfl, Or.inr rfl, trivial⟩

theorem W_X10_allBits {G : GT} {d : Nat} (hd : 1 ≤ d) {x0 : Int}   {v : VT} {q : Int → Prop} {Q : Option Vl → List Sh → VT → Prop} (h : P_X10_allBits x0 v q) (hQ : ∀ r, q r → Q (some (vI r)) SH v) : n_T G d 0 0 mX10_allBits 0 [vI x0] [] SH v Q := by
  unfold P_X10_allBits at h
  refine T_iconst dX10_allBits_0 (by decide) ?_
  refine T_iload_n dX10_allBits_1 rfl ?_
  refine T_ishl dX10_allBits_2 ?_
  refine T_iconst dX10_allBits_3 (by decide) ?_
  refine U_isub dX10_allBits_4 h.1 ?_
  replace h := h.2
  exact T_iret dX10_allBits_5 rfl (hQ _ h)

theorem W_J6_bitCount_0f7a4 {G : GT} {d : Nat} (hd : 1 ≤ d) {x0 : Int}   {v : VT} {q : Int → Prop} {Q : Option Vl → List Sh → VT → Prop} (h : P_J6_bitCount_0f7a4 x0 v q) (hQ : ∀ r, q r → Q (some (vI r)) SH v) : n_T G d 0 0 mJ6_bitCount_0f7a4 0 [vI x0] [] SH v Q := by
  unfold P_J6_bitCount_0f7a4 at h
  refine T_iload_n dJ6_bitCount_0f7a4_0 rfl ?_
  refine T_iload_n dJ6_bitCount_0f7a4_1 rfl ?_
  refine T_iconst dJ6_bitCount_0f7a4_2 (by decide) ?_
  refine T_iushr dJ6_bitCount_0f7a4_3 ?_
  refine T_ldcw (n := 1431655765) dJ6_bitCount_0f7a4_4 cJ6_265 (by unfold r32; omega) ?_
  refine T_iand dJ6_bitCount_0f7a4_7 ?_
  refine U_isub dJ6_bitCount_0f7a4_8 h.1 ?_
  replace h := h.2
  refine U_istore_n dJ6_bitCount_0f7a4_9 (by decide) rfl (fun l0 el0 => ?_)
  replace h := h l0 el0
  refine T_iload_n dJ6_bitCount_0f7a4_10 rfl ?_
  refine T_ldcw (n := 858993459) dJ6_bitCount_0f7a4_11 cJ6_266 (by unfold r32; omega) ?_
  refine T_iand dJ6_bitCount_0f7a4_14 ?_
  refine T_iload_n dJ6_bitCount_0f7a4_15 rfl ?_
  refine T_iconst dJ6_bitCount_0f7a4_16 (by decide) ?_
  refine T_iushr dJ6_bitCount_0f7a4_17 ?_
  refine T_ldcw (n := 858993459) dJ6_bitCount_0f7a4_18 cJ6_266 (by unfold r32; omega) ?_
  refine T_iand dJ6_bitCount_0f7a4_21 ?_
  refine U_iadd dJ6_bitCount_0f7a4_22 h.1 ?_
  replace h := h.2
  refine U_istore_n dJ6_bitCount_0f7a4_23 (by decide) rfl (fun l0_1 el0_1 => ?_)
  replace h := h l0_1 el0_1
  refine T_iload_n dJ6_bitCount_0f7a4_24 rfl ?_
  refine T_iload_n dJ6_bitCount_0f7a4_25 rfl ?_
  refine T_iconst dJ6_bitCount_0f7a4_26 (by decide) ?_
  refine T_iushr dJ6_bitCount_0f7a4_27 ?_
  refine U_iadd dJ6_bitCount_0f7a4_28 h.1 ?_
  replace h := h.2
  refine T_ldcw (n := 252645135) dJ6_bitCount_0f7a4_29 cJ6_267 (by unfold r32; omega) ?_
  refine T_iand dJ6_bitCount_0f7a4_32 ?_
  refine U_istore_n dJ6_bitCount_0f7a4_33 (by decide) rfl (fun l0_2 el0_2 => ?_)
  replace h := h l0_2 el0_2
  refine T_iload_n dJ6_bitCount_0f7a4_34 rfl ?_
  refine T_iload_n dJ6_bitCount_0f7a4_35 rfl ?_
  refine T_bipush dJ6_bitCount_0f7a4_36 (by decide) ?_
  refine T_iushr dJ6_bitCount_0f7a4_38 ?_
  refine U_iadd dJ6_bitCount_0f7a4_39 h.1 ?_
  replace h := h.2
  refine U_istore_n dJ6_bitCount_0f7a4_40 (by decide) rfl (fun l0_3 el0_3 => ?_)
  replace h := h l0_3 el0_3
  refine T_iload_n dJ6_bitCount_0f7a4_41 rfl ?_
  refine T_iload_n dJ6_bitCount_0f7a4_42 rfl ?_
  refine T_bipush dJ6_bitCount_0f7a4_43 (by decide) ?_
  refine T_iushr dJ6_bitCount_0f7a4_45 ?_
  refine U_iadd dJ6_bitCount_0f7a4_46 h.1 ?_
  replace h := h.2
  refine U_istore_n dJ6_bitCount_0f7a4_47 (by decide) rfl (fun l0_4 el0_4 => ?_)
  replace h := h l0_4 el0_4
  refine T_iload_n dJ6_bitCount_0f7a4_48 rfl ?_
  refine T_bipush dJ6_bitCount_0f7a4_49 (by decide) ?_
  refine T_iand dJ6_bitCount_0f7a4_51 ?_
  exact T_iret dJ6_bitCount_0f7a4_52 rfl (hQ _ h)

theorem W_X0_canOpen {G : GT} {d : Nat} (hd : 2 ≤ d) {g : Nat} {x1 : Int} {x2 : Int} (hg : isG g)  {v : VT} {q : Int → Prop} {Q : Option Vl → List Sh → VT → Prop} (h : P_X0_canOpen g x1 x2 v q) (hQ : ∀ r, q r → Q (some (vI r)) SH v) : n_T G d 0 0 mX0_canOpen 0 [vR g, vI x1, vI x2, vS 9, vS 9, vS 9, vS 9, vS 9] [] SH v Q := by
  unfold P_X0_canOpen at h
  refine T_iload_n dX0_canOpen_0 rfl ?_
  refine T_iload_n dX0_canOpen_1 rfl ?_
  refine T_iand dX0_canOpen_2 ?_
  refine T_istore_n dX0_canOpen_3 (by decide) rfl ?_
  refine T_iload_n dX0_canOpen_4 rfl ?_
  refine T_iload_n dX0_canOpen_5 rfl ?_
  refine T_ior dX0_canOpen_6 ?_
  refine T_aload_n dX0_canOpen_7 rfl ?_
  refine T_getI dX0_canOpen_8 fX0_9 rfl (isG_o hg) ?_
  refine U_callSN (as := [vI (v g 0)]) (st := [vI (i_or x1 x2)]) dX0_canOpen_11 kX10_allBits lX0_64 rfl rfl (Nat.le_of_ble_eq_true rfl) (Nat.le_of_ble_eq_true rfl) (by omega) ?_
  refine W_X10_allBits (by omega)  h (fun r11 h => ?_)
  show n_T G d 0 0 mX0_canOpen 14 [vR g, vI x1, vI x2, vI (i_and x1 x2), vS 9, vS 9, vS 9, vS 9] [vI r11, vI (i_or x1 x2)] SH v Q
  refine U_icmp_ne (tgt := 21) dX0_canOpen_14 (by decide) (fun hc => ?_) (fun hc => ?_)
  · replace h := h.1 hc
    refine T_iconst dX0_canOpen_21 (by decide) ?_
    exact T_zret dX0_canOpen_22 rfl (by decide) (hQ _ h)
  · replace h := h.2 hc
    refine T_iload_n dX0_canOpen_17 rfl ?_
    refine U_if_ne (tgt := 23) dX0_canOpen_18 (by decide) (fun hc => ?_) (fun hc => ?_)
    · replace h := h.1 hc
      refine T_iload_n dX0_canOpen_23 rfl ?_
      refine U_callS (as := [vI (i_and x1 x2)]) (st := []) dX0_canOpen_24 kJ6_bitCount_0f7a4 lX0_68 rfl rfl (Nat.le_of_ble_eq_true rfl) (Nat.le_of_ble_eq_true rfl) (by omega) ?_
      refine W_J6_bitCount_0f7a4 (by omega)  h (fun r24 h => ?_)
      show n_T G d 0 0 mX0_canOpen 27 [vR g, vI x1, vI x2, vI (i_and x1 x2), vS 9, vS 9, vS 9, vS 9] [vI r24] SH v Q
      refine T_istore dX0_canOpen_27 (by decide) rfl ?_
      refine T_iload dX0_canOpen_29 rfl ?_
      refine T_istore dX0_canOpen_31 (by decide) rfl ?_
      refine T_iconst dX0_canOpen_33 (by decide) ?_
      refine T_istore dX0_canOpen_34 (by decide) rfl ?_
      refine n_cut (h (fun (i5 : Int) => n_T G d 0 0 mX0_canOpen 104 [vR g, vS 9, vS 9, vS 9, vI r24, vI i5, vS 9, vS 9] [] SH v Q)) ?_ ?_
      · intro i5 h
        refine T_aload_n dX0_canOpen_104 rfl ?_
        refine T_getI dX0_canOpen_105 fX0_9 rfl (isG_o hg) ?_
        refine T_iload dX0_canOpen_108 rfl ?_
        refine U_iadd dX0_canOpen_110 h.1 ?_
        replace h := h.2
        refine T_bipush dX0_canOpen_111 (by decide) ?_
        refine U_icmp_gt (tgt := 132) dX0_canOpen_113 (by decide) (fun hc => ?_) (fun hc => ?_)
        · replace h := h.1 hc
          refine T_iconst dX0_canOpen_132 (by decide) ?_
          exact T_zret dX0_canOpen_133 rfl (by decide) (hQ _ h)
        · replace h := h.2 hc
          refine T_aload_n dX0_canOpen_116 rfl ?_
          refine T_getI dX0_canOpen_117 fX0_15 rfl (isG_o hg) ?_
          refine T_iload dX0_canOpen_120 rfl ?_
          refine U_iadd dX0_canOpen_122 h.1 ?_
          replace h := h.2
          refine T_bipush dX0_canOpen_123 (by decide) ?_
          refine U_icmp_gt (tgt := 132) dX0_canOpen_125 (by decide) (fun hc => ?_) (fun hc => ?_)
          · replace h := h.1 hc
            refine T_iconst dX0_canOpen_132 (by decide) ?_
            exact T_zret dX0_canOpen_133 rfl (by decide) (hQ _ h)
          · replace h := h.2 hc
            refine T_iconst dX0_canOpen_128 (by decide) ?_
            refine T_goto (tgt := 133) dX0_canOpen_129 (by decide) ?_
            exact T_zret dX0_canOpen_133 rfl (by decide) (hQ _ h)
      · intro h
        refine T_drop (h (fun (i5_1 : Int) (i6 : Int) => n_T G d 0 0 mX0_canOpen 36 [vR g, vI x1, vI x2, vI (i_and x1 x2), vI r24, vI i5_1, vI i6, vS 9] [] SH v Q) (fun i5_1 i6 h => ?_)) ⟨Or.inl rfl, Or.inl rfl, Or.inl rfl, Or.inl rfl, Or.inl rfl, Or.inl rfl, Or.inl rfl, Or.inr rfl, trivial⟩
        refine T_iload dX0_canOpen_36 rfl ?_
        refine T_aload_n dX0_canOpen_38 rfl ?_
        refine T_getI dX0_canOpen_39 fX0_15 rfl (isG_o hg) ?_
        refine U_icmp_ge (tgt := 104) dX0_canOpen_42 (by decide) (fun hc => ?_) (fun hc => ?_)
        · replace h := h.1 hc
          exact T_drop h ⟨Or.inl rfl, Or.inr rfl, Or.inr rfl, Or.inr rfl, Or.inl rfl, Or.inl rfl, Or.inr rfl, Or.inr rfl, trivial⟩
        · replace h := h.2 hc
          refine T_iconst dX0_canOpen_45 (by decide) ?_
          refine T_aload_n dX0_canOpen_46 rfl ?_
          refine T_getR (r := (g + 2)) dX0_canOpen_47 fX0_22 rfl (isG_o hg) rfl ?_
          refine T_iload dX0_canOpen_50 rfl ?_
          refine T_iald dX0_canOpen_52 (isG_2 hg) h.1 ?_
          replace h := h.2
          refine T_ishl dX0_canOpen_53 ?_
          refine T_iconst dX0_canOpen_54 (by decide) ?_
          refine T_aload_n dX0_canOpen_55 rfl ?_
          refine T_getR (r := (g + 3)) dX0_canOpen_56 fX0_25 rfl (isG_o hg) rfl ?_
          refine T_iload dX0_canOpen_59 rfl ?_
          refine T_iald dX0_canOpen_61 (isG_3 hg) h.1 ?_
          replace h := h.2
          refine T_ishl dX0_canOpen_62 ?_
          refine T_ior dX0_canOpen_63 ?_
          refine U_istore dX0_canOpen_64 (by decide) rfl (fun l7 el7 => ?_)
          replace h := h l7 el7
          refine T_iload dX0_canOpen_66 rfl ?_
          refine T_iload_n dX0_canOpen_68 rfl ?_
          refine T_iand dX0_canOpen_69 ?_
          refine T_iload dX0_canOpen_70 rfl ?_
          refine U_icmp_eq (tgt := 86) dX0_canOpen_72 (by decide) (fun hc => ?_) (fun hc => ?_)
          · replace h := h.1 hc
            refine T_iload dX0_canOpen_86 rfl ?_
            refine T_iload_n dX0_canOpen_88 rfl ?_
            refine T_iand dX0_canOpen_89 ?_
            refine T_iload dX0_canOpen_90 rfl ?_
            refine U_icmp_ne (tgt := 98) dX0_canOpen_92 (by decide) (fun hc => ?_) (fun hc => ?_)
            · replace h := h.1 hc
              refine U_iinc dX0_canOpen_98 rfl (by decide) rfl h.1 ?_
              replace h := h.2
              refine T_goto (tgt := 36) dX0_canOpen_101 (by decide) ?_
              exact T_drop h ⟨Or.inl rfl, Or.inl rfl, Or.inl rfl, Or.inl rfl, Or.inl rfl, Or.inl rfl, Or.inl rfl, Or.inr rfl, trivial⟩
            · replace h := h.2 hc
              refine U_iinc dX0_canOpen_95 rfl (by decide) rfl h.1 ?_
              replace h := h.2
              refine U_iinc dX0_canOpen_98 rfl (by decide) rfl h.1 ?_
              replace h := h.2
              refine T_goto (tgt := 36) dX0_canOpen_101 (by decide) ?_
              exact T_drop h ⟨Or.inl rfl, Or.inl rfl, Or.inl rfl, Or.inl rfl, Or.inl rfl, Or.inl rfl, Or.inl rfl, Or.inr rfl, trivial⟩
          · replace h := h.2 hc
            refine T_iload dX0_canOpen_75 rfl ?_
            refine T_iload_n dX0_canOpen_77 rfl ?_
            refine T_iand dX0_canOpen_78 ?_
            refine T_iload dX0_canOpen_79 rfl ?_
            refine U_icmp_eq (tgt := 86) dX0_canOpen_81 (by decide) (fun hc => ?_) (fun hc => ?_)
            · replace h := h.1 hc
              refine T_iload dX0_canOpen_86 rfl ?_
              refine T_iload_n dX0_canOpen_88 rfl ?_
              refine T_iand dX0_canOpen_89 ?_
              refine T_iload dX0_canOpen_90 rfl ?_
              refine U_icmp_ne (tgt := 98) dX0_canOpen_92 (by decide) (fun hc => ?_) (fun hc => ?_)
              · replace h := h.1 hc
                refine U_iinc dX0_canOpen_98 rfl (by decide) rfl h.1 ?_
                replace h := h.2
                refine T_goto (tgt := 36) dX0_canOpen_101 (by decide) ?_
                exact T_drop h ⟨Or.inl rfl, Or.inl rfl, Or.inl rfl, Or.inl rfl, Or.inl rfl, Or.inl rfl, Or.inl rfl, Or.inr rfl, trivial⟩
              · replace h := h.2 hc
                refine U_iinc dX0_canOpen_95 rfl (by decide) rfl h.1 ?_
                replace h := h.2
                refine U_iinc dX0_canOpen_98 rfl (by decide) rfl h.1 ?_
                replace h := h.2
                refine T_goto (tgt := 36) dX0_canOpen_101 (by decide) ?_
                exact T_drop h ⟨Or.inl rfl, Or.inl rfl, Or.inl rfl, Or.inl rfl, Or.inl rfl, Or.inl rfl, Or.inl rfl, Or.inr rfl, trivial⟩
            · replace h := h.2 hc
              refine T_iconst dX0_canOpen_84 (by decide) ?_
              exact T_zret dX0_canOpen_85 rfl (by decide) (hQ _ h)
    · replace h := h.2 hc
      refine T_iconst dX0_canOpen_21 (by decide) ?_
      exact T_zret dX0_canOpen_22 rfl (by decide) (hQ _ h)

theorem W_X10_hasBit {G : GT} {d : Nat} (hd : 1 ≤ d) {x0 : Int} {x1 : Int}   {v : VT} {q : Int → Prop} {Q : Option Vl → List Sh → VT → Prop} (h : P_X10_hasBit x0 x1 v q) (hQ : ∀ r, q r → Q (some (vI r)) SH v) : n_T G d 0 0 mX10_hasBit 0 [vI x0, vI x1] [] SH v Q := by
  unfold P_X10_hasBit at h
  refine T_iload_n dX10_hasBit_0 rfl ?_
  refine T_iload_n dX10_hasBit_1 rfl ?_
  refine T_ishr dX10_hasBit_2 ?_
  refine T_iconst dX10_hasBit_3 (by decide) ?_
  refine T_iand dX10_hasBit_4 ?_
  refine U_if_eq (tgt := 12) dX10_hasBit_5 (by decide) (fun hc => ?_) (fun hc => ?_)
  · replace h := h.1 hc
    refine T_iconst dX10_hasBit_12 (by decide) ?_
    exact T_zret dX10_hasBit_13 rfl (by decide) (hQ _ h)
  · replace h := h.2 hc
    refine T_iconst dX10_hasBit_8 (by decide) ?_
    refine T_goto (tgt := 13) dX10_hasBit_9 (by decide) ?_
    exact T_zret dX10_hasBit_13 rfl (by decide) (hQ _ h)

theorem W_X0_moveToSecond {G : GT} {d : Nat} (hd : 2 ≤ d) {g : Nat} {x1 : Int} {x2 : Int} {x3 : Int} (hg : isG g)  {v : VT} {q : VT → Prop} {Q : Option Vl → List Sh → VT → Prop} (h : P_X0_moveToSecond g x1 x2 x3 v q) (hQ : ∀ w, q w → Q none SH w) : n_T G d 0 0 mX0_moveToSecond 0 [vR g, vI x1, vI x2, vI x3, vS 9, vS 9] [] SH v Q := by
  unfold P_X0_moveToSecond at h
  refine T_aload_n dX0_moveToSecond_0 rfl ?_
  refine T_getR (r := (g + 2)) dX0_moveToSecond_1 fX0_22 rfl (isG_o hg) rfl ?_
  refine T_iload_n dX0_moveToSecond_4 rfl ?_
  refine T_iald dX0_moveToSecond_5 (isG_2 hg) h.1 ?_
  replace h := h.2
  refine U_istore dX0_moveToSecond_6 (by decide) rfl (fun l4 el4 => ?_)
  replace h := h l4 el4
  refine T_aload_n dX0_moveToSecond_8 rfl ?_
  refine T_getR (r := (g + 3)) dX0_moveToSecond_9 fX0_25 rfl (isG_o hg) rfl ?_
  refine T_iload_n dX0_moveToSecond_12 rfl ?_
  refine T_iald dX0_moveToSecond_13 (isG_3 hg) h.1 ?_
  replace h := h.2
  refine U_istore dX0_moveToSecond_14 (by decide) rfl (fun l5 el5 => ?_)
  replace h := h l5 el5
  refine T_iload_n dX0_moveToSecond_16 rfl ?_
  refine T_iload dX0_moveToSecond_17 rfl ?_
  refine U_callSN (as := [vI x2, vI l4]) (st := []) dX0_moveToSecond_19 kX10_hasBit lX0_73 rfl rfl (Nat.le_of_ble_eq_true rfl) (Nat.le_of_ble_eq_true rfl) (by omega) ?_
  refine W_X10_hasBit (by omega)  h (fun r19 h => ?_)
  show n_T G d 0 0 mX0_moveToSecond 22 [vR g, vI x1, vI x2, vI x3, vI l4, vI l5] [vI r19] SH v Q
  refine n_cut (h (n_T G d 0 0 mX0_moveToSecond 58 [vR g, vI x1, vI x2, vI x3, vI l4, vI l5] [] SH v Q)) ?_ ?_
  · intro h
    refine T_iload_n dX0_moveToSecond_58 rfl ?_
    refine T_iload dX0_moveToSecond_59 rfl ?_
    refine U_callSN (as := [vI x2, vI l5]) (st := []) dX0_moveToSecond_61 kX10_hasBit lX0_73 rfl rfl (Nat.le_of_ble_eq_true rfl) (Nat.le_of_ble_eq_true rfl) (by omega) ?_
    refine W_X10_hasBit (by omega)  h (fun r61 h => ?_)
    show n_T G d 0 0 mX0_moveToSecond 64 [vR g, vI x1, vI x2, vI x3, vI l4, vI l5] [vI r61] SH v Q
    refine U_if_eq (tgt := 89) dX0_moveToSecond_64 (by decide) (fun hc => ?_) (fun hc => ?_)
    · replace h := h.1 hc
      exact T_vret dX0_moveToSecond_89 rfl (hQ _ h)
    · replace h := h.2 hc
      refine T_iload_n dX0_moveToSecond_67 rfl ?_
      refine T_iload dX0_moveToSecond_68 rfl ?_
      refine U_callSN (as := [vI x3, vI l4]) (st := []) dX0_moveToSecond_70 kX10_hasBit lX0_73 rfl rfl (Nat.le_of_ble_eq_true rfl) (Nat.le_of_ble_eq_true rfl) (by omega) ?_
      refine W_X10_hasBit (by omega)  h (fun r70 h => ?_)
      show n_T G d 0 0 mX0_moveToSecond 73 [vR g, vI x1, vI x2, vI x3, vI l4, vI l5] [vI r70] SH v Q
      refine U_if_eq (tgt := 89) dX0_moveToSecond_73 (by decide) (fun hc => ?_) (fun hc => ?_)
      · replace h := h.1 hc
        exact T_vret dX0_moveToSecond_89 rfl (hQ _ h)
      · replace h := h.2 hc
        refine T_aload_n dX0_moveToSecond_76 rfl ?_
        refine T_getR (r := (g + 3)) dX0_moveToSecond_77 fX0_25 rfl (isG_o hg) rfl ?_
        refine T_iload_n dX0_moveToSecond_80 rfl ?_
        refine T_aload_n dX0_moveToSecond_81 rfl ?_
        refine T_getR (r := (g + 5)) dX0_moveToSecond_82 fX0_31 rfl (isG_o hg) rfl ?_
        refine T_iload dX0_moveToSecond_85 rfl ?_
        refine T_iald dX0_moveToSecond_87 (isG_5 hg) h.1 ?_
        replace h := h.2
        refine U_iast dX0_moveToSecond_88 (isG_3 hg) h.1 (fun v88 ev88 => ?_)
        replace h := h.2 v88 ev88
        exact T_vret dX0_moveToSecond_89 rfl (hQ _ h)
  · intro h
    refine U_if_eq (tgt := 58) dX0_moveToSecond_22 (by decide) (fun hc => ?_) (fun hc => ?_)
    · replace h := h.1 hc
      exact T_drop h ⟨Or.inl rfl, Or.inl rfl, Or.inl rfl, Or.inl rfl, Or.inl rfl, Or.inl rfl, trivial⟩
    · replace h := h.2 hc
      refine T_iload_n dX0_moveToSecond_25 rfl ?_
      refine T_iload dX0_moveToSecond_26 rfl ?_
      refine U_callSN (as := [vI x3, vI l5]) (st := []) dX0_moveToSecond_28 kX10_hasBit lX0_73 rfl rfl (Nat.le_of_ble_eq_true rfl) (Nat.le_of_ble_eq_true rfl) (by omega) ?_
      refine W_X10_hasBit (by omega)  h (fun r28 h => ?_)
      show n_T G d 0 0 mX0_moveToSecond 31 [vR g, vI x1, vI x2, vI x3, vI l4, vI l5] [vI r28] SH v Q
      refine U_if_eq (tgt := 58) dX0_moveToSecond_31 (by decide) (fun hc => ?_) (fun hc => ?_)
      · replace h := h.1 hc
        exact T_drop h ⟨Or.inl rfl, Or.inl rfl, Or.inl rfl, Or.inl rfl, Or.inl rfl, Or.inl rfl, trivial⟩
      · replace h := h.2 hc
        refine T_aload_n dX0_moveToSecond_34 rfl ?_
        refine T_getR (r := (g + 2)) dX0_moveToSecond_35 fX0_22 rfl (isG_o hg) rfl ?_
        refine T_iload_n dX0_moveToSecond_38 rfl ?_
        refine T_iload dX0_moveToSecond_39 rfl ?_
        refine U_iast dX0_moveToSecond_41 (isG_2 hg) h.1 (fun v41 ev41 => ?_)
        replace h := h.2 v41 ev41
        refine T_aload_n dX0_moveToSecond_42 rfl ?_
        refine T_getR (r := (g + 3)) dX0_moveToSecond_43 fX0_25 rfl (isG_o hg) rfl ?_
        refine T_iload_n dX0_moveToSecond_46 rfl ?_
        refine T_aload_n dX0_moveToSecond_47 rfl ?_
        refine T_getR (r := (g + 5)) dX0_moveToSecond_48 fX0_31 rfl (isG_o hg) rfl ?_
        refine T_iload dX0_moveToSecond_51 rfl ?_
        refine T_iald dX0_moveToSecond_53 (isG_5 hg) h.1 ?_
        replace h := h.2
        refine U_iast dX0_moveToSecond_54 (isG_3 hg) h.1 (fun v54 ev54 => ?_)
        replace h := h.2 v54 ev54
        refine T_goto (tgt := 89) dX0_moveToSecond_55 (by decide) ?_
        exact T_vret dX0_moveToSecond_89 rfl (hQ _ h)

theorem W_X0_doubleAlong {G : GT} {d : Nat} (hd : 8 ≤ d) {g : Nat} {x1 : Int} {x2 : Int} (hg : isG g)  {v : VT} {q : VT → Prop} {Q : Option Vl → List Sh → VT → Prop} (h : P_X0_doubleAlong g x1 x2 v q) (hQ : ∀ w, q w → Q none SH w) : n_T G d 0 0 mX0_doubleAlong 0 [vR g, vI x1, vI x2, vS 9, vS 9, vS 9, vS 9] [] SH v Q := by
  unfold P_X0_doubleAlong at h
  refine T_iload_n dX0_doubleAlong_0 rfl ?_
  refine T_iload_n dX0_doubleAlong_1 rfl ?_
  refine T_iand dX0_doubleAlong_2 ?_
  refine T_istore_n dX0_doubleAlong_3 (by decide) rfl ?_
  refine T_aload_n dX0_doubleAlong_4 rfl ?_
  refine T_getI dX0_doubleAlong_5 fX0_9 rfl (isG_o hg) ?_
  refine T_istore dX0_doubleAlong_8 (by decide) rfl ?_
  refine T_aload_n dX0_doubleAlong_10 rfl ?_
  refine T_getI dX0_doubleAlong_11 fX0_15 rfl (isG_o hg) ?_
  refine T_istore dX0_doubleAlong_14 (by decide) rfl ?_
  refine T_iconst dX0_doubleAlong_16 (by decide) ?_
  refine T_istore dX0_doubleAlong_17 (by decide) rfl ?_
  refine n_cut (h (fun (v57 : VT) => n_T G d 0 0 mX0_doubleAlong 57 [vR g, vI x1, vI x2, vI (i_and x1 x2), vI (v g 0), vI (v g 1), vS 9] [] SH v57 Q)) ?_ ?_
  · intro v57 h
    refine T_iconst dX0_doubleAlong_57 (by decide) ?_
    refine T_istore dX0_doubleAlong_58 (by decide) rfl ?_
    refine n_cut (h (fun (v136 : VT) => n_T G d 0 0 mX0_doubleAlong 136 [vR g, vI x1, vI x2, vI (i_and x1 x2), vI (v g 0), vI (v g 1), vS 9] [] SH v136 Q)) ?_ ?_
    · intro v136 h
      refine T_iconst dX0_doubleAlong_136 (by decide) ?_
      refine T_istore dX0_doubleAlong_137 (by decide) rfl ?_
      refine n_cut (h (fun (v164 : VT) => n_T G d 0 0 mX0_doubleAlong 164 [vR g, vS 9, vS 9, vI (i_and x1 x2), vI (v g 0), vS 9, vS 9] [] SH v164 Q)) ?_ ?_
      · intro v164 h
        refine T_iconst dX0_doubleAlong_164 (by decide) ?_
        refine T_istore dX0_doubleAlong_165 (by decide) rfl ?_
        refine T_drop (h (fun (i6 : Int) (v167 : VT) => n_T G d 0 0 mX0_doubleAlong 167 [vR g, vS 9, vS 9, vI (i_and x1 x2), vI (v g 0), vS 9, vI i6] [] SH v167 Q) (fun i6 v167 h => ?_)) ⟨Or.inl rfl, Or.inr rfl, Or.inr rfl, Or.inl rfl, Or.inl rfl, Or.inr rfl, Or.inl rfl, trivial⟩
        refine T_iload dX0_doubleAlong_167 rfl ?_
        refine T_iload dX0_doubleAlong_169 rfl ?_
        refine U_icmp_ge (tgt := 203) dX0_doubleAlong_171 (by decide) (fun hc => ?_) (fun hc => ?_)
        · replace h := h.1 hc
          exact T_vret dX0_doubleAlong_203 rfl (hQ _ h)
        · replace h := h.2 hc
          refine T_iload_n dX0_doubleAlong_174 rfl ?_
          refine T_iload dX0_doubleAlong_175 rfl ?_
          refine U_callSN (as := [vI (i_and x1 x2), vI i6]) (st := []) dX0_doubleAlong_177 kX10_hasBit lX0_73 rfl rfl (Nat.le_of_ble_eq_true rfl) (Nat.le_of_ble_eq_true rfl) (by omega) ?_
          refine W_X10_hasBit (by omega)  h (fun r177 h => ?_)
          show n_T G d 0 0 mX0_doubleAlong 180 [vR g, vS 9, vS 9, vI (i_and x1 x2), vI (v g 0), vS 9, vI i6] [vI r177] SH v167 Q
          refine U_if_eq (tgt := 197) dX0_doubleAlong_180 (by decide) (fun hc => ?_) (fun hc => ?_)
          · replace h := h.1 hc
            refine U_iinc dX0_doubleAlong_197 rfl (by decide) rfl h.1 ?_
            replace h := h.2
            refine T_goto (tgt := 167) dX0_doubleAlong_200 (by decide) ?_
            exact T_drop h ⟨Or.inl rfl, Or.inr rfl, Or.inr rfl, Or.inl rfl, Or.inl rfl, Or.inr rfl, Or.inl rfl, trivial⟩
          · replace h := h.2 hc
            refine T_aload_n dX0_doubleAlong_183 rfl ?_
            refine T_iload dX0_doubleAlong_184 rfl ?_
            refine T_aload_n dX0_doubleAlong_186 rfl ?_
            refine T_getR (r := (g + 5)) dX0_doubleAlong_187 fX0_31 rfl (isG_o hg) rfl ?_
            refine T_iload dX0_doubleAlong_190 rfl ?_
            refine T_iald dX0_doubleAlong_192 (isG_5 hg) h.1 ?_
            replace h := h.2
            refine T_iconst dX0_doubleAlong_193 (by decide) ?_
            refine U_callV (as := [vI i6, vI (v167 (g + 5) i6.toNat), vI 1]) (st := []) dX0_doubleAlong_194 kX0_addLine lX0_60 (isG_o hg) rfl rfl rfl rfl (Nat.le_of_ble_eq_true rfl) (Nat.le_of_ble_eq_true rfl) (by omega) ?_
            refine W_X0_addLine (by omega) hg h (fun v194 h => ?_)
            show n_T G d 0 0 mX0_doubleAlong 197 [vR g, vS 9, vS 9, vI (i_and x1 x2), vI (v g 0), vS 9, vI i6] [] SH v194 Q
            refine U_iinc dX0_doubleAlong_197 rfl (by decide) rfl h.1 ?_
            replace h := h.2
            refine T_goto (tgt := 167) dX0_doubleAlong_200 (by decide) ?_
            exact T_drop h ⟨Or.inl rfl, Or.inr rfl, Or.inr rfl, Or.inl rfl, Or.inl rfl, Or.inr rfl, Or.inl rfl, trivial⟩
      · intro h
        refine T_drop (h (fun (i6_1 : Int) (v139 : VT) => n_T G d 0 0 mX0_doubleAlong 139 [vR g, vI x1, vI x2, vI (i_and x1 x2), vI (v g 0), vI (v g 1), vI i6_1] [] SH v139 Q) (fun i6_1 v139 h => ?_)) ⟨Or.inl rfl, Or.inl rfl, Or.inl rfl, Or.inl rfl, Or.inl rfl, Or.inl rfl, Or.inl rfl, trivial⟩
        refine T_iload dX0_doubleAlong_139 rfl ?_
        refine T_iload dX0_doubleAlong_141 rfl ?_
        refine U_icmp_ge (tgt := 164) dX0_doubleAlong_143 (by decide) (fun hc => ?_) (fun hc => ?_)
        · replace h := h.1 hc
          exact T_drop h ⟨Or.inl rfl, Or.inr rfl, Or.inr rfl, Or.inl rfl, Or.inl rfl, Or.inr rfl, Or.inr rfl, trivial⟩
        · replace h := h.2 hc
          refine T_aload_n dX0_doubleAlong_146 rfl ?_
          refine T_iload dX0_doubleAlong_147 rfl ?_
          refine T_iload_n dX0_doubleAlong_149 rfl ?_
          refine T_iload_n dX0_doubleAlong_150 rfl ?_
          refine T_iload_n dX0_doubleAlong_151 rfl ?_
          refine T_iconst dX0_doubleAlong_152 (by decide) ?_
          refine T_ixor dX0_doubleAlong_153 ?_
          refine T_iand dX0_doubleAlong_154 ?_
          refine U_callV (as := [vI i6_1, vI (i_and x1 x2), vI (i_and x2 (i_xor x1 (-1)))]) (st := []) dX0_doubleAlong_155 kX0_moveToSecond lX0_77 (isG_o hg) rfl rfl rfl rfl (Nat.le_of_ble_eq_true rfl) (Nat.le_of_ble_eq_true rfl) (by omega) ?_
          refine W_X0_moveToSecond (by omega) hg h (fun v155 h => ?_)
          show n_T G d 0 0 mX0_doubleAlong 158 [vR g, vI x1, vI x2, vI (i_and x1 x2), vI (v g 0), vI (v g 1), vI i6_1] [] SH v155 Q
          refine U_iinc dX0_doubleAlong_158 rfl (by decide) rfl h.1 ?_
          replace h := h.2
          refine T_goto (tgt := 139) dX0_doubleAlong_161 (by decide) ?_
          exact T_drop h ⟨Or.inl rfl, Or.inl rfl, Or.inl rfl, Or.inl rfl, Or.inl rfl, Or.inl rfl, Or.inl rfl, trivial⟩
    · intro h
      refine T_drop (h (fun (i6_2 : Int) (v60 : VT) => n_T G d 0 0 mX0_doubleAlong 60 [vR g, vI x1, vI x2, vI (i_and x1 x2), vI (v g 0), vI (v g 1), vI i6_2] [] SH v60 Q) (fun i6_2 v60 h => ?_)) ⟨Or.inl rfl, Or.inl rfl, Or.inl rfl, Or.inl rfl, Or.inl rfl, Or.inl rfl, Or.inl rfl, trivial⟩
      refine T_iload dX0_doubleAlong_60 rfl ?_
      refine T_iload dX0_doubleAlong_62 rfl ?_
      refine U_icmp_ge (tgt := 136) dX0_doubleAlong_64 (by decide) (fun hc => ?_) (fun hc => ?_)
      · replace h := h.1 hc
        exact T_drop h ⟨Or.inl rfl, Or.inl rfl, Or.inl rfl, Or.inl rfl, Or.inl rfl, Or.inl rfl, Or.inr rfl, trivial⟩
      · replace h := h.2 hc
        refine T_iload_n dX0_doubleAlong_67 rfl ?_
        refine T_aload_n dX0_doubleAlong_68 rfl ?_
        refine T_getR (r := (g + 2)) dX0_doubleAlong_69 fX0_22 rfl (isG_o hg) rfl ?_
        refine T_iload dX0_doubleAlong_72 rfl ?_
        refine T_iald dX0_doubleAlong_74 (isG_2 hg) h.1 ?_
        replace h := h.2
        refine U_callSN (as := [vI (i_and x1 x2), vI (v60 (g + 2) i6_2.toNat)]) (st := []) dX0_doubleAlong_75 kX10_hasBit lX0_73 rfl rfl (Nat.le_of_ble_eq_true rfl) (Nat.le_of_ble_eq_true rfl) (by omega) ?_
        refine W_X10_hasBit (by omega)  h (fun r75 h => ?_)
        show n_T G d 0 0 mX0_doubleAlong 78 [vR g, vI x1, vI x2, vI (i_and x1 x2), vI (v g 0), vI (v g 1), vI i6_2] [vI r75] SH v60 Q
        refine U_if_eq (tgt := 130) dX0_doubleAlong_78 (by decide) (fun hc => ?_) (fun hc => ?_)
        · replace h := h.1 hc
          refine U_iinc dX0_doubleAlong_130 rfl (by decide) rfl h.1 ?_
          replace h := h.2
          refine T_goto (tgt := 60) dX0_doubleAlong_133 (by decide) ?_
          exact T_drop h ⟨Or.inl rfl, Or.inl rfl, Or.inl rfl, Or.inl rfl, Or.inl rfl, Or.inl rfl, Or.inl rfl, trivial⟩
        · replace h := h.2 hc
          refine T_iload_n dX0_doubleAlong_81 rfl ?_
          refine T_aload_n dX0_doubleAlong_82 rfl ?_
          refine T_getR (r := (g + 3)) dX0_doubleAlong_83 fX0_25 rfl (isG_o hg) rfl ?_
          refine T_iload dX0_doubleAlong_86 rfl ?_
          refine T_iald dX0_doubleAlong_88 (isG_3 hg) h.1 ?_
          replace h := h.2
          refine U_callSN (as := [vI (i_and x1 x2), vI (v60 (g + 3) i6_2.toNat)]) (st := []) dX0_doubleAlong_89 kX10_hasBit lX0_73 rfl rfl (Nat.le_of_ble_eq_true rfl) (Nat.le_of_ble_eq_true rfl) (by omega) ?_
          refine W_X10_hasBit (by omega)  h (fun r89 h => ?_)
          show n_T G d 0 0 mX0_doubleAlong 92 [vR g, vI x1, vI x2, vI (i_and x1 x2), vI (v g 0), vI (v g 1), vI i6_2] [vI r89] SH v60 Q
          refine U_if_eq (tgt := 130) dX0_doubleAlong_92 (by decide) (fun hc => ?_) (fun hc => ?_)
          · replace h := h.1 hc
            refine U_iinc dX0_doubleAlong_130 rfl (by decide) rfl h.1 ?_
            replace h := h.2
            refine T_goto (tgt := 60) dX0_doubleAlong_133 (by decide) ?_
            exact T_drop h ⟨Or.inl rfl, Or.inl rfl, Or.inl rfl, Or.inl rfl, Or.inl rfl, Or.inl rfl, Or.inl rfl, trivial⟩
          · replace h := h.2 hc
            refine T_aload_n dX0_doubleAlong_95 rfl ?_
            refine T_aload_n dX0_doubleAlong_96 rfl ?_
            refine T_getR (r := (g + 5)) dX0_doubleAlong_97 fX0_31 rfl (isG_o hg) rfl ?_
            refine T_aload_n dX0_doubleAlong_100 rfl ?_
            refine T_getR (r := (g + 2)) dX0_doubleAlong_101 fX0_22 rfl (isG_o hg) rfl ?_
            refine T_iload dX0_doubleAlong_104 rfl ?_
            refine T_iald dX0_doubleAlong_106 (isG_2 hg) h.1 ?_
            replace h := h.2
            refine T_iald dX0_doubleAlong_107 (isG_5 hg) h.1 ?_
            replace h := h.2
            refine T_aload_n dX0_doubleAlong_108 rfl ?_
            refine T_getR (r := (g + 5)) dX0_doubleAlong_109 fX0_31 rfl (isG_o hg) rfl ?_
            refine T_aload_n dX0_doubleAlong_112 rfl ?_
            refine T_getR (r := (g + 3)) dX0_doubleAlong_113 fX0_25 rfl (isG_o hg) rfl ?_
            refine T_iload dX0_doubleAlong_116 rfl ?_
            refine T_iald dX0_doubleAlong_118 (isG_3 hg) h.1 ?_
            replace h := h.2
            refine T_iald dX0_doubleAlong_119 (isG_5 hg) h.1 ?_
            replace h := h.2
            refine T_aload_n dX0_doubleAlong_120 rfl ?_
            refine T_getR (r := (g + 4)) dX0_doubleAlong_121 fX0_28 rfl (isG_o hg) rfl ?_
            refine T_iload dX0_doubleAlong_124 rfl ?_
            refine T_iald dX0_doubleAlong_126 (isG_4 hg) h.1 ?_
            replace h := h.2
            refine U_callV (as := [vI (v60 (g + 5) (v60 (g + 2) i6_2.toNat).toNat), vI (v60 (g + 5) (v60 (g + 3) i6_2.toNat).toNat), vI (v60 (g + 4) i6_2.toNat)]) (st := []) dX0_doubleAlong_127 kX0_addLine lX0_60 (isG_o hg) rfl rfl rfl rfl (Nat.le_of_ble_eq_true rfl) (Nat.le_of_ble_eq_true rfl) (by omega) ?_
            refine W_X0_addLine (by omega) hg h (fun v127 h => ?_)
            show n_T G d 0 0 mX0_doubleAlong 130 [vR g, vI x1, vI x2, vI (i_and x1 x2), vI (v g 0), vI (v g 1), vI i6_2] [] SH v127 Q
            refine U_iinc dX0_doubleAlong_130 rfl (by decide) rfl h.1 ?_
            replace h := h.2
            refine T_goto (tgt := 60) dX0_doubleAlong_133 (by decide) ?_
            exact T_drop h ⟨Or.inl rfl, Or.inl rfl, Or.inl rfl, Or.inl rfl, Or.inl rfl, Or.inl rfl, Or.inl rfl, trivial⟩
  · intro h
    refine T_drop (h (fun (i6_3 : Int) (v19 : VT) => n_T G d 0 0 mX0_doubleAlong 19 [vR g, vI x1, vI x2, vI (i_and x1 x2), vI (v g 0), vI (v g 1), vI i6_3] [] SH v19 Q) (fun i6_3 v19 h => ?_)) ⟨Or.inl rfl, Or.inl rfl, Or.inl rfl, Or.inl rfl, Or.inl rfl, Or.inl rfl, Or.inl rfl, trivial⟩
    refine T_iload dX0_doubleAlong_19 rfl ?_
    refine T_iload dX0_doubleAlong_21 rfl ?_
    refine U_icmp_ge (tgt := 57) dX0_doubleAlong_23 (by decide) (fun hc => ?_) (fun hc => ?_)
    · replace h := h.1 hc
      exact T_drop h ⟨Or.inl rfl, Or.inl rfl, Or.inl rfl, Or.inl rfl, Or.inl rfl, Or.inl rfl, Or.inr rfl, trivial⟩
    · replace h := h.2 hc
      refine T_iload_n dX0_doubleAlong_26 rfl ?_
      refine T_iload dX0_doubleAlong_27 rfl ?_
      refine U_callSN (as := [vI (i_and x1 x2), vI i6_3]) (st := []) dX0_doubleAlong_29 kX10_hasBit lX0_73 rfl rfl (Nat.le_of_ble_eq_true rfl) (Nat.le_of_ble_eq_true rfl) (by omega) ?_
      refine W_X10_hasBit (by omega)  h (fun r29 h => ?_)
      show n_T G d 0 0 mX0_doubleAlong 32 [vR g, vI x1, vI x2, vI (i_and x1 x2), vI (v g 0), vI (v g 1), vI i6_3] [vI r29] SH v19 Q
      refine U_if_eq (tgt := 51) dX0_doubleAlong_32 (by decide) (fun hc => ?_) (fun hc => ?_)
      · replace h := h.1 hc
        refine U_iinc dX0_doubleAlong_51 rfl (by decide) rfl h.1 ?_
        replace h := h.2
        refine T_goto (tgt := 19) dX0_doubleAlong_54 (by decide) ?_
        exact T_drop h ⟨Or.inl rfl, Or.inl rfl, Or.inl rfl, Or.inl rfl, Or.inl rfl, Or.inl rfl, Or.inl rfl, trivial⟩
      · replace h := h.2 hc
        refine T_aload_n dX0_doubleAlong_35 rfl ?_
        refine T_getR (r := (g + 5)) dX0_doubleAlong_36 fX0_31 rfl (isG_o hg) rfl ?_
        refine T_iload dX0_doubleAlong_39 rfl ?_
        refine T_aload_n dX0_doubleAlong_41 rfl ?_
        refine T_getI dX0_doubleAlong_42 fX0_9 rfl (isG_o hg) ?_
        refine U_iast dX0_doubleAlong_45 (isG_5 hg) h.1 (fun v45 ev45 => ?_)
        replace h := h.2 v45 ev45
        refine T_aload_n dX0_doubleAlong_46 rfl ?_
        refine T_iconst dX0_doubleAlong_47 (by decide) ?_
        refine U_callV (as := [vI 0]) (st := []) dX0_doubleAlong_48 kX0_addNode lX0_56 (isG_o hg) rfl rfl rfl rfl (Nat.le_of_ble_eq_true rfl) (Nat.le_of_ble_eq_true rfl) (by omega) ?_
        refine W_X0_addNode (by omega) hg h (fun v48 h => ?_)
        show n_T G d 0 0 mX0_doubleAlong 51 [vR g, vI x1, vI x2, vI (i_and x1 x2), vI (v g 0), vI (v g 1), vI i6_3] [] SH v48 Q
        refine U_iinc dX0_doubleAlong_51 rfl (by decide) rfl h.1 ?_
        replace h := h.2
        refine T_goto (tgt := 19) dX0_doubleAlong_54 (by decide) ?_
        exact T_drop h ⟨Or.inl rfl, Or.inl rfl, Or.inl rfl, Or.inl rfl, Or.inl rfl, Or.inl rfl, Or.inl rfl, trivial⟩

theorem W_X2_areAlike {G : GT} {d : Nat} (hd : 1 ≤ d) {x2 : Int} {x3 : Int}   {v : VT} {q : Int → Prop} {Q : Option Vl → List Sh → VT → Prop} (h : P_X2_areAlike x2 x3 v q) (hQ : ∀ r, q r → Q (some (vI r)) SH v) : n_T G d 0 0 mX2_areAlike 0 [vR 138, vR 10, vI x2, vI x3, vS 9, vS 9, vS 9, vS 9] [] SH v Q := by
  unfold P_X2_areAlike at h
  refine T_aload_n dX2_areAlike_0 rfl ?_
  refine T_getR (r := 140) dX2_areAlike_1 fX2_28 rfl SH_138 rfl ?_
  refine T_aload_n dX2_areAlike_4 rfl ?_
  refine T_getR (r := 12) dX2_areAlike_5 fX2_47 rfl SH_10 rfl ?_
  refine T_iload_n dX2_areAlike_8 rfl ?_
  refine T_iald dX2_areAlike_9 SH_12 h.1 ?_
  replace h := h.2
  have hw10 := row_141 h.1
  refine T_aald3 dX2_areAlike_10 SH_140 h.1 (rowq_141 h.1) ?_
  replace h := h.2
  refine T_astore dX2_areAlike_11 (by decide) rfl ?_
  refine T_aload_n dX2_areAlike_13 rfl ?_
  refine T_getR (r := 140) dX2_areAlike_14 fX2_28 rfl SH_138 rfl ?_
  refine T_aload_n dX2_areAlike_17 rfl ?_
  refine T_getR (r := 13) dX2_areAlike_18 fX2_50 rfl SH_10 rfl ?_
  refine T_iload_n dX2_areAlike_21 rfl ?_
  refine T_iald dX2_areAlike_22 SH_13 h.1 ?_
  replace h := h.2
  have hw23 := row_141 h.1
  refine T_aald3 dX2_areAlike_23 SH_140 h.1 (rowq_141 h.1) ?_
  replace h := h.2
  refine T_astore dX2_areAlike_24 (by decide) rfl ?_
  refine T_aload_n dX2_areAlike_26 rfl ?_
  refine T_getR (r := 12) dX2_areAlike_27 fX2_47 rfl SH_10 rfl ?_
  refine T_iload_n dX2_areAlike_30 rfl ?_
  refine T_iald dX2_areAlike_31 SH_12 h.1 ?_
  replace h := h.2
  refine U_istore dX2_areAlike_32 (by decide) rfl (fun l6 el6 => ?_)
  replace h := h l6 el6
  refine T_aload_n dX2_areAlike_34 rfl ?_
  refine T_getR (r := 13) dX2_areAlike_35 fX2_50 rfl SH_10 rfl ?_
  refine T_iload_n dX2_areAlike_38 rfl ?_
  refine T_iald dX2_areAlike_39 SH_13 h.1 ?_
  replace h := h.2
  refine U_istore dX2_areAlike_40 (by decide) rfl (fun l7 el7 => ?_)
  replace h := h l7 el7
  refine T_aload dX2_areAlike_42 rfl ?_
  refine T_iload dX2_areAlike_44 rfl ?_
  refine T_iald dX2_areAlike_46 hw10 h.1 ?_
  replace h := h.2
  refine T_iconst dX2_areAlike_47 (by decide) ?_
  refine U_icmp_ne (tgt := 53) dX2_areAlike_48 (by decide) (fun hc => ?_) (fun hc => ?_)
  · replace h := h.1 hc
    refine T_aload dX2_areAlike_53 rfl ?_
    refine T_iload dX2_areAlike_55 rfl ?_
    refine T_iald dX2_areAlike_57 hw10 h.1 ?_
    replace h := h.2
    refine T_aload dX2_areAlike_58 rfl ?_
    refine T_iload dX2_areAlike_60 rfl ?_
    refine T_iald dX2_areAlike_62 hw23 h.1 ?_
    replace h := h.2
    refine U_iadd dX2_areAlike_63 h.1 ?_
    replace h := h.2
    refine T_aload dX2_areAlike_64 rfl ?_
    refine T_iload dX2_areAlike_66 rfl ?_
    refine T_iald dX2_areAlike_68 hw10 h.1 ?_
    replace h := h.2
    refine T_aload dX2_areAlike_69 rfl ?_
    refine T_iload dX2_areAlike_71 rfl ?_
    refine T_iald dX2_areAlike_73 hw23 h.1 ?_
    replace h := h.2
    refine U_iadd dX2_areAlike_74 h.1 ?_
    replace h := h.2
    refine U_icmp_eq (tgt := 82) dX2_areAlike_75 (by decide) (fun hc => ?_) (fun hc => ?_)
    · replace h := h.1 hc
      refine T_iconst dX2_areAlike_82 (by decide) ?_
      exact T_zret dX2_areAlike_83 rfl (by decide) (hQ _ h)
    · replace h := h.2 hc
      refine T_iconst dX2_areAlike_78 (by decide) ?_
      refine T_goto (tgt := 83) dX2_areAlike_79 (by decide) ?_
      exact T_zret dX2_areAlike_83 rfl (by decide) (hQ _ h)
  · replace h := h.2 hc
    refine T_iconst dX2_areAlike_51 (by decide) ?_
    exact T_zret dX2_areAlike_52 rfl (by decide) (hQ _ h)

theorem W_X1_collectFrom {G : GT} {d : Nat} (hd : 2 ≤ d) {x3 : Int}   {v : VT} {q : VT → Prop} {Q : Option Vl → List Sh → VT → Prop} (h : P_X1_collectFrom x3 v q) (hQ : ∀ w, q w → Q none SH w) : n_T G d 0 0 mX1_collectFrom 0 [vR 191, vR 10, vR 138, vI x3, vS 9, vS 9, vS 9] [] SH v Q := by
  unfold P_X1_collectFrom at h
  refine T_aload_n dX1_collectFrom_0 rfl ?_
  refine T_getR (r := 192) dX1_collectFrom_1 fX1_19 rfl SH_191 rfl ?_
  refine T_iload_n dX1_collectFrom_4 rfl ?_
  refine T_aload_n dX1_collectFrom_5 rfl ?_
  refine T_getI dX1_collectFrom_6 fX1_15 rfl SH_191 ?_
  refine U_iast dX1_collectFrom_9 SH_192 h.1 (fun v9 ev9 => ?_)
  replace h := h.2 v9 ev9
  refine T_aload_n dX1_collectFrom_10 rfl ?_
  refine T_getR (r := 196) dX1_collectFrom_11 fX1_32 rfl SH_191 rfl ?_
  refine T_iconst dX1_collectFrom_14 (by decide) ?_
  refine T_iload_n dX1_collectFrom_15 rfl ?_
  refine U_iast dX1_collectFrom_16 SH_196 (by decide) (fun v16 ev16 => ?_)
  replace h := h v16 ev16
  refine T_iconst dX1_collectFrom_17 (by decide) ?_
  refine T_istore dX1_collectFrom_18 (by decide) rfl ?_
  refine T_iconst dX1_collectFrom_20 (by decide) ?_
  refine T_istore dX1_collectFrom_21 (by decide) rfl ?_
  refine n_cut (h (fun (i4 : Int) (v114 : VT) => n_T G d 0 0 mX1_collectFrom 114 [vR 191, vS 9, vS 9, vI x3, vI i4, vS 9, vS 9] [] SH v114 Q)) ?_ ?_
  · intro i4 v114 h
    refine T_aload_n dX1_collectFrom_114 rfl ?_
    refine T_getR (r := 194) dX1_collectFrom_115 fX1_26 rfl SH_191 rfl ?_
    refine T_aload_n dX1_collectFrom_118 rfl ?_
    refine T_getI dX1_collectFrom_119 fX1_15 rfl SH_191 ?_
    refine T_iload_n dX1_collectFrom_122 rfl ?_
    refine U_iast dX1_collectFrom_123 SH_194 h.1 (fun v123 ev123 => ?_)
    replace h := h.2 v123 ev123
    refine T_aload_n dX1_collectFrom_124 rfl ?_
    refine T_getR (r := 193) dX1_collectFrom_125 fX1_23 rfl SH_191 rfl ?_
    refine T_aload_n dX1_collectFrom_128 rfl ?_
    refine T_getI dX1_collectFrom_129 fX1_15 rfl SH_191 ?_
    refine T_iload dX1_collectFrom_132 rfl ?_
    refine U_iast dX1_collectFrom_134 SH_193 h.1 (fun v134 ev134 => ?_)
    replace h := h.2 v134 ev134
    refine T_aload_n dX1_collectFrom_135 rfl ?_
    refine T_dup dX1_collectFrom_136 rfl ?_
    refine T_getI dX1_collectFrom_137 fX1_15 rfl SH_191 ?_
    refine T_iconst dX1_collectFrom_140 (by decide) ?_
    refine U_iadd dX1_collectFrom_141 h.1 ?_
    replace h := h.2
    refine U_putI dX1_collectFrom_142 fX1_15 rfl rfl SH_191 (fun v142 ev142 => ?_)
    replace h := h v142 ev142
    exact T_vret dX1_collectFrom_145 rfl (hQ _ h)
  · intro h
    refine T_drop (h (fun (i4_1 : Int) (i5 : Int) (v23 : VT) => n_T G d 0 0 mX1_collectFrom 23 [vR 191, vR 10, vR 138, vI x3, vI i4_1, vI i5, vS 9] [] SH v23 Q) (fun i4_1 i5 v23 h => ?_)) ⟨Or.inl rfl, Or.inl rfl, Or.inl rfl, Or.inl rfl, Or.inl rfl, Or.inl rfl, Or.inr rfl, trivial⟩
    refine T_iload dX1_collectFrom_23 rfl ?_
    refine T_iload dX1_collectFrom_25 rfl ?_
    refine U_icmp_ge (tgt := 114) dX1_collectFrom_27 (by decide) (fun hc => ?_) (fun hc => ?_)
    · replace h := h.1 hc
      exact T_drop h ⟨Or.inl rfl, Or.inr rfl, Or.inr rfl, Or.inl rfl, Or.inl rfl, Or.inr rfl, Or.inr rfl, trivial⟩
    · replace h := h.2 hc
      refine T_iload dX1_collectFrom_30 rfl ?_
      refine T_bipush dX1_collectFrom_32 (by decide) ?_
      refine U_icmp_ge (tgt := 114) dX1_collectFrom_34 (by decide) (fun hc => ?_) (fun hc => ?_)
      · replace h := h.1 hc
        exact T_drop h ⟨Or.inl rfl, Or.inr rfl, Or.inr rfl, Or.inl rfl, Or.inl rfl, Or.inr rfl, Or.inr rfl, trivial⟩
      · replace h := h.2 hc
        refine T_iload_n dX1_collectFrom_37 rfl ?_
        refine T_iconst dX1_collectFrom_38 (by decide) ?_
        refine U_iadd dX1_collectFrom_39 h.1 ?_
        replace h := h.2
        refine T_istore dX1_collectFrom_40 (by decide) rfl ?_
        refine T_drop (h (fun (i4_2 : Int) (i6 : Int) (v42 : VT) => n_T G d 0 0 mX1_collectFrom 42 [vR 191, vR 10, vR 138, vI x3, vI i4_2, vI i5, vI i6] [] SH v42 Q) (fun i4_2 i6 v42 h => ?_)) ⟨Or.inl rfl, Or.inl rfl, Or.inl rfl, Or.inl rfl, Or.inl rfl, Or.inl rfl, Or.inl rfl, trivial⟩
        refine T_iload dX1_collectFrom_42 rfl ?_
        refine T_aload_n dX1_collectFrom_44 rfl ?_
        refine T_getI dX1_collectFrom_45 fX1_35 rfl SH_10 ?_
        refine U_icmp_ge (tgt := 108) dX1_collectFrom_48 (by decide) (fun hc => ?_) (fun hc => ?_)
        · replace h := h.1 hc
          refine U_iinc dX1_collectFrom_108 rfl (by decide) rfl h.1 ?_
          replace h := h.2
          refine T_goto (tgt := 23) dX1_collectFrom_111 (by decide) ?_
          exact T_drop h ⟨Or.inl rfl, Or.inl rfl, Or.inl rfl, Or.inl rfl, Or.inl rfl, Or.inl rfl, Or.inr rfl, trivial⟩
        · replace h := h.2 hc
          refine T_aload_n dX1_collectFrom_51 rfl ?_
          refine T_getR (r := 192) dX1_collectFrom_52 fX1_19 rfl SH_191 rfl ?_
          refine T_iload dX1_collectFrom_55 rfl ?_
          refine T_iald dX1_collectFrom_57 SH_192 h.1 ?_
          replace h := h.2
          refine T_iconst dX1_collectFrom_58 (by decide) ?_
          refine U_icmp_ne (tgt := 102) dX1_collectFrom_59 (by decide) (fun hc => ?_) (fun hc => ?_)
          · replace h := h.1 hc
            refine U_iinc dX1_collectFrom_102 rfl (by decide) rfl h.1 ?_
            replace h := h.2
            refine T_goto (tgt := 42) dX1_collectFrom_105 (by decide) ?_
            exact T_drop h ⟨Or.inl rfl, Or.inl rfl, Or.inl rfl, Or.inl rfl, Or.inl rfl, Or.inl rfl, Or.inl rfl, trivial⟩
          · replace h := h.2 hc
            refine T_aload_n dX1_collectFrom_62 rfl ?_
            refine T_aload_n dX1_collectFrom_63 rfl ?_
            refine T_aload_n dX1_collectFrom_64 rfl ?_
            refine T_getR (r := 196) dX1_collectFrom_65 fX1_32 rfl SH_191 rfl ?_
            refine T_iload dX1_collectFrom_68 rfl ?_
            refine T_iald dX1_collectFrom_70 SH_196 h.1 ?_
            replace h := h.2
            refine T_iload dX1_collectFrom_71 rfl ?_
            refine U_callV (as := [vR 10, vI (v42 196 i5.toNat), vI i6]) (st := []) dX1_collectFrom_73 kX2_areAlike lX1_44 SH_138 rfl rfl rfl rfl (Nat.le_of_ble_eq_true rfl) (Nat.le_of_ble_eq_true rfl) (by omega) ?_
            refine W_X2_areAlike (by omega)  h (fun r73 h => ?_)
            show n_T G d 0 0 mX1_collectFrom 76 [vR 191, vR 10, vR 138, vI x3, vI i4_2, vI i5, vI i6] [vI r73] SH v42 Q
            refine U_if_eq (tgt := 102) dX1_collectFrom_76 (by decide) (fun hc => ?_) (fun hc => ?_)
            · replace h := h.1 hc
              refine U_iinc dX1_collectFrom_102 rfl (by decide) rfl h.1 ?_
              replace h := h.2
              refine T_goto (tgt := 42) dX1_collectFrom_105 (by decide) ?_
              exact T_drop h ⟨Or.inl rfl, Or.inl rfl, Or.inl rfl, Or.inl rfl, Or.inl rfl, Or.inl rfl, Or.inl rfl, trivial⟩
            · replace h := h.2 hc
              refine T_aload_n dX1_collectFrom_79 rfl ?_
              refine T_getR (r := 192) dX1_collectFrom_80 fX1_19 rfl SH_191 rfl ?_
              refine T_iload dX1_collectFrom_83 rfl ?_
              refine T_aload_n dX1_collectFrom_85 rfl ?_
              refine T_getI dX1_collectFrom_86 fX1_15 rfl SH_191 ?_
              refine U_iast dX1_collectFrom_89 SH_192 h.1 (fun v89 ev89 => ?_)
              replace h := h.2 v89 ev89
              refine T_aload_n dX1_collectFrom_90 rfl ?_
              refine T_getR (r := 196) dX1_collectFrom_91 fX1_32 rfl SH_191 rfl ?_
              refine T_iload dX1_collectFrom_94 rfl ?_
              refine T_iload dX1_collectFrom_96 rfl ?_
              refine U_iast dX1_collectFrom_98 SH_196 h.1 (fun v98 ev98 => ?_)
              replace h := h.2 v98 ev98
              refine U_iinc dX1_collectFrom_99 rfl (by decide) rfl h.1 ?_
              replace h := h.2
              refine U_iinc dX1_collectFrom_102 rfl (by decide) rfl h.1 ?_
              replace h := h.2
              refine T_goto (tgt := 42) dX1_collectFrom_105 (by decide) ?_
              exact T_drop h ⟨Or.inl rfl, Or.inl rfl, Or.inl rfl, Or.inl rfl, Or.inl rfl, Or.inl rfl, Or.inl rfl, trivial⟩

theorem W_X1_collect {G : GT} {d : Nat} (hd : 3 ≤ d)    {v : VT} {q : VT → Prop} {Q : Option Vl → List Sh → VT → Prop} (h : P_X1_collect  v q) (hQ : ∀ w, q w → Q none SH w) : n_T G d 0 0 mX1_collect 0 [vR 191, vR 10, vR 138, vS 9] [] SH v Q := by
  unfold P_X1_collect at h
  refine T_aload_n dX1_collect_0 rfl ?_
  refine T_iconst dX1_collect_1 (by decide) ?_
  refine U_putI dX1_collect_2 fX1_15 rfl rfl SH_191 (fun v2 ev2 => ?_)
  replace h := h v2 ev2
  refine T_iconst dX1_collect_5 (by decide) ?_
  refine T_istore_n dX1_collect_6 (by decide) rfl ?_
  refine n_cut (h (fun (v28 : VT) => n_T G d 0 0 mX1_collect 28 [vR 191, vR 10, vR 138, vS 9] [] SH v28 Q)) ?_ ?_
  · intro v28 h
    refine T_iconst dX1_collect_28 (by decide) ?_
    refine T_istore_n dX1_collect_29 (by decide) rfl ?_
    refine T_drop (h (fun (i3 : Int) (v30 : VT) => n_T G d 0 0 mX1_collect 30 [vR 191, vR 10, vR 138, vI i3] [] SH v30 Q) (fun i3 v30 h => ?_)) ⟨Or.inl rfl, Or.inl rfl, Or.inl rfl, Or.inl rfl, trivial⟩
    refine T_iload_n dX1_collect_30 rfl ?_
    refine T_aload_n dX1_collect_31 rfl ?_
    refine T_getI dX1_collect_32 fX1_35 rfl SH_10 ?_
    refine U_icmp_ge (tgt := 61) dX1_collect_35 (by decide) (fun hc => ?_) (fun hc => ?_)
    · replace h := h.1 hc
      refine T_aload_n dX1_collect_61 rfl ?_
      refine T_iconst dX1_collect_62 (by decide) ?_
      refine U_putZ dX1_collect_63 fX1_9 rfl rfl SH_191 (by decide) (fun v63 ev63 => ?_)
      replace h := h v63 ev63
      exact T_vret dX1_collect_66 rfl (hQ _ h)
    · replace h := h.2 hc
      refine T_aload_n dX1_collect_38 rfl ?_
      refine T_getR (r := 192) dX1_collect_39 fX1_19 rfl SH_191 rfl ?_
      refine T_iload_n dX1_collect_42 rfl ?_
      refine T_iald dX1_collect_43 SH_192 h.1 ?_
      replace h := h.2
      refine T_iconst dX1_collect_44 (by decide) ?_
      refine U_icmp_ne (tgt := 55) dX1_collect_45 (by decide) (fun hc => ?_) (fun hc => ?_)
      · replace h := h.1 hc
        refine U_iinc dX1_collect_55 rfl (by decide) rfl h.1 ?_
        replace h := h.2
        refine T_goto (tgt := 30) dX1_collect_58 (by decide) ?_
        exact T_drop h ⟨Or.inl rfl, Or.inl rfl, Or.inl rfl, Or.inl rfl, trivial⟩
      · replace h := h.2 hc
        refine T_aload_n dX1_collect_48 rfl ?_
        refine T_aload_n dX1_collect_49 rfl ?_
        refine T_aload_n dX1_collect_50 rfl ?_
        refine T_iload_n dX1_collect_51 rfl ?_
        refine U_callV (as := [vR 10, vR 138, vI i3]) (st := []) dX1_collect_52 kX1_collectFrom lX1_40 SH_191 rfl rfl rfl rfl (Nat.le_of_ble_eq_true rfl) (Nat.le_of_ble_eq_true rfl) (by omega) ?_
        refine W_X1_collectFrom (by omega)  h (fun v52 h => ?_)
        show n_T G d 0 0 mX1_collect 55 [vR 191, vR 10, vR 138, vI i3] [] SH v52 Q
        refine U_iinc dX1_collect_55 rfl (by decide) rfl h.1 ?_
        replace h := h.2
        refine T_goto (tgt := 30) dX1_collect_58 (by decide) ?_
        exact T_drop h ⟨Or.inl rfl, Or.inl rfl, Or.inl rfl, Or.inl rfl, trivial⟩
  · intro h
    refine T_drop (h (fun (i3_1 : Int) (v7 : VT) => n_T G d 0 0 mX1_collect 7 [vR 191, vR 10, vR 138, vI i3_1] [] SH v7 Q) (fun i3_1 v7 h => ?_)) ⟨Or.inl rfl, Or.inl rfl, Or.inl rfl, Or.inl rfl, trivial⟩
    refine T_iload_n dX1_collect_7 rfl ?_
    refine T_aload_n dX1_collect_8 rfl ?_
    refine T_getI dX1_collect_9 fX1_35 rfl SH_10 ?_
    refine U_icmp_ge (tgt := 28) dX1_collect_12 (by decide) (fun hc => ?_) (fun hc => ?_)
    · replace h := h.1 hc
      exact T_drop h ⟨Or.inl rfl, Or.inl rfl, Or.inl rfl, Or.inr rfl, trivial⟩
    · replace h := h.2 hc
      refine T_aload_n dX1_collect_15 rfl ?_
      refine T_getR (r := 192) dX1_collect_16 fX1_19 rfl SH_191 rfl ?_
      refine T_iload_n dX1_collect_19 rfl ?_
      refine T_iconst dX1_collect_20 (by decide) ?_
      refine U_iast dX1_collect_21 SH_192 h.1 (fun v21 ev21 => ?_)
      replace h := h.2 v21 ev21
      refine U_iinc dX1_collect_22 rfl (by decide) rfl h.1 ?_
      replace h := h.2
      refine T_goto (tgt := 7) dX1_collect_25 (by decide) ?_
      exact T_drop h ⟨Or.inl rfl, Or.inl rfl, Or.inl rfl, Or.inl rfl, trivial⟩

theorem W_X1_isFair {G : GT} {d : Nat} (hd : 1 ≤ d)    {v : VT} {q : Int → Prop} {Q : Option Vl → List Sh → VT → Prop} (h : P_X1_isFair  v q) (hQ : ∀ r, q r → Q (some (vI r)) SH v) : n_T G d 0 0 mX1_isFair 0 [vR 191, vR 10, vS 9] [] SH v Q := by
  unfold P_X1_isFair at h
  refine T_iconst dX1_isFair_0 (by decide) ?_
  refine T_istore_n dX1_isFair_1 (by decide) rfl ?_
  refine T_drop (h (fun (i2 : Int) => n_T G d 0 0 mX1_isFair 2 [vR 191, vR 10, vI i2] [] SH v Q) (fun i2 h => ?_)) ⟨Or.inl rfl, Or.inl rfl, Or.inl rfl, trivial⟩
  refine T_iload_n dX1_isFair_2 rfl ?_
  refine T_aload_n dX1_isFair_3 rfl ?_
  refine T_getI dX1_isFair_4 fX1_35 rfl SH_10 ?_
  refine U_icmp_ge (tgt := 43) dX1_isFair_7 (by decide) (fun hc => ?_) (fun hc => ?_)
  · replace h := h.1 hc
    refine T_iconst dX1_isFair_43 (by decide) ?_
    exact T_zret dX1_isFair_44 rfl (by decide) (hQ _ h)
  · replace h := h.2 hc
    refine T_aload_n dX1_isFair_10 rfl ?_
    refine T_getR (r := 14) dX1_isFair_11 fX1_50 rfl SH_10 rfl ?_
    refine T_iload_n dX1_isFair_14 rfl ?_
    refine T_iald dX1_isFair_15 SH_14 h.1 ?_
    replace h := h.2
    refine T_aload_n dX1_isFair_16 rfl ?_
    refine T_getR (r := 14) dX1_isFair_17 fX1_50 rfl SH_10 rfl ?_
    refine T_aload_n dX1_isFair_20 rfl ?_
    refine T_getR (r := 194) dX1_isFair_21 fX1_26 rfl SH_191 rfl ?_
    refine T_aload_n dX1_isFair_24 rfl ?_
    refine T_getR (r := 192) dX1_isFair_25 fX1_19 rfl SH_191 rfl ?_
    refine T_iload_n dX1_isFair_28 rfl ?_
    refine T_iald dX1_isFair_29 SH_192 h.1 ?_
    replace h := h.2
    refine T_iald dX1_isFair_30 SH_194 h.1 ?_
    replace h := h.2
    refine T_iald dX1_isFair_31 SH_14 h.1 ?_
    replace h := h.2
    refine U_icmp_eq (tgt := 37) dX1_isFair_32 (by decide) (fun hc => ?_) (fun hc => ?_)
    · replace h := h.1 hc
      refine U_iinc dX1_isFair_37 rfl (by decide) rfl h.1 ?_
      replace h := h.2
      refine T_goto (tgt := 2) dX1_isFair_40 (by decide) ?_
      exact T_drop h ⟨Or.inl rfl, Or.inl rfl, Or.inl rfl, trivial⟩
    · replace h := h.2 hc
      refine T_iconst dX1_isFair_35 (by decide) ?_
      exact T_zret dX1_isFair_36 rfl (by decide) (hQ _ h)

theorem W_X1_unite {G : GT} {d : Nat} (hd : 7 ≤ d) {x1 : Int} {x2 : Int} {x3 : Int}   {v : VT} {q : VT → Prop} {Q : Option Vl → List Sh → VT → Prop} (h : P_X1_unite x1 x2 x3 v q) (hQ : ∀ w, q w → Q none SH w) : n_T G d 0 0 mX1_unite 0 [vR 191, vI x1, vI x2, vI x3, vS 9, vS 9, vS 9] [] SH v Q := by
  unfold P_X1_unite at h
  refine T_iload_n dX1_unite_0 rfl ?_
  refine T_iload_n dX1_unite_1 rfl ?_
  refine U_min dX1_unite_2 lX1_66 (by omega) (Nat.le_of_ble_eq_true rfl) ?_
  refine T_istore dX1_unite_5 (by decide) rfl ?_
  refine T_iload_n dX1_unite_7 rfl ?_
  refine T_iload_n dX1_unite_8 rfl ?_
  refine U_max dX1_unite_9 lX1_72 (by omega) (Nat.le_of_ble_eq_true rfl) ?_
  refine T_istore dX1_unite_12 (by decide) rfl ?_
  refine T_iconst dX1_unite_14 (by decide) ?_
  refine T_istore dX1_unite_15 (by decide) rfl ?_
  refine T_drop (h (fun (i6 : Int) (v17 : VT) => n_T G d 0 0 mX1_unite 17 [vR 191, vI x1, vS 9, vS 9, vI (min x2 x3), vI (max x2 x3), vI i6] [] SH v17 Q) (fun i6 v17 h => ?_)) ⟨Or.inl rfl, Or.inl rfl, Or.inr rfl, Or.inr rfl, Or.inl rfl, Or.inl rfl, Or.inl rfl, trivial⟩
  refine T_iload dX1_unite_17 rfl ?_
  refine T_iload_n dX1_unite_19 rfl ?_
  refine U_icmp_ge (tgt := 50) dX1_unite_20 (by decide) (fun hc => ?_) (fun hc => ?_)
  · replace h := h.1 hc
    exact T_vret dX1_unite_50 rfl (hQ _ h)
  · replace h := h.2 hc
    refine T_aload_n dX1_unite_23 rfl ?_
    refine T_getR (r := 195) dX1_unite_24 fX1_29 rfl SH_191 rfl ?_
    refine T_iload dX1_unite_27 rfl ?_
    refine T_iald dX1_unite_29 SH_195 h.1 ?_
    replace h := h.2
    refine T_iload dX1_unite_30 rfl ?_
    refine U_icmp_ne (tgt := 44) dX1_unite_32 (by decide) (fun hc => ?_) (fun hc => ?_)
    · replace h := h.1 hc
      refine U_iinc dX1_unite_44 rfl (by decide) rfl h.1 ?_
      replace h := h.2
      refine T_goto (tgt := 17) dX1_unite_47 (by decide) ?_
      exact T_drop h ⟨Or.inl rfl, Or.inl rfl, Or.inr rfl, Or.inr rfl, Or.inl rfl, Or.inl rfl, Or.inl rfl, trivial⟩
    · replace h := h.2 hc
      refine T_aload_n dX1_unite_35 rfl ?_
      refine T_getR (r := 195) dX1_unite_36 fX1_29 rfl SH_191 rfl ?_
      refine T_iload dX1_unite_39 rfl ?_
      refine T_iload dX1_unite_41 rfl ?_
      refine U_iast dX1_unite_43 SH_195 h.1 (fun v43 ev43 => ?_)
      replace h := h.2 v43 ev43
      refine U_iinc dX1_unite_44 rfl (by decide) rfl h.1 ?_
      replace h := h.2
      refine T_goto (tgt := 17) dX1_unite_47 (by decide) ?_
      exact T_drop h ⟨Or.inl rfl, Or.inl rfl, Or.inr rfl, Or.inr rfl, Or.inl rfl, Or.inl rfl, Or.inl rfl, trivial⟩

theorem W_X1_gather {G : GT} {d : Nat} (hd : 8 ≤ d) {x2 : Int}   {v : VT} {q : VT → Prop} {Q : Option Vl → List Sh → VT → Prop} (h : P_X1_gather x2 v q) (hQ : ∀ w, q w → Q none SH w) : n_T G d 0 0 mX1_gather 0 [vR 191, vR 10, vI x2, vS 9] [] SH v Q := by
  unfold P_X1_gather at h
  refine T_iconst dX1_gather_0 (by decide) ?_
  refine T_istore_n dX1_gather_1 (by decide) rfl ?_
  refine n_cut (h (fun (v23 : VT) => n_T G d 0 0 mX1_gather 23 [vR 191, vR 10, vI x2, vS 9] [] SH v23 Q)) ?_ ?_
  · intro v23 h
    refine T_iconst dX1_gather_23 (by decide) ?_
    refine T_istore_n dX1_gather_24 (by decide) rfl ?_
    refine T_drop (h (fun (i3 : Int) (v25 : VT) => n_T G d 0 0 mX1_gather 25 [vR 191, vR 10, vI x2, vI i3] [] SH v25 Q) (fun i3 v25 h => ?_)) ⟨Or.inl rfl, Or.inl rfl, Or.inl rfl, Or.inl rfl, trivial⟩
    refine T_iload_n dX1_gather_25 rfl ?_
    refine T_aload_n dX1_gather_26 rfl ?_
    refine T_getI dX1_gather_27 fX1_35 rfl SH_10 ?_
    refine U_icmp_ge (tgt := 79) dX1_gather_30 (by decide) (fun hc => ?_) (fun hc => ?_)
    · replace h := h.1 hc
      exact T_vret dX1_gather_79 rfl (hQ _ h)
    · replace h := h.2 hc
      refine T_aload_n dX1_gather_33 rfl ?_
      refine T_getR (r := 192) dX1_gather_34 fX1_19 rfl SH_191 rfl ?_
      refine T_iload_n dX1_gather_37 rfl ?_
      refine T_iald dX1_gather_38 SH_192 h.1 ?_
      replace h := h.2
      refine T_iload_n dX1_gather_39 rfl ?_
      refine U_icmp_ne (tgt := 73) dX1_gather_40 (by decide) (fun hc => ?_) (fun hc => ?_)
      · replace h := h.1 hc
        refine U_iinc dX1_gather_73 rfl (by decide) rfl h.1 ?_
        replace h := h.2
        refine T_goto (tgt := 25) dX1_gather_76 (by decide) ?_
        exact T_drop h ⟨Or.inl rfl, Or.inl rfl, Or.inl rfl, Or.inl rfl, trivial⟩
      · replace h := h.2 hc
        refine T_aload_n dX1_gather_43 rfl ?_
        refine T_aload_n dX1_gather_44 rfl ?_
        refine T_getI dX1_gather_45 fX1_53 rfl SH_10 ?_
        refine T_aload_n dX1_gather_48 rfl ?_
        refine T_getR (r := 195) dX1_gather_49 fX1_29 rfl SH_191 rfl ?_
        refine T_aload_n dX1_gather_52 rfl ?_
        refine T_getR (r := 12) dX1_gather_53 fX1_56 rfl SH_10 rfl ?_
        refine T_iload_n dX1_gather_56 rfl ?_
        refine T_iald dX1_gather_57 SH_12 h.1 ?_
        replace h := h.2
        refine T_iald dX1_gather_58 SH_195 h.1 ?_
        replace h := h.2
        refine T_aload_n dX1_gather_59 rfl ?_
        refine T_getR (r := 195) dX1_gather_60 fX1_29 rfl SH_191 rfl ?_
        refine T_aload_n dX1_gather_63 rfl ?_
        refine T_getR (r := 13) dX1_gather_64 fX1_59 rfl SH_10 rfl ?_
        refine T_iload_n dX1_gather_67 rfl ?_
        refine T_iald dX1_gather_68 SH_13 h.1 ?_
        replace h := h.2
        refine T_iald dX1_gather_69 SH_195 h.1 ?_
        replace h := h.2
        refine U_callV (as := [vI (v25 10 0), vI (v25 195 (v25 12 i3.toNat).toNat), vI (v25 195 (v25 13 i3.toNat).toNat)]) (st := []) dX1_gather_70 kX1_unite lX1_62 SH_191 rfl rfl rfl rfl (Nat.le_of_ble_eq_true rfl) (Nat.le_of_ble_eq_true rfl) (by omega) ?_
        refine W_X1_unite (by omega)  h (fun v70 h => ?_)
        show n_T G d 0 0 mX1_gather 73 [vR 191, vR 10, vI x2, vI i3] [] SH v70 Q
        refine U_iinc dX1_gather_73 rfl (by decide) rfl h.1 ?_
        replace h := h.2
        refine T_goto (tgt := 25) dX1_gather_76 (by decide) ?_
        exact T_drop h ⟨Or.inl rfl, Or.inl rfl, Or.inl rfl, Or.inl rfl, trivial⟩
  · intro h
    refine T_drop (h (fun (i3_1 : Int) (v2 : VT) => n_T G d 0 0 mX1_gather 2 [vR 191, vR 10, vI x2, vI i3_1] [] SH v2 Q) (fun i3_1 v2 h => ?_)) ⟨Or.inl rfl, Or.inl rfl, Or.inl rfl, Or.inl rfl, trivial⟩
    refine T_iload_n dX1_gather_2 rfl ?_
    refine T_aload_n dX1_gather_3 rfl ?_
    refine T_getI dX1_gather_4 fX1_53 rfl SH_10 ?_
    refine U_icmp_ge (tgt := 23) dX1_gather_7 (by decide) (fun hc => ?_) (fun hc => ?_)
    · replace h := h.1 hc
      exact T_drop h ⟨Or.inl rfl, Or.inl rfl, Or.inl rfl, Or.inr rfl, trivial⟩
    · replace h := h.2 hc
      refine T_aload_n dX1_gather_10 rfl ?_
      refine T_getR (r := 195) dX1_gather_11 fX1_29 rfl SH_191 rfl ?_
      refine T_iload_n dX1_gather_14 rfl ?_
      refine T_iload_n dX1_gather_15 rfl ?_
      refine U_iast dX1_gather_16 SH_195 h.1 (fun v16 ev16 => ?_)
      replace h := h.2 v16 ev16
      refine U_iinc dX1_gather_17 rfl (by decide) rfl h.1 ?_
      replace h := h.2
      refine T_goto (tgt := 2) dX1_gather_20 (by decide) ?_
      exact T_drop h ⟨Or.inl rfl, Or.inl rfl, Or.inl rfl, Or.inl rfl, trivial⟩

theorem W_X2_measureFrom {G : GT} {d : Nat} (hd : 2 ≤ d) {x1 : Int}   {v : VT} {q : VT → Prop} {Q : Option Vl → List Sh → VT → Prop} (h : P_X2_measureFrom x1 v q) (hQ : ∀ w, q w → Q none SH w) : n_T G d 0 0 mX2_measureFrom 0 [vR 138, vI x1, vS 9, vS 9, vS 9, vS 9, vS 9, vS 9] [] SH v Q := by
  unfold P_X2_measureFrom at h
  refine T_aload_n dX2_measureFrom_0 rfl ?_
  refine T_getR (r := 140) dX2_measureFrom_1 fX2_28 rfl SH_138 rfl ?_
  refine T_iload_n dX2_measureFrom_4 rfl ?_
  have hw5 := row_141 h.1
  refine T_aald3 dX2_measureFrom_5 SH_140 h.1 (rowq_141 h.1) ?_
  replace h := h.2
  refine T_astore_n dX2_measureFrom_6 (by decide) rfl ?_
  refine T_iconst dX2_measureFrom_7 (by decide) ?_
  refine T_istore_n dX2_measureFrom_8 (by decide) rfl ?_
  refine n_cut (h (fun (v27 : VT) => n_T G d 0 0 mX2_measureFrom 27 [vR 138, vI x1, vR (141 + x1.toNat), vS 9, vS 9, vS 9, vS 9, vS 9] [] SH v27 Q)) ?_ ?_
  · intro v27 h
    refine T_iconst dX2_measureFrom_27 (by decide) ?_
    refine T_iload_n dX2_measureFrom_28 rfl ?_
    refine T_ishl dX2_measureFrom_29 ?_
    refine T_istore_n dX2_measureFrom_30 (by decide) rfl ?_
    refine T_iload_n dX2_measureFrom_31 rfl ?_
    refine T_istore dX2_measureFrom_32 (by decide) rfl ?_
    refine T_iconst dX2_measureFrom_34 (by decide) ?_
    refine T_istore dX2_measureFrom_35 (by decide) rfl ?_
    refine n_cut (h (fun (i3 : Int) (v119 : VT) => n_T G d 0 0 mX2_measureFrom 119 [vR 138, vS 9, vS 9, vI i3, vS 9, vS 9, vS 9, vS 9] [] SH v119 Q)) ?_ ?_
    · intro i3 v119 h
      refine T_aload_n dX2_measureFrom_119 rfl ?_
      refine T_aload_n dX2_measureFrom_120 rfl ?_
      refine T_getI dX2_measureFrom_121 fX2_15 rfl SH_138 ?_
      refine U_if_eq (tgt := 142) dX2_measureFrom_124 (by decide) (fun hc => ?_) (fun hc => ?_)
      · replace h := h.1 hc
        refine T_iconst dX2_measureFrom_142 (by decide) ?_
        refine U_putZ dX2_measureFrom_143 fX2_15 rfl rfl SH_138 (by decide) (fun v143 ev143 => ?_)
        replace h := h v143 ev143
        exact T_vret dX2_measureFrom_146 rfl (hQ _ h)
      · replace h := h.2 hc
        refine T_iload_n dX2_measureFrom_127 rfl ?_
        refine T_aload_n dX2_measureFrom_128 rfl ?_
        refine T_getI dX2_measureFrom_129 fX2_18 rfl SH_138 ?_
        refine U_callSN (as := [vI (v119 138 2)]) (st := [vI i3, vR 138]) dX2_measureFrom_132 kX10_allBits lX2_61 rfl rfl (Nat.le_of_ble_eq_true rfl) (Nat.le_of_ble_eq_true rfl) (by omega) ?_
        refine W_X10_allBits (by omega)  h (fun r132 h => ?_)
        show n_T G d 0 0 mX2_measureFrom 135 [vR 138, vS 9, vS 9, vI i3, vS 9, vS 9, vS 9, vS 9] [vI r132, vI i3, vR 138] SH v119 Q
        refine U_icmp_ne (tgt := 142) dX2_measureFrom_135 (by decide) (fun hc => ?_) (fun hc => ?_)
        · replace h := h.1 hc
          refine T_iconst dX2_measureFrom_142 (by decide) ?_
          refine U_putZ dX2_measureFrom_143 fX2_15 rfl rfl SH_138 (by decide) (fun v143_1 ev143_1 => ?_)
          replace h := h v143_1 ev143_1
          exact T_vret dX2_measureFrom_146 rfl (hQ _ h)
        · replace h := h.2 hc
          refine T_iconst dX2_measureFrom_138 (by decide) ?_
          refine T_goto (tgt := 143) dX2_measureFrom_139 (by decide) ?_
          refine U_putZ dX2_measureFrom_143 fX2_15 rfl rfl SH_138 (by decide) (fun v143_2 ev143_2 => ?_)
          replace h := h v143_2 ev143_2
          exact T_vret dX2_measureFrom_146 rfl (hQ _ h)
    · intro h
      refine T_drop (h (fun (i3_1 : Int) (i4 : Int) (i5 : Int) (v37 : VT) => n_T G d 0 0 mX2_measureFrom 37 [vR 138, vS 9, vR (141 + x1.toNat), vI i3_1, vI i4, vI i5, vS 9, vS 9] [] SH v37 Q) (fun i3_1 i4 i5 v37 h => ?_)) ⟨Or.inl rfl, Or.inr rfl, Or.inl rfl, Or.inl rfl, Or.inl rfl, Or.inl rfl, Or.inr rfl, Or.inr rfl, trivial⟩
      refine T_iload dX2_measureFrom_37 rfl ?_
      refine T_aload_n dX2_measureFrom_39 rfl ?_
      refine T_getI dX2_measureFrom_40 fX2_18 rfl SH_138 ?_
      refine U_icmp_ge (tgt := 119) dX2_measureFrom_43 (by decide) (fun hc => ?_) (fun hc => ?_)
      · replace h := h.1 hc
        exact T_drop h ⟨Or.inl rfl, Or.inr rfl, Or.inr rfl, Or.inl rfl, Or.inr rfl, Or.inr rfl, Or.inr rfl, Or.inr rfl, trivial⟩
      · replace h := h.2 hc
        refine T_iload dX2_measureFrom_46 rfl ?_
        refine U_if_eq (tgt := 119) dX2_measureFrom_48 (by decide) (fun hc => ?_) (fun hc => ?_)
        · replace h := h.1 hc
          exact T_drop h ⟨Or.inl rfl, Or.inr rfl, Or.inr rfl, Or.inl rfl, Or.inr rfl, Or.inr rfl, Or.inr rfl, Or.inr rfl, trivial⟩
        · replace h := h.2 hc
          refine T_iconst dX2_measureFrom_51 (by decide) ?_
          refine T_istore dX2_measureFrom_52 (by decide) rfl ?_
          refine T_iconst dX2_measureFrom_54 (by decide) ?_
          refine T_istore dX2_measureFrom_55 (by decide) rfl ?_
          refine n_cut (h (fun (i6 : Int) (v100 : VT) => n_T G d 0 0 mX2_measureFrom 100 [vR 138, vS 9, vR (141 + x1.toNat), vI i3_1, vS 9, vI i5, vI i6, vS 9] [] SH v100 Q)) ?_ ?_
          · intro i6 v100 h
            refine T_iload dX2_measureFrom_100 rfl ?_
            refine T_iload_n dX2_measureFrom_102 rfl ?_
            refine T_iconst dX2_measureFrom_103 (by decide) ?_
            refine T_ixor dX2_measureFrom_104 ?_
            refine T_iand dX2_measureFrom_105 ?_
            refine U_istore dX2_measureFrom_106 (by decide) rfl (fun l4 el4 => ?_)
            replace h := h l4 el4
            refine T_iload_n dX2_measureFrom_108 rfl ?_
            refine T_iload dX2_measureFrom_109 rfl ?_
            refine T_ior dX2_measureFrom_111 ?_
            refine T_istore_n dX2_measureFrom_112 (by decide) rfl ?_
            refine U_iinc dX2_measureFrom_113 rfl (by decide) rfl h.1 ?_
            replace h := h.2
            refine T_goto (tgt := 37) dX2_measureFrom_116 (by decide) ?_
            exact T_drop h ⟨Or.inl rfl, Or.inr rfl, Or.inl rfl, Or.inl rfl, Or.inl rfl, Or.inl rfl, Or.inr rfl, Or.inr rfl, trivial⟩
          · intro h
            refine T_drop (h (fun (i6_1 : Int) (i7 : Int) (v57 : VT) => n_T G d 0 0 mX2_measureFrom 57 [vR 138, vS 9, vR (141 + x1.toNat), vI i3_1, vI i4, vI i5, vI i6_1, vI i7] [] SH v57 Q) (fun i6_1 i7 v57 h => ?_)) ⟨Or.inl rfl, Or.inr rfl, Or.inl rfl, Or.inl rfl, Or.inl rfl, Or.inl rfl, Or.inl rfl, Or.inl rfl, trivial⟩
            refine T_iload dX2_measureFrom_57 rfl ?_
            refine T_aload_n dX2_measureFrom_59 rfl ?_
            refine T_getI dX2_measureFrom_60 fX2_18 rfl SH_138 ?_
            refine U_icmp_ge (tgt := 100) dX2_measureFrom_63 (by decide) (fun hc => ?_) (fun hc => ?_)
            · replace h := h.1 hc
              exact T_drop h ⟨Or.inl rfl, Or.inr rfl, Or.inl rfl, Or.inl rfl, Or.inr rfl, Or.inl rfl, Or.inl rfl, Or.inr rfl, trivial⟩
            · replace h := h.2 hc
              refine T_iload dX2_measureFrom_66 rfl ?_
              refine T_iload dX2_measureFrom_68 rfl ?_
              refine U_callSN (as := [vI i4, vI i7]) (st := []) dX2_measureFrom_70 kX10_hasBit lX2_57 rfl rfl (Nat.le_of_ble_eq_true rfl) (Nat.le_of_ble_eq_true rfl) (by omega) ?_
              refine W_X10_hasBit (by omega)  h (fun r70 h => ?_)
              show n_T G d 0 0 mX2_measureFrom 73 [vR 138, vS 9, vR (141 + x1.toNat), vI i3_1, vI i4, vI i5, vI i6_1, vI i7] [vI r70] SH v57 Q
              refine U_if_eq (tgt := 94) dX2_measureFrom_73 (by decide) (fun hc => ?_) (fun hc => ?_)
              · replace h := h.1 hc
                refine U_iinc dX2_measureFrom_94 rfl (by decide) rfl h.1 ?_
                replace h := h.2
                refine T_goto (tgt := 57) dX2_measureFrom_97 (by decide) ?_
                exact T_drop h ⟨Or.inl rfl, Or.inr rfl, Or.inl rfl, Or.inl rfl, Or.inl rfl, Or.inl rfl, Or.inl rfl, Or.inl rfl, trivial⟩
              · replace h := h.2 hc
                refine T_aload_n dX2_measureFrom_76 rfl ?_
                refine T_iload dX2_measureFrom_77 rfl ?_
                refine T_iload dX2_measureFrom_79 rfl ?_
                refine U_iast dX2_measureFrom_81 hw5 h.1 (fun v81 ev81 => ?_)
                replace h := h.2 v81 ev81
                refine T_iload dX2_measureFrom_82 rfl ?_
                refine T_aload_n dX2_measureFrom_84 rfl ?_
                refine T_getR (r := 139) dX2_measureFrom_85 fX2_22 rfl SH_138 rfl ?_
                refine T_iload dX2_measureFrom_88 rfl ?_
                refine T_iald dX2_measureFrom_90 SH_139 h.1 ?_
                replace h := h.2
                refine T_ior dX2_measureFrom_91 ?_
                refine U_istore dX2_measureFrom_92 (by decide) rfl (fun l6 el6 => ?_)
                replace h := h l6 el6
                refine U_iinc dX2_measureFrom_94 rfl (by decide) rfl h.1 ?_
                replace h := h.2
                refine T_goto (tgt := 57) dX2_measureFrom_97 (by decide) ?_
                exact T_drop h ⟨Or.inl rfl, Or.inr rfl, Or.inl rfl, Or.inl rfl, Or.inl rfl, Or.inl rfl, Or.inl rfl, Or.inl rfl, trivial⟩
  · intro h
    refine T_drop (h (fun (i3_2 : Int) (v9 : VT) => n_T G d 0 0 mX2_measureFrom 9 [vR 138, vI x1, vR (141 + x1.toNat), vI i3_2, vS 9, vS 9, vS 9, vS 9] [] SH v9 Q) (fun i3_2 v9 h => ?_)) ⟨Or.inl rfl, Or.inl rfl, Or.inl rfl, Or.inl rfl, Or.inr rfl, Or.inr rfl, Or.inr rfl, Or.inr rfl, trivial⟩
    refine T_iload_n dX2_measureFrom_9 rfl ?_
    refine T_aload_n dX2_measureFrom_10 rfl ?_
    refine T_getI dX2_measureFrom_11 fX2_18 rfl SH_138 ?_
    refine U_icmp_ge (tgt := 27) dX2_measureFrom_14 (by decide) (fun hc => ?_) (fun hc => ?_)
    · replace h := h.1 hc
      exact T_drop h ⟨Or.inl rfl, Or.inl rfl, Or.inl rfl, Or.inr rfl, Or.inr rfl, Or.inr rfl, Or.inr rfl, Or.inr rfl, trivial⟩
    · replace h := h.2 hc
      refine T_aload_n dX2_measureFrom_17 rfl ?_
      refine T_iload_n dX2_measureFrom_18 rfl ?_
      refine T_iconst dX2_measureFrom_19 (by decide) ?_
      refine U_iast dX2_measureFrom_20 hw5 h.1 (fun v20 ev20 => ?_)
      replace h := h.2 v20 ev20
      refine U_iinc dX2_measureFrom_21 rfl (by decide) rfl h.1 ?_
      replace h := h.2
      refine T_goto (tgt := 9) dX2_measureFrom_24 (by decide) ?_
      exact T_drop h ⟨Or.inl rfl, Or.inl rfl, Or.inl rfl, Or.inl rfl, Or.inr rfl, Or.inr rfl, Or.inr rfl, Or.inr rfl, trivial⟩

theorem W_X2_measure {G : GT} {d : Nat} (hd : 3 ≤ d)    {v : VT} {q : VT → Prop} {Q : Option Vl → List Sh → VT → Prop} (h : P_X2_measure  v q) (hQ : ∀ w, q w → Q none SH w) : n_T G d 0 0 mX2_measure 0 [vR 138, vR 10, vS 9] [] SH v Q := by
  unfold P_X2_measure at h
  refine T_aload_n dX2_measure_0 rfl ?_
  refine T_aload_n dX2_measure_1 rfl ?_
  refine T_getI dX2_measure_2 fX2_41 rfl SH_10 ?_
  refine U_putI dX2_measure_5 fX2_18 rfl rfl SH_138 (fun v5 ev5 => ?_)
  replace h := h v5 ev5
  refine T_aload_n dX2_measure_8 rfl ?_
  refine T_iconst dX2_measure_9 (by decide) ?_
  refine U_putZ dX2_measure_10 fX2_15 rfl rfl SH_138 (by decide) (fun v10 ev10 => ?_)
  replace h := h v10 ev10
  refine T_aload_n dX2_measure_13 rfl ?_
  refine T_iconst dX2_measure_14 (by decide) ?_
  refine U_putZ dX2_measure_15 fX2_34 rfl rfl SH_138 (by decide) (fun v15 ev15 => ?_)
  replace h := h v15 ev15
  refine T_iconst dX2_measure_18 (by decide) ?_
  refine T_istore_n dX2_measure_19 (by decide) rfl ?_
  refine n_cut (h (fun (v41 : VT) => n_T G d 0 0 mX2_measure 41 [vR 138, vR 10, vS 9] [] SH v41 Q)) ?_ ?_
  · intro v41 h
    refine T_iconst dX2_measure_41 (by decide) ?_
    refine T_istore_n dX2_measure_42 (by decide) rfl ?_
    refine n_cut (h (fun (v101 : VT) => n_T G d 0 0 mX2_measure 101 [vR 138, vS 9, vS 9] [] SH v101 Q)) ?_ ?_
    · intro v101 h
      refine T_iconst dX2_measure_101 (by decide) ?_
      refine T_istore_n dX2_measure_102 (by decide) rfl ?_
      refine T_drop (h (fun (i2 : Int) (v103 : VT) => n_T G d 0 0 mX2_measure 103 [vR 138, vS 9, vI i2] [] SH v103 Q) (fun i2 v103 h => ?_)) ⟨Or.inl rfl, Or.inr rfl, Or.inl rfl, trivial⟩
      refine T_iload_n dX2_measure_103 rfl ?_
      refine T_aload_n dX2_measure_104 rfl ?_
      refine T_getI dX2_measure_105 fX2_18 rfl SH_138 ?_
      refine U_icmp_ge (tgt := 122) dX2_measure_108 (by decide) (fun hc => ?_) (fun hc => ?_)
      · replace h := h.1 hc
        refine T_aload_n dX2_measure_122 rfl ?_
        refine T_iconst dX2_measure_123 (by decide) ?_
        refine U_putZ dX2_measure_124 fX2_9 rfl rfl SH_138 (by decide) (fun v124 ev124 => ?_)
        replace h := h v124 ev124
        exact T_vret dX2_measure_127 rfl (hQ _ h)
      · replace h := h.2 hc
        refine T_aload_n dX2_measure_111 rfl ?_
        refine T_iload_n dX2_measure_112 rfl ?_
        refine U_callV (as := [vI i2]) (st := []) dX2_measure_113 kX2_measureFrom lX2_53 SH_138 rfl rfl rfl rfl (Nat.le_of_ble_eq_true rfl) (Nat.le_of_ble_eq_true rfl) (by omega) ?_
        refine W_X2_measureFrom (by omega)  h (fun v113 h => ?_)
        show n_T G d 0 0 mX2_measure 116 [vR 138, vS 9, vI i2] [] SH v113 Q
        refine U_iinc dX2_measure_116 rfl (by decide) rfl h.1 ?_
        replace h := h.2
        refine T_goto (tgt := 103) dX2_measure_119 (by decide) ?_
        exact T_drop h ⟨Or.inl rfl, Or.inr rfl, Or.inl rfl, trivial⟩
    · intro h
      refine T_drop (h (fun (i2_1 : Int) (v43 : VT) => n_T G d 0 0 mX2_measure 43 [vR 138, vR 10, vI i2_1] [] SH v43 Q) (fun i2_1 v43 h => ?_)) ⟨Or.inl rfl, Or.inl rfl, Or.inl rfl, trivial⟩
      refine T_iload_n dX2_measure_43 rfl ?_
      refine T_aload_n dX2_measure_44 rfl ?_
      refine T_getI dX2_measure_45 fX2_44 rfl SH_10 ?_
      refine U_icmp_ge (tgt := 101) dX2_measure_48 (by decide) (fun hc => ?_) (fun hc => ?_)
      · replace h := h.1 hc
        exact T_drop h ⟨Or.inl rfl, Or.inr rfl, Or.inr rfl, trivial⟩
      · replace h := h.2 hc
        refine T_aload_n dX2_measure_51 rfl ?_
        refine T_getR (r := 139) dX2_measure_52 fX2_22 rfl SH_138 rfl ?_
        refine T_aload_n dX2_measure_55 rfl ?_
        refine T_getR (r := 12) dX2_measure_56 fX2_47 rfl SH_10 rfl ?_
        refine T_iload_n dX2_measure_59 rfl ?_
        refine T_iald dX2_measure_60 SH_12 h.1 ?_
        replace h := h.2
        refine T_dup2 dX2_measure_61 rfl rfl ?_
        refine T_iald dX2_measure_62 SH_139 h.1 ?_
        replace h := h.2
        refine T_iconst dX2_measure_63 (by decide) ?_
        refine T_aload_n dX2_measure_64 rfl ?_
        refine T_getR (r := 13) dX2_measure_65 fX2_50 rfl SH_10 rfl ?_
        refine T_iload_n dX2_measure_68 rfl ?_
        refine T_iald dX2_measure_69 SH_13 h.1 ?_
        replace h := h.2
        refine T_ishl dX2_measure_70 ?_
        refine T_ior dX2_measure_71 ?_
        refine U_iast dX2_measure_72 SH_139 h.1 (fun v72 ev72 => ?_)
        replace h := h.2 v72 ev72
        refine T_aload_n dX2_measure_73 rfl ?_
        refine T_getR (r := 139) dX2_measure_74 fX2_22 rfl SH_138 rfl ?_
        refine T_aload_n dX2_measure_77 rfl ?_
        refine T_getR (r := 13) dX2_measure_78 fX2_50 rfl SH_10 rfl ?_
        refine T_iload_n dX2_measure_81 rfl ?_
        refine T_iald dX2_measure_82 SH_13 h.1 ?_
        replace h := h.2
        refine T_dup2 dX2_measure_83 rfl rfl ?_
        refine T_iald dX2_measure_84 SH_139 h.1 ?_
        replace h := h.2
        refine T_iconst dX2_measure_85 (by decide) ?_
        refine T_aload_n dX2_measure_86 rfl ?_
        refine T_getR (r := 12) dX2_measure_87 fX2_47 rfl SH_10 rfl ?_
        refine T_iload_n dX2_measure_90 rfl ?_
        refine T_iald dX2_measure_91 SH_12 h.1 ?_
        replace h := h.2
        refine T_ishl dX2_measure_92 ?_
        refine T_ior dX2_measure_93 ?_
        refine U_iast dX2_measure_94 SH_139 h.1 (fun v94 ev94 => ?_)
        replace h := h.2 v94 ev94
        refine U_iinc dX2_measure_95 rfl (by decide) rfl h.1 ?_
        replace h := h.2
        refine T_goto (tgt := 43) dX2_measure_98 (by decide) ?_
        exact T_drop h ⟨Or.inl rfl, Or.inl rfl, Or.inl rfl, trivial⟩
  · intro h
    refine T_drop (h (fun (i2_2 : Int) (v20 : VT) => n_T G d 0 0 mX2_measure 20 [vR 138, vR 10, vI i2_2] [] SH v20 Q) (fun i2_2 v20 h => ?_)) ⟨Or.inl rfl, Or.inl rfl, Or.inl rfl, trivial⟩
    refine T_iload_n dX2_measure_20 rfl ?_
    refine T_aload_n dX2_measure_21 rfl ?_
    refine T_getI dX2_measure_22 fX2_18 rfl SH_138 ?_
    refine U_icmp_ge (tgt := 41) dX2_measure_25 (by decide) (fun hc => ?_) (fun hc => ?_)
    · replace h := h.1 hc
      exact T_drop h ⟨Or.inl rfl, Or.inl rfl, Or.inr rfl, trivial⟩
    · replace h := h.2 hc
      refine T_aload_n dX2_measure_28 rfl ?_
      refine T_getR (r := 139) dX2_measure_29 fX2_22 rfl SH_138 rfl ?_
      refine T_iload_n dX2_measure_32 rfl ?_
      refine T_iconst dX2_measure_33 (by decide) ?_
      refine U_iast dX2_measure_34 SH_139 h.1 (fun v34 ev34 => ?_)
      replace h := h.2 v34 ev34
      refine U_iinc dX2_measure_35 rfl (by decide) rfl h.1 ?_
      replace h := h.2
      refine T_goto (tgt := 20) dX2_measure_38 (by decide) ?_
      exact T_drop h ⟨Or.inl rfl, Or.inl rfl, Or.inl rfl, trivial⟩

theorem W_X2_countInto {G : GT} {d : Nat} (hd : 7 ≤ d) {x1 : Int} {x2 : Int}   {v : VT} {q : Int → Prop} {Q : Option Vl → List Sh → VT → Prop} (h : P_X2_countInto x1 x2 v q) (hQ : ∀ r, q r → Q (some (vJ r)) SH v) : n_T G d 0 0 mX2_countInto 0 [vR 138, vI x1, vI x2, vS 9, vS 9, vS 9] [] SH v Q := by
  unfold P_X2_countInto at h
  refine T_lconst dX2_countInto_0 ?_
  refine T_lstore_n dX2_countInto_1 (by decide) rfl ?_
  refine T_iconst dX2_countInto_2 (by decide) ?_
  refine T_istore dX2_countInto_3 (by decide) rfl ?_
  refine T_drop (h (fun (i3 : Int) (i5 : Int) => n_T G d 0 0 mX2_countInto 5 [vR 138, vI x1, vI x2, vJ i3, vS 9, vI i5] [] SH v Q) (fun i3 i5 h => ?_)) ⟨Or.inl rfl, Or.inl rfl, Or.inl rfl, Or.inl rfl, Or.inr rfl, Or.inl rfl, trivial⟩
  refine T_iload dX2_countInto_5 rfl ?_
  refine T_aload_n dX2_countInto_7 rfl ?_
  refine T_getI dX2_countInto_8 fX2_18 rfl SH_138 ?_
  refine U_icmp_ge (tgt := 66) dX2_countInto_11 (by decide) (fun hc => ?_) (fun hc => ?_)
  · replace h := h.1 hc
    refine T_lload_n dX2_countInto_66 rfl ?_
    refine T_ldc2 (n := 1000000000) dX2_countInto_67 cX2_69 (by unfold r64; omega) ?_
    refine U_minL dX2_countInto_70 lX2_71 (by omega) (Nat.le_of_ble_eq_true rfl) ?_
    exact T_lret dX2_countInto_73 rfl (hQ _ h)
  · replace h := h.2 hc
    refine T_aload_n dX2_countInto_14 rfl ?_
    refine T_getR (r := 139) dX2_countInto_15 fX2_22 rfl SH_138 rfl ?_
    refine T_iload_n dX2_countInto_18 rfl ?_
    refine T_iald dX2_countInto_19 SH_139 h.1 ?_
    replace h := h.2
    refine T_iload dX2_countInto_20 rfl ?_
    refine U_callSN (as := [vI (v 139 x2.toNat), vI i5]) (st := []) dX2_countInto_22 kX10_hasBit lX2_57 rfl rfl (Nat.le_of_ble_eq_true rfl) (Nat.le_of_ble_eq_true rfl) (by omega) ?_
    refine W_X10_hasBit (by omega)  h (fun r22 h => ?_)
    show n_T G d 0 0 mX2_countInto 25 [vR 138, vI x1, vI x2, vJ i3, vS 9, vI i5] [vI r22] SH v Q
    refine U_if_eq (tgt := 60) dX2_countInto_25 (by decide) (fun hc => ?_) (fun hc => ?_)
    · replace h := h.1 hc
      refine U_iinc dX2_countInto_60 rfl (by decide) rfl h.1 ?_
      replace h := h.2
      refine T_goto (tgt := 5) dX2_countInto_63 (by decide) ?_
      exact T_drop h ⟨Or.inl rfl, Or.inl rfl, Or.inl rfl, Or.inl rfl, Or.inr rfl, Or.inl rfl, trivial⟩
    · replace h := h.2 hc
      refine T_aload_n dX2_countInto_28 rfl ?_
      refine T_getR (r := 140) dX2_countInto_29 fX2_28 rfl SH_138 rfl ?_
      refine T_iload_n dX2_countInto_32 rfl ?_
      have hw33 := row_141 h.1
      refine T_aald3 dX2_countInto_33 SH_140 h.1 (rowq_141 h.1) ?_
      replace h := h.2
      refine T_iload dX2_countInto_34 rfl ?_
      refine T_iald dX2_countInto_36 hw33 h.1 ?_
      replace h := h.2
      refine T_aload_n dX2_countInto_37 rfl ?_
      refine T_getR (r := 140) dX2_countInto_38 fX2_28 rfl SH_138 rfl ?_
      refine T_iload_n dX2_countInto_41 rfl ?_
      have hw42 := row_141 h.1
      refine T_aald3 dX2_countInto_42 SH_140 h.1 (rowq_141 h.1) ?_
      replace h := h.2
      refine T_iload_n dX2_countInto_43 rfl ?_
      refine T_iald dX2_countInto_44 hw42 h.1 ?_
      replace h := h.2
      refine T_iconst dX2_countInto_45 (by decide) ?_
      refine U_isub dX2_countInto_46 h.1 ?_
      replace h := h.2
      refine U_icmp_ne (tgt := 60) dX2_countInto_47 (by decide) (fun hc => ?_) (fun hc => ?_)
      · replace h := h.1 hc
        refine U_iinc dX2_countInto_60 rfl (by decide) rfl h.1 ?_
        replace h := h.2
        refine T_goto (tgt := 5) dX2_countInto_63 (by decide) ?_
        exact T_drop h ⟨Or.inl rfl, Or.inl rfl, Or.inl rfl, Or.inl rfl, Or.inr rfl, Or.inl rfl, trivial⟩
      · replace h := h.2 hc
        refine T_lload_n dX2_countInto_50 rfl ?_
        refine T_aload_n dX2_countInto_51 rfl ?_
        refine T_getR (r := 190) dX2_countInto_52 fX2_37 rfl SH_138 rfl ?_
        refine T_iload dX2_countInto_55 rfl ?_
        refine T_lald dX2_countInto_57 SH_190 h.1 ?_
        replace h := h.2
        refine U_ladd dX2_countInto_58 h.1 ?_
        replace h := h.2
        refine U_lstore_n dX2_countInto_59 (by decide) rfl (fun l3 el3 => ?_)
        replace h := h l3 el3
        refine U_iinc dX2_countInto_60 rfl (by decide) rfl h.1 ?_
        replace h := h.2
        refine T_goto (tgt := 5) dX2_countInto_63 (by decide) ?_
        exact T_drop h ⟨Or.inl rfl, Or.inl rfl, Or.inl rfl, Or.inl rfl, Or.inr rfl, Or.inl rfl, trivial⟩

theorem W_X2_countWays {G : GT} {d : Nat} (hd : 8 ≤ d) {x1 : Int} {x2 : Int}   {v : VT} {q : Int → VT → Prop} {Q : Option Vl → List Sh → VT → Prop} (h : P_X2_countWays x1 x2 v q) (hQ : ∀ r w, q r w → Q (some (vI r)) SH w) : n_T G d 0 0 mX2_countWays 0 [vR 138, vI x1, vI x2, vS 9, vS 9] [] SH v Q := by
  unfold P_X2_countWays at h
  refine T_aload_n dX2_countWays_0 rfl ?_
  refine T_getR (r := 140) dX2_countWays_1 fX2_28 rfl SH_138 rfl ?_
  refine T_iload_n dX2_countWays_4 rfl ?_
  have hw5 := row_141 h.1
  refine T_aald3 dX2_countWays_5 SH_140 h.1 (rowq_141 h.1) ?_
  replace h := h.2
  refine T_iload_n dX2_countWays_6 rfl ?_
  refine T_iald dX2_countWays_7 hw5 h.1 ?_
  replace h := h.2
  refine T_iconst dX2_countWays_8 (by decide) ?_
  refine U_icmp_ne (tgt := 14) dX2_countWays_9 (by decide) (fun hc => ?_) (fun hc => ?_)
  · replace h := h.1 hc
    refine T_iconst dX2_countWays_14 (by decide) ?_
    refine T_istore_n dX2_countWays_15 (by decide) rfl ?_
    refine T_drop (h (fun (i3 : Int) (v16 : VT) => n_T G d 0 0 mX2_countWays 16 [vR 138, vI x1, vI x2, vI i3, vS 9] [] SH v16 Q) (fun i3 v16 h => ?_)) ⟨Or.inl rfl, Or.inl rfl, Or.inl rfl, Or.inl rfl, Or.inr rfl, trivial⟩
    refine T_iload_n dX2_countWays_16 rfl ?_
    refine T_aload_n dX2_countWays_17 rfl ?_
    refine T_getR (r := 140) dX2_countWays_18 fX2_28 rfl SH_138 rfl ?_
    refine T_iload_n dX2_countWays_21 rfl ?_
    have hw22 := row_141 h.1
    refine T_aald3 dX2_countWays_22 SH_140 h.1 (rowq_141 h.1) ?_
    replace h := h.2
    refine T_iload_n dX2_countWays_23 rfl ?_
    refine T_iald dX2_countWays_24 hw22 h.1 ?_
    replace h := h.2
    refine U_icmp_gt (tgt := 87) dX2_countWays_25 (by decide) (fun hc => ?_) (fun hc => ?_)
    · replace h := h.1 hc
      refine T_aload_n dX2_countWays_87 rfl ?_
      refine T_getR (r := 190) dX2_countWays_88 fX2_37 rfl SH_138 rfl ?_
      refine T_iload_n dX2_countWays_91 rfl ?_
      refine T_lald dX2_countWays_92 SH_190 h.1 ?_
      replace h := h.2
      refine U_l2i dX2_countWays_93 h.1 ?_
      replace h := h.2
      exact T_iret dX2_countWays_94 rfl (hQ _ _ h)
    · replace h := h.2 hc
      refine T_iconst dX2_countWays_28 (by decide) ?_
      refine T_istore dX2_countWays_29 (by decide) rfl ?_
      refine T_drop (h (fun (i4 : Int) (v31 : VT) => n_T G d 0 0 mX2_countWays 31 [vR 138, vI x1, vI x2, vI i3, vI i4] [] SH v31 Q) (fun i4 v31 h => ?_)) ⟨Or.inl rfl, Or.inl rfl, Or.inl rfl, Or.inl rfl, Or.inl rfl, trivial⟩
      refine T_iload dX2_countWays_31 rfl ?_
      refine T_aload_n dX2_countWays_33 rfl ?_
      refine T_getI dX2_countWays_34 fX2_18 rfl SH_138 ?_
      refine U_icmp_ge (tgt := 81) dX2_countWays_37 (by decide) (fun hc => ?_) (fun hc => ?_)
      · replace h := h.1 hc
        refine U_iinc dX2_countWays_81 rfl (by decide) rfl h.1 ?_
        replace h := h.2
        refine T_goto (tgt := 16) dX2_countWays_84 (by decide) ?_
        exact T_drop h ⟨Or.inl rfl, Or.inl rfl, Or.inl rfl, Or.inl rfl, Or.inr rfl, trivial⟩
      · replace h := h.2 hc
        refine T_aload_n dX2_countWays_40 rfl ?_
        refine T_getR (r := 140) dX2_countWays_41 fX2_28 rfl SH_138 rfl ?_
        refine T_iload_n dX2_countWays_44 rfl ?_
        have hw45 := row_141 h.1
        refine T_aald3 dX2_countWays_45 SH_140 h.1 (rowq_141 h.1) ?_
        replace h := h.2
        refine T_iload dX2_countWays_46 rfl ?_
        refine T_iald dX2_countWays_48 hw45 h.1 ?_
        replace h := h.2
        refine T_iload_n dX2_countWays_49 rfl ?_
        refine U_icmp_ne (tgt := 75) dX2_countWays_50 (by decide) (fun hc => ?_) (fun hc => ?_)
        · replace h := h.1 hc
          refine U_iinc dX2_countWays_75 rfl (by decide) rfl h.1 ?_
          replace h := h.2
          refine T_goto (tgt := 31) dX2_countWays_78 (by decide) ?_
          exact T_drop h ⟨Or.inl rfl, Or.inl rfl, Or.inl rfl, Or.inl rfl, Or.inl rfl, trivial⟩
        · replace h := h.2 hc
          refine T_aload_n dX2_countWays_53 rfl ?_
          refine T_getR (r := 190) dX2_countWays_54 fX2_37 rfl SH_138 rfl ?_
          refine T_iload dX2_countWays_57 rfl ?_
          refine T_iload_n dX2_countWays_59 rfl ?_
          refine U_if_ne (tgt := 67) dX2_countWays_60 (by decide) (fun hc => ?_) (fun hc => ?_)
          · replace h := h.1 hc
            refine T_aload_n dX2_countWays_67 rfl ?_
            refine T_iload_n dX2_countWays_68 rfl ?_
            refine T_iload dX2_countWays_69 rfl ?_
            refine U_callV (as := [vI x1, vI i4]) (st := [vI i4, vR 190]) dX2_countWays_71 kX2_countInto lX2_65 SH_138 rfl rfl rfl rfl (Nat.le_of_ble_eq_true rfl) (Nat.le_of_ble_eq_true rfl) (by omega) ?_
            refine W_X2_countInto (by omega)  h (fun r71 h => ?_)
            show n_T G d 0 0 mX2_countWays 74 [vR 138, vI x1, vI x2, vI i3, vI i4] [vJ r71, vI i4, vR 190] SH v31 Q
            refine U_last dX2_countWays_74 SH_190 h.1 (fun v74 ev74 => ?_)
            replace h := h.2 v74 ev74
            refine U_iinc dX2_countWays_75 rfl (by decide) rfl h.1 ?_
            replace h := h.2
            refine T_goto (tgt := 31) dX2_countWays_78 (by decide) ?_
            exact T_drop h ⟨Or.inl rfl, Or.inl rfl, Or.inl rfl, Or.inl rfl, Or.inl rfl, trivial⟩
          · replace h := h.2 hc
            refine T_lconst dX2_countWays_63 ?_
            refine T_goto (tgt := 74) dX2_countWays_64 (by decide) ?_
            refine U_last dX2_countWays_74 SH_190 h.1 (fun v74_1 ev74_1 => ?_)
            replace h := h.2 v74_1 ev74_1
            refine U_iinc dX2_countWays_75 rfl (by decide) rfl h.1 ?_
            replace h := h.2
            refine T_goto (tgt := 31) dX2_countWays_78 (by decide) ?_
            exact T_drop h ⟨Or.inl rfl, Or.inl rfl, Or.inl rfl, Or.inl rfl, Or.inl rfl, trivial⟩
  · replace h := h.2 hc
    refine T_iconst dX2_countWays_12 (by decide) ?_
    exact T_iret dX2_countWays_13 rfl (hQ _ _ h)

theorem W_X2_findAmid {G : GT} {d : Nat} (hd : 1 ≤ d) {x1 : Int} {x2 : Int}   {v : VT} {q : Int → Prop} {Q : Option Vl → List Sh → VT → Prop} (h : P_X2_findAmid x1 x2 v q) (hQ : ∀ r, q r → Q (some (vI r)) SH v) : n_T G d 0 0 mX2_findAmid 0 [vR 138, vI x1, vI x2, vS 9, vS 9, vS 9] [] SH v Q := by
  unfold P_X2_findAmid at h
  refine T_aload_n dX2_findAmid_0 rfl ?_
  refine T_getR (r := 140) dX2_findAmid_1 fX2_28 rfl SH_138 rfl ?_
  refine T_iload_n dX2_findAmid_4 rfl ?_
  have hw5 := row_141 h.1
  refine T_aald3 dX2_findAmid_5 SH_140 h.1 (rowq_141 h.1) ?_
  replace h := h.2
  refine T_iload_n dX2_findAmid_6 rfl ?_
  refine T_iald dX2_findAmid_7 hw5 h.1 ?_
  replace h := h.2
  refine U_istore_n dX2_findAmid_8 (by decide) rfl (fun l3 el3 => ?_)
  replace h := h l3 el3
  refine T_iconst dX2_findAmid_9 (by decide) ?_
  refine T_istore dX2_findAmid_10 (by decide) rfl ?_
  refine T_iconst dX2_findAmid_12 (by decide) ?_
  refine T_istore dX2_findAmid_13 (by decide) rfl ?_
  refine T_drop (h (fun (i4 : Int) (i5 : Int) => n_T G d 0 0 mX2_findAmid 15 [vR 138, vI x1, vI x2, vI l3, vI i4, vI i5] [] SH v Q) (fun i4 i5 h => ?_)) ⟨Or.inl rfl, Or.inl rfl, Or.inl rfl, Or.inl rfl, Or.inl rfl, Or.inl rfl, trivial⟩
  refine T_iload_n dX2_findAmid_15 rfl ?_
  refine T_iconst dX2_findAmid_16 (by decide) ?_
  refine U_icmp_eq (tgt := 80) dX2_findAmid_17 (by decide) (fun hc => ?_) (fun hc => ?_)
  · replace h := h.1 hc
    refine T_iload dX2_findAmid_80 rfl ?_
    exact T_iret dX2_findAmid_82 rfl (hQ _ h)
  · replace h := h.2 hc
    refine T_iload dX2_findAmid_20 rfl ?_
    refine T_aload_n dX2_findAmid_22 rfl ?_
    refine T_getI dX2_findAmid_23 fX2_18 rfl SH_138 ?_
    refine U_icmp_ge (tgt := 80) dX2_findAmid_26 (by decide) (fun hc => ?_) (fun hc => ?_)
    · replace h := h.1 hc
      refine T_iload dX2_findAmid_80 rfl ?_
      exact T_iret dX2_findAmid_82 rfl (hQ _ h)
    · replace h := h.2 hc
      refine T_aload_n dX2_findAmid_29 rfl ?_
      refine T_getR (r := 140) dX2_findAmid_30 fX2_28 rfl SH_138 rfl ?_
      refine T_iload_n dX2_findAmid_33 rfl ?_
      have hw34 := row_141 h.1
      refine T_aald3 dX2_findAmid_34 SH_140 h.1 (rowq_141 h.1) ?_
      replace h := h.2
      refine T_iload dX2_findAmid_35 rfl ?_
      refine T_iald dX2_findAmid_37 hw34 h.1 ?_
      replace h := h.2
      refine T_iconst dX2_findAmid_38 (by decide) ?_
      refine U_icmp_eq (tgt := 74) dX2_findAmid_39 (by decide) (fun hc => ?_) (fun hc => ?_)
      · replace h := h.1 hc
        refine U_iinc dX2_findAmid_74 rfl (by decide) rfl h.1 ?_
        replace h := h.2
        refine T_goto (tgt := 15) dX2_findAmid_77 (by decide) ?_
        exact T_drop h ⟨Or.inl rfl, Or.inl rfl, Or.inl rfl, Or.inl rfl, Or.inl rfl, Or.inl rfl, trivial⟩
      · replace h := h.2 hc
        refine T_aload_n dX2_findAmid_42 rfl ?_
        refine T_getR (r := 140) dX2_findAmid_43 fX2_28 rfl SH_138 rfl ?_
        refine T_iload_n dX2_findAmid_46 rfl ?_
        have hw47 := row_141 h.1
        refine T_aald3 dX2_findAmid_47 SH_140 h.1 (rowq_141 h.1) ?_
        replace h := h.2
        refine T_iload dX2_findAmid_48 rfl ?_
        refine T_iald dX2_findAmid_50 hw47 h.1 ?_
        replace h := h.2
        refine T_aload_n dX2_findAmid_51 rfl ?_
        refine T_getR (r := 140) dX2_findAmid_52 fX2_28 rfl SH_138 rfl ?_
        refine T_iload_n dX2_findAmid_55 rfl ?_
        have hw56 := row_141 h.1
        refine T_aald3 dX2_findAmid_56 SH_140 h.1 (rowq_141 h.1) ?_
        replace h := h.2
        refine T_iload dX2_findAmid_57 rfl ?_
        refine T_iald dX2_findAmid_59 hw56 h.1 ?_
        replace h := h.2
        refine U_iadd dX2_findAmid_60 h.1 ?_
        replace h := h.2
        refine T_iload_n dX2_findAmid_61 rfl ?_
        refine U_icmp_ne (tgt := 74) dX2_findAmid_62 (by decide) (fun hc => ?_) (fun hc => ?_)
        · replace h := h.1 hc
          refine U_iinc dX2_findAmid_74 rfl (by decide) rfl h.1 ?_
          replace h := h.2
          refine T_goto (tgt := 15) dX2_findAmid_77 (by decide) ?_
          exact T_drop h ⟨Or.inl rfl, Or.inl rfl, Or.inl rfl, Or.inl rfl, Or.inl rfl, Or.inl rfl, trivial⟩
        · replace h := h.2 hc
          refine T_iload dX2_findAmid_65 rfl ?_
          refine T_iconst dX2_findAmid_67 (by decide) ?_
          refine T_iload dX2_findAmid_68 rfl ?_
          refine T_ishl dX2_findAmid_70 ?_
          refine T_ior dX2_findAmid_71 ?_
          refine U_istore dX2_findAmid_72 (by decide) rfl (fun l4 el4 => ?_)
          replace h := h l4 el4
          refine U_iinc dX2_findAmid_74 rfl (by decide) rfl h.1 ?_
          replace h := h.2
          refine T_goto (tgt := 15) dX2_findAmid_77 (by decide) ?_
          exact T_drop h ⟨Or.inl rfl, Or.inl rfl, Or.inl rfl, Or.inl rfl, Or.inl rfl, Or.inl rfl, trivial⟩

theorem W_X2_amid {G : GT} {d : Nat} (hd : 2 ≤ d) {x1 : Int} {x2 : Int}   {v : VT} {q : Int → VT → Prop} {Q : Option Vl → List Sh → VT → Prop} (h : P_X2_amid x1 x2 v q) (hQ : ∀ r w, q r w → Q (some (vI r)) SH w) : n_T G d 0 0 mX2_amid 0 [vR 138, vI x1, vI x2, vS 9, vS 9] [] SH v Q := by
  unfold P_X2_amid at h
  refine T_aload_n dX2_amid_0 rfl ?_
  refine T_getI dX2_amid_1 fX2_34 rfl SH_138 ?_
  refine U_if_ne (tgt := 80) dX2_amid_4 (by decide) (fun hc => ?_) (fun hc => ?_)
  · replace h := h.1 hc
    refine T_aload_n dX2_amid_80 rfl ?_
    refine T_getR (r := 165) dX2_amid_81 fX2_31 rfl SH_138 rfl ?_
    refine T_iload_n dX2_amid_84 rfl ?_
    have hw85 := row_166 h.1
    refine T_aald3 dX2_amid_85 SH_165 h.1 (rowq_166 h.1) ?_
    replace h := h.2
    refine T_iload_n dX2_amid_86 rfl ?_
    refine T_iald dX2_amid_87 hw85 h.1 ?_
    replace h := h.2
    exact T_iret dX2_amid_88 rfl (hQ _ _ h)
  · replace h := h.2 hc
    refine T_iconst dX2_amid_7 (by decide) ?_
    refine T_istore_n dX2_amid_8 (by decide) rfl ?_
    refine n_cut (h (fun (v75 : VT) => n_T G d 0 0 mX2_amid 75 [vR 138, vI x1, vI x2, vS 9, vS 9] [] SH v75 Q)) ?_ ?_
    · intro v75 h
      refine T_aload_n dX2_amid_75 rfl ?_
      refine T_iconst dX2_amid_76 (by decide) ?_
      refine U_putZ dX2_amid_77 fX2_34 rfl rfl SH_138 (by decide) (fun v77 ev77 => ?_)
      replace h := h v77 ev77
      refine T_aload_n dX2_amid_80 rfl ?_
      refine T_getR (r := 165) dX2_amid_81 fX2_31 rfl SH_138 rfl ?_
      refine T_iload_n dX2_amid_84 rfl ?_
      have hw85_1 := row_166 h.1
      refine T_aald3 dX2_amid_85 SH_165 h.1 (rowq_166 h.1) ?_
      replace h := h.2
      refine T_iload_n dX2_amid_86 rfl ?_
      refine T_iald dX2_amid_87 hw85_1 h.1 ?_
      replace h := h.2
      exact T_iret dX2_amid_88 rfl (hQ _ _ h)
    · intro h
      refine T_drop (h (fun (i3 : Int) (v9 : VT) => n_T G d 0 0 mX2_amid 9 [vR 138, vI x1, vI x2, vI i3, vS 9] [] SH v9 Q) (fun i3 v9 h => ?_)) ⟨Or.inl rfl, Or.inl rfl, Or.inl rfl, Or.inl rfl, Or.inr rfl, trivial⟩
      refine T_iload_n dX2_amid_9 rfl ?_
      refine T_aload_n dX2_amid_10 rfl ?_
      refine T_getI dX2_amid_11 fX2_18 rfl SH_138 ?_
      refine U_icmp_ge (tgt := 75) dX2_amid_14 (by decide) (fun hc => ?_) (fun hc => ?_)
      · replace h := h.1 hc
        exact T_drop h ⟨Or.inl rfl, Or.inl rfl, Or.inl rfl, Or.inr rfl, Or.inr rfl, trivial⟩
      · replace h := h.2 hc
        refine T_iload_n dX2_amid_17 rfl ?_
        refine T_istore dX2_amid_18 (by decide) rfl ?_
        refine T_drop (h (fun (i4 : Int) (v20 : VT) => n_T G d 0 0 mX2_amid 20 [vR 138, vI x1, vI x2, vI i3, vI i4] [] SH v20 Q) (fun i4 v20 h => ?_)) ⟨Or.inl rfl, Or.inl rfl, Or.inl rfl, Or.inl rfl, Or.inl rfl, trivial⟩
        refine T_iload dX2_amid_20 rfl ?_
        refine T_aload_n dX2_amid_22 rfl ?_
        refine T_getI dX2_amid_23 fX2_18 rfl SH_138 ?_
        refine U_icmp_ge (tgt := 69) dX2_amid_26 (by decide) (fun hc => ?_) (fun hc => ?_)
        · replace h := h.1 hc
          refine U_iinc dX2_amid_69 rfl (by decide) rfl h.1 ?_
          replace h := h.2
          refine T_goto (tgt := 9) dX2_amid_72 (by decide) ?_
          exact T_drop h ⟨Or.inl rfl, Or.inl rfl, Or.inl rfl, Or.inl rfl, Or.inr rfl, trivial⟩
        · replace h := h.2 hc
          refine T_aload_n dX2_amid_29 rfl ?_
          refine T_getR (r := 165) dX2_amid_30 fX2_31 rfl SH_138 rfl ?_
          refine T_iload_n dX2_amid_33 rfl ?_
          have hw34 := row_166 h.1
          refine T_aald3 dX2_amid_34 SH_165 h.1 (rowq_166 h.1) ?_
          replace h := h.2
          refine T_iload dX2_amid_35 rfl ?_
          refine T_aload_n dX2_amid_37 rfl ?_
          refine T_iload_n dX2_amid_38 rfl ?_
          refine T_iload dX2_amid_39 rfl ?_
          refine U_callV (as := [vI i3, vI i4]) (st := [vI i4, vR (166 + i3.toNat)]) dX2_amid_41 kX2_findAmid lX2_77 SH_138 rfl rfl rfl rfl (Nat.le_of_ble_eq_true rfl) (Nat.le_of_ble_eq_true rfl) (by omega) ?_
          refine W_X2_findAmid (by omega)  h (fun r41 h => ?_)
          show n_T G d 0 0 mX2_amid 44 [vR 138, vI x1, vI x2, vI i3, vI i4] [vI r41, vI i4, vR (166 + i3.toNat)] SH v20 Q
          refine U_iast dX2_amid_44 hw34 h.1 (fun v44 ev44 => ?_)
          replace h := h.2 v44 ev44
          refine T_aload_n dX2_amid_45 rfl ?_
          refine T_getR (r := 165) dX2_amid_46 fX2_31 rfl SH_138 rfl ?_
          refine T_iload dX2_amid_49 rfl ?_
          have hw51 := row_166 h.1
          refine T_aald3 dX2_amid_51 SH_165 h.1 (rowq_166 h.1) ?_
          replace h := h.2
          refine T_iload_n dX2_amid_52 rfl ?_
          refine T_aload_n dX2_amid_53 rfl ?_
          refine T_getR (r := 165) dX2_amid_54 fX2_31 rfl SH_138 rfl ?_
          refine T_iload_n dX2_amid_57 rfl ?_
          have hw58 := row_166 h.1
          refine T_aald3 dX2_amid_58 SH_165 h.1 (rowq_166 h.1) ?_
          replace h := h.2
          refine T_iload dX2_amid_59 rfl ?_
          refine T_iald dX2_amid_61 hw58 h.1 ?_
          replace h := h.2
          refine U_iast dX2_amid_62 hw51 h.1 (fun v62 ev62 => ?_)
          replace h := h.2 v62 ev62
          refine U_iinc dX2_amid_63 rfl (by decide) rfl h.1 ?_
          replace h := h.2
          refine T_goto (tgt := 20) dX2_amid_66 (by decide) ?_
          exact T_drop h ⟨Or.inl rfl, Or.inl rfl, Or.inl rfl, Or.inl rfl, Or.inl rfl, trivial⟩

theorem W_X2_mostFrom {G : GT} {d : Nat} (hd : 7 ≤ d) {x1 : Int}   {v : VT} {q : Int → Prop} {Q : Option Vl → List Sh → VT → Prop} (h : P_X2_mostFrom x1 v q) (hQ : ∀ r, q r → Q (some (vI r)) SH v) : n_T G d 0 0 mX2_mostFrom 0 [vR 138, vI x1, vS 9, vS 9] [] SH v Q := by
  unfold P_X2_mostFrom at h
  refine T_iconst dX2_mostFrom_0 (by decide) ?_
  refine T_istore_n dX2_mostFrom_1 (by decide) rfl ?_
  refine T_iconst dX2_mostFrom_2 (by decide) ?_
  refine T_istore_n dX2_mostFrom_3 (by decide) rfl ?_
  refine T_drop (h (fun (i2 : Int) (i3 : Int) => n_T G d 0 0 mX2_mostFrom 4 [vR 138, vI x1, vI i2, vI i3] [] SH v Q) (fun i2 i3 h => ?_)) ⟨Or.inl rfl, Or.inl rfl, Or.inl rfl, Or.inl rfl, trivial⟩
  refine T_iload_n dX2_mostFrom_4 rfl ?_
  refine T_aload_n dX2_mostFrom_5 rfl ?_
  refine T_getI dX2_mostFrom_6 fX2_18 rfl SH_138 ?_
  refine U_icmp_ge (tgt := 31) dX2_mostFrom_9 (by decide) (fun hc => ?_) (fun hc => ?_)
  · replace h := h.1 hc
    refine T_iload_n dX2_mostFrom_31 rfl ?_
    exact T_iret dX2_mostFrom_32 rfl (hQ _ h)
  · replace h := h.2 hc
    refine T_iload_n dX2_mostFrom_12 rfl ?_
    refine T_aload_n dX2_mostFrom_13 rfl ?_
    refine T_getR (r := 140) dX2_mostFrom_14 fX2_28 rfl SH_138 rfl ?_
    refine T_iload_n dX2_mostFrom_17 rfl ?_
    have hw18 := row_141 h.1
    refine T_aald3 dX2_mostFrom_18 SH_140 h.1 (rowq_141 h.1) ?_
    replace h := h.2
    refine T_iload_n dX2_mostFrom_19 rfl ?_
    refine T_iald dX2_mostFrom_20 hw18 h.1 ?_
    replace h := h.2
    refine U_max dX2_mostFrom_21 lX2_81 (by omega) (Nat.le_of_ble_eq_true rfl) ?_
    refine U_istore_n dX2_mostFrom_24 (by decide) rfl (fun l2 el2 => ?_)
    replace h := h l2 el2
    refine U_iinc dX2_mostFrom_25 rfl (by decide) rfl h.1 ?_
    replace h := h.2
    refine T_goto (tgt := 4) dX2_mostFrom_28 (by decide) ?_
    exact T_drop h ⟨Or.inl rfl, Or.inl rfl, Or.inl rfl, Or.inl rfl, trivial⟩

theorem W_X2_sumAll {G : GT} {d : Nat} (hd : 7 ≤ d)    {v : VT} {q : Int → Prop} {Q : Option Vl → List Sh → VT → Prop} (h : P_X2_sumAll  v q) (hQ : ∀ r, q r → Q (some (vI r)) SH v) : n_T G d 0 0 mX2_sumAll 0 [vR 138, vS 9, vS 9, vS 9] [] SH v Q := by
  unfold P_X2_sumAll at h
  refine T_iconst dX2_sumAll_0 (by decide) ?_
  refine T_istore_n dX2_sumAll_1 (by decide) rfl ?_
  refine T_iconst dX2_sumAll_2 (by decide) ?_
  refine T_istore_n dX2_sumAll_3 (by decide) rfl ?_
  refine T_drop (h (fun (i1 : Int) (i2 : Int) => n_T G d 0 0 mX2_sumAll 4 [vR 138, vI i1, vI i2, vS 9] [] SH v Q) (fun i1 i2 h => ?_)) ⟨Or.inl rfl, Or.inl rfl, Or.inl rfl, Or.inr rfl, trivial⟩
  refine T_iload_n dX2_sumAll_4 rfl ?_
  refine T_aload_n dX2_sumAll_5 rfl ?_
  refine T_getI dX2_sumAll_6 fX2_18 rfl SH_138 ?_
  refine U_icmp_ge (tgt := 51) dX2_sumAll_9 (by decide) (fun hc => ?_) (fun hc => ?_)
  · replace h := h.1 hc
    refine T_iload_n dX2_sumAll_51 rfl ?_
    exact T_iret dX2_sumAll_52 rfl (hQ _ h)
  · replace h := h.2 hc
    refine T_iload_n dX2_sumAll_12 rfl ?_
    refine T_iconst dX2_sumAll_13 (by decide) ?_
    refine U_iadd dX2_sumAll_14 h.1 ?_
    replace h := h.2
    refine T_istore_n dX2_sumAll_15 (by decide) rfl ?_
    refine T_drop (h (fun (i1_1 : Int) (i3 : Int) => n_T G d 0 0 mX2_sumAll 16 [vR 138, vI i1_1, vI i2, vI i3] [] SH v Q) (fun i1_1 i3 h => ?_)) ⟨Or.inl rfl, Or.inl rfl, Or.inl rfl, Or.inl rfl, trivial⟩
    refine T_iload_n dX2_sumAll_16 rfl ?_
    refine T_aload_n dX2_sumAll_17 rfl ?_
    refine T_getI dX2_sumAll_18 fX2_18 rfl SH_138 ?_
    refine U_icmp_ge (tgt := 45) dX2_sumAll_21 (by decide) (fun hc => ?_) (fun hc => ?_)
    · replace h := h.1 hc
      refine U_iinc dX2_sumAll_45 rfl (by decide) rfl h.1 ?_
      replace h := h.2
      refine T_goto (tgt := 4) dX2_sumAll_48 (by decide) ?_
      exact T_drop h ⟨Or.inl rfl, Or.inl rfl, Or.inl rfl, Or.inr rfl, trivial⟩
    · replace h := h.2 hc
      refine T_iload_n dX2_sumAll_24 rfl ?_
      refine T_iconst dX2_sumAll_25 (by decide) ?_
      refine T_aload_n dX2_sumAll_26 rfl ?_
      refine T_getR (r := 140) dX2_sumAll_27 fX2_28 rfl SH_138 rfl ?_
      refine T_iload_n dX2_sumAll_30 rfl ?_
      have hw31 := row_141 h.1
      refine T_aald3 dX2_sumAll_31 SH_140 h.1 (rowq_141 h.1) ?_
      replace h := h.2
      refine T_iload_n dX2_sumAll_32 rfl ?_
      refine T_iald dX2_sumAll_33 hw31 h.1 ?_
      replace h := h.2
      refine U_max dX2_sumAll_34 lX2_81 (by omega) (Nat.le_of_ble_eq_true rfl) ?_
      refine U_iadd dX2_sumAll_37 h.1 ?_
      replace h := h.2
      refine U_istore_n dX2_sumAll_38 (by decide) rfl (fun l1 el1 => ?_)
      replace h := h l1 el1
      refine U_iinc dX2_sumAll_39 rfl (by decide) rfl h.1 ?_
      replace h := h.2
      refine T_goto (tgt := 16) dX2_sumAll_42 (by decide) ?_
      exact T_drop h ⟨Or.inl rfl, Or.inl rfl, Or.inl rfl, Or.inl rfl, trivial⟩

theorem W_X2_firstWithoutMedian {G : GT} {d : Nat} (hd : 3 ≤ d)    {v : VT} {q : Int → VT → Prop} {Q : Option Vl → List Sh → VT → Prop} (h : P_X2_firstWithoutMedian  v q) (hQ : ∀ r w, q r w → Q (some (vI r)) SH w) : n_T G d 0 0 mX2_firstWithoutMedian 0 [vR 138, vS 9, vS 9, vS 9, vS 9] [] SH v Q := by
  unfold P_X2_firstWithoutMedian at h
  refine T_iconst dX2_firstWithoutMedian_0 (by decide) ?_
  refine T_istore_n dX2_firstWithoutMedian_1 (by decide) rfl ?_
  refine n_cut (h (fun (i1 : Int) (i2 : Int) (i3 : Int) (v65 : VT) => n_T G d 0 0 mX2_firstWithoutMedian 65 [vS 9, vI i1, vI i2, vI i3, vS 9] [] SH v65 Q)) ?_ ?_
  · intro i1 i2 i3 v65 h
    refine T_iload_n dX2_firstWithoutMedian_65 rfl ?_
    refine T_bipush dX2_firstWithoutMedian_66 (by decide) ?_
    refine T_ishl dX2_firstWithoutMedian_68 ?_
    refine T_iload_n dX2_firstWithoutMedian_69 rfl ?_
    refine T_bipush dX2_firstWithoutMedian_70 (by decide) ?_
    refine T_ishl dX2_firstWithoutMedian_72 ?_
    refine T_ior dX2_firstWithoutMedian_73 ?_
    refine T_iload_n dX2_firstWithoutMedian_74 rfl ?_
    refine T_ior dX2_firstWithoutMedian_75 ?_
    exact T_iret dX2_firstWithoutMedian_76 rfl (hQ _ _ h)
  · intro h
    refine T_drop (h (fun (i1_1 : Int) (v2 : VT) => n_T G d 0 0 mX2_firstWithoutMedian 2 [vR 138, vI i1_1, vS 9, vS 9, vS 9] [] SH v2 Q) (fun i1_1 v2 h => ?_)) ⟨Or.inl rfl, Or.inl rfl, Or.inr rfl, Or.inr rfl, Or.inr rfl, trivial⟩
    refine T_iload_n dX2_firstWithoutMedian_2 rfl ?_
    refine T_aload_n dX2_firstWithoutMedian_3 rfl ?_
    refine T_getI dX2_firstWithoutMedian_4 fX2_18 rfl SH_138 ?_
    refine U_icmp_ge (tgt := 95) dX2_firstWithoutMedian_7 (by decide) (fun hc => ?_) (fun hc => ?_)
    · replace h := h.1 hc
      refine T_iconst dX2_firstWithoutMedian_95 (by decide) ?_
      exact T_iret dX2_firstWithoutMedian_96 rfl (hQ _ _ h)
    · replace h := h.2 hc
      refine T_iload_n dX2_firstWithoutMedian_10 rfl ?_
      refine T_iconst dX2_firstWithoutMedian_11 (by decide) ?_
      refine U_iadd dX2_firstWithoutMedian_12 h.1 ?_
      replace h := h.2
      refine T_istore_n dX2_firstWithoutMedian_13 (by decide) rfl ?_
      refine T_drop (h (fun (i2_1 : Int) (v14 : VT) => n_T G d 0 0 mX2_firstWithoutMedian 14 [vR 138, vI i1_1, vI i2_1, vS 9, vS 9] [] SH v14 Q) (fun i2_1 v14 h => ?_)) ⟨Or.inl rfl, Or.inl rfl, Or.inl rfl, Or.inr rfl, Or.inr rfl, trivial⟩
      refine T_iload_n dX2_firstWithoutMedian_14 rfl ?_
      refine T_aload_n dX2_firstWithoutMedian_15 rfl ?_
      refine T_getI dX2_firstWithoutMedian_16 fX2_18 rfl SH_138 ?_
      refine U_icmp_ge (tgt := 89) dX2_firstWithoutMedian_19 (by decide) (fun hc => ?_) (fun hc => ?_)
      · replace h := h.1 hc
        refine U_iinc dX2_firstWithoutMedian_89 rfl (by decide) rfl h.1 ?_
        replace h := h.2
        refine T_goto (tgt := 2) dX2_firstWithoutMedian_92 (by decide) ?_
        exact T_drop h ⟨Or.inl rfl, Or.inl rfl, Or.inr rfl, Or.inr rfl, Or.inr rfl, trivial⟩
      · replace h := h.2 hc
        refine T_iload_n dX2_firstWithoutMedian_22 rfl ?_
        refine T_iconst dX2_firstWithoutMedian_23 (by decide) ?_
        refine U_iadd dX2_firstWithoutMedian_24 h.1 ?_
        replace h := h.2
        refine T_istore_n dX2_firstWithoutMedian_25 (by decide) rfl ?_
        refine T_drop (h (fun (i3_1 : Int) (v26 : VT) => n_T G d 0 0 mX2_firstWithoutMedian 26 [vR 138, vI i1_1, vI i2_1, vI i3_1, vS 9] [] SH v26 Q) (fun i3_1 v26 h => ?_)) ⟨Or.inl rfl, Or.inl rfl, Or.inl rfl, Or.inl rfl, Or.inr rfl, trivial⟩
        refine T_iload_n dX2_firstWithoutMedian_26 rfl ?_
        refine T_aload_n dX2_firstWithoutMedian_27 rfl ?_
        refine T_getI dX2_firstWithoutMedian_28 fX2_18 rfl SH_138 ?_
        refine U_icmp_ge (tgt := 83) dX2_firstWithoutMedian_31 (by decide) (fun hc => ?_) (fun hc => ?_)
        · replace h := h.1 hc
          refine U_iinc dX2_firstWithoutMedian_83 rfl (by decide) rfl h.1 ?_
          replace h := h.2
          refine T_goto (tgt := 14) dX2_firstWithoutMedian_86 (by decide) ?_
          exact T_drop h ⟨Or.inl rfl, Or.inl rfl, Or.inl rfl, Or.inr rfl, Or.inr rfl, trivial⟩
        · replace h := h.2 hc
          refine T_aload_n dX2_firstWithoutMedian_34 rfl ?_
          refine T_iload_n dX2_firstWithoutMedian_35 rfl ?_
          refine T_iload_n dX2_firstWithoutMedian_36 rfl ?_
          refine U_callV (as := [vI i1_1, vI i2_1]) (st := []) dX2_firstWithoutMedian_37 kX2_amid lX2_84 SH_138 rfl rfl rfl rfl (Nat.le_of_ble_eq_true rfl) (Nat.le_of_ble_eq_true rfl) (by omega) ?_
          refine W_X2_amid (by omega)  h (fun r37 v37 h => ?_)
          show n_T G d 0 0 mX2_firstWithoutMedian 40 [vR 138, vI i1_1, vI i2_1, vI i3_1, vS 9] [vI r37] SH v37 Q
          refine T_aload_n dX2_firstWithoutMedian_40 rfl ?_
          refine T_iload_n dX2_firstWithoutMedian_41 rfl ?_
          refine T_iload_n dX2_firstWithoutMedian_42 rfl ?_
          refine U_callV (as := [vI i2_1, vI i3_1]) (st := [vI r37]) dX2_firstWithoutMedian_43 kX2_amid lX2_84 SH_138 rfl rfl rfl rfl (Nat.le_of_ble_eq_true rfl) (Nat.le_of_ble_eq_true rfl) (by omega) ?_
          refine W_X2_amid (by omega)  h (fun r43 v43 h => ?_)
          show n_T G d 0 0 mX2_firstWithoutMedian 46 [vR 138, vI i1_1, vI i2_1, vI i3_1, vS 9] [vI r43, vI r37] SH v43 Q
          refine T_iand dX2_firstWithoutMedian_46 ?_
          refine T_aload_n dX2_firstWithoutMedian_47 rfl ?_
          refine T_iload_n dX2_firstWithoutMedian_48 rfl ?_
          refine T_iload_n dX2_firstWithoutMedian_49 rfl ?_
          refine U_callV (as := [vI i1_1, vI i3_1]) (st := [vI (i_and r37 r43)]) dX2_firstWithoutMedian_50 kX2_amid lX2_84 SH_138 rfl rfl rfl rfl (Nat.le_of_ble_eq_true rfl) (Nat.le_of_ble_eq_true rfl) (by omega) ?_
          refine W_X2_amid (by omega)  h (fun r50 v50 h => ?_)
          show n_T G d 0 0 mX2_firstWithoutMedian 53 [vR 138, vI i1_1, vI i2_1, vI i3_1, vS 9] [vI r50, vI (i_and r37 r43)] SH v50 Q
          refine T_iand dX2_firstWithoutMedian_53 ?_
          refine U_istore dX2_firstWithoutMedian_54 (by decide) rfl (fun l4 el4 => ?_)
          replace h := h l4 el4
          refine T_iload dX2_firstWithoutMedian_56 rfl ?_
          refine U_callS (as := [vI l4]) (st := []) dX2_firstWithoutMedian_58 kJ6_bitCount_0f7a4 lX2_87 rfl rfl (Nat.le_of_ble_eq_true rfl) (Nat.le_of_ble_eq_true rfl) (by omega) ?_
          refine W_J6_bitCount_0f7a4 (by omega)  h (fun r58 h => ?_)
          show n_T G d 0 0 mX2_firstWithoutMedian 61 [vR 138, vI i1_1, vI i2_1, vI i3_1, vI l4] [vI r58] SH v50 Q
          refine T_iconst dX2_firstWithoutMedian_61 (by decide) ?_
          refine U_icmp_eq (tgt := 77) dX2_firstWithoutMedian_62 (by decide) (fun hc => ?_) (fun hc => ?_)
          · replace h := h.1 hc
            refine U_iinc dX2_firstWithoutMedian_77 rfl (by decide) rfl h.1 ?_
            replace h := h.2
            refine T_goto (tgt := 26) dX2_firstWithoutMedian_80 (by decide) ?_
            exact T_drop h ⟨Or.inl rfl, Or.inl rfl, Or.inl rfl, Or.inl rfl, Or.inr rfl, trivial⟩
          · replace h := h.2 hc
            exact T_drop h ⟨Or.inr rfl, Or.inl rfl, Or.inl rfl, Or.inl rfl, Or.inr rfl, trivial⟩

theorem W_X2_isTrueFrom {G : GT} {d : Nat} (hd : 2 ≤ d) {x1 : Int} {x2 : Int}   {v : VT} {q : Int → Prop} {Q : Option Vl → List Sh → VT → Prop} (h : P_X2_isTrueFrom x1 x2 v q) (hQ : ∀ r, q r → Q (some (vI r)) SH v) : n_T G d 0 0 mX2_isTrueFrom 0 [vR 138, vI x1, vI x2, vS 9, vS 9, vS 9, vS 9, vS 9] [] SH v Q := by
  unfold P_X2_isTrueFrom at h
  refine T_iconst dX2_isTrueFrom_0 (by decide) ?_
  refine T_iload_n dX2_isTrueFrom_1 rfl ?_
  refine T_ishl dX2_isTrueFrom_2 ?_
  refine T_istore_n dX2_isTrueFrom_3 (by decide) rfl ?_
  refine T_iload_n dX2_isTrueFrom_4 rfl ?_
  refine T_istore dX2_isTrueFrom_5 (by decide) rfl ?_
  refine T_iconst dX2_isTrueFrom_7 (by decide) ?_
  refine T_istore dX2_isTrueFrom_8 (by decide) rfl ?_
  refine T_drop (h (fun (i3 : Int) (i4 : Int) (i5 : Int) => n_T G d 0 0 mX2_isTrueFrom 10 [vR 138, vI x1, vI x2, vI i3, vI i4, vI i5, vS 9, vS 9] [] SH v Q) (fun i3 i4 i5 h => ?_)) ⟨Or.inl rfl, Or.inl rfl, Or.inl rfl, Or.inl rfl, Or.inl rfl, Or.inl rfl, Or.inr rfl, Or.inr rfl, trivial⟩
  refine T_iload dX2_isTrueFrom_10 rfl ?_
  refine T_aload_n dX2_isTrueFrom_12 rfl ?_
  refine T_getI dX2_isTrueFrom_13 fX2_18 rfl SH_138 ?_
  refine U_icmp_ge (tgt := 104) dX2_isTrueFrom_16 (by decide) (fun hc => ?_) (fun hc => ?_)
  · replace h := h.1 hc
    refine T_iload_n dX2_isTrueFrom_104 rfl ?_
    refine T_iload_n dX2_isTrueFrom_105 rfl ?_
    refine U_icmp_ne (tgt := 113) dX2_isTrueFrom_106 (by decide) (fun hc => ?_) (fun hc => ?_)
    · replace h := h.1 hc
      refine T_iconst dX2_isTrueFrom_113 (by decide) ?_
      exact T_zret dX2_isTrueFrom_114 rfl (by decide) (hQ _ h)
    · replace h := h.2 hc
      refine T_iconst dX2_isTrueFrom_109 (by decide) ?_
      refine T_goto (tgt := 114) dX2_isTrueFrom_110 (by decide) ?_
      exact T_zret dX2_isTrueFrom_114 rfl (by decide) (hQ _ h)
  · replace h := h.2 hc
    refine T_iload dX2_isTrueFrom_19 rfl ?_
    refine U_if_eq (tgt := 104) dX2_isTrueFrom_21 (by decide) (fun hc => ?_) (fun hc => ?_)
    · replace h := h.1 hc
      refine T_iload_n dX2_isTrueFrom_104 rfl ?_
      refine T_iload_n dX2_isTrueFrom_105 rfl ?_
      refine U_icmp_ne (tgt := 113) dX2_isTrueFrom_106 (by decide) (fun hc => ?_) (fun hc => ?_)
      · replace h := h.1 hc
        refine T_iconst dX2_isTrueFrom_113 (by decide) ?_
        exact T_zret dX2_isTrueFrom_114 rfl (by decide) (hQ _ h)
      · replace h := h.2 hc
        refine T_iconst dX2_isTrueFrom_109 (by decide) ?_
        refine T_goto (tgt := 114) dX2_isTrueFrom_110 (by decide) ?_
        exact T_zret dX2_isTrueFrom_114 rfl (by decide) (hQ _ h)
    · replace h := h.2 hc
      refine T_iconst dX2_isTrueFrom_24 (by decide) ?_
      refine T_istore dX2_isTrueFrom_25 (by decide) rfl ?_
      refine T_iconst dX2_isTrueFrom_27 (by decide) ?_
      refine T_istore dX2_isTrueFrom_28 (by decide) rfl ?_
      refine n_cut (h (fun (i6 : Int) => n_T G d 0 0 mX2_isTrueFrom 83 [vR 138, vI x1, vI x2, vI i3, vS 9, vI i5, vI i6, vS 9] [] SH v Q)) ?_ ?_
      · intro i6 h
        refine T_iload dX2_isTrueFrom_83 rfl ?_
        refine T_iload_n dX2_isTrueFrom_85 rfl ?_
        refine T_iand dX2_isTrueFrom_86 ?_
        refine T_iload_n dX2_isTrueFrom_87 rfl ?_
        refine T_iconst dX2_isTrueFrom_88 (by decide) ?_
        refine T_ixor dX2_isTrueFrom_89 ?_
        refine T_iand dX2_isTrueFrom_90 ?_
        refine U_istore dX2_isTrueFrom_91 (by decide) rfl (fun l4 el4 => ?_)
        replace h := h l4 el4
        refine T_iload_n dX2_isTrueFrom_93 rfl ?_
        refine T_iload dX2_isTrueFrom_94 rfl ?_
        refine T_ior dX2_isTrueFrom_96 ?_
        refine T_istore_n dX2_isTrueFrom_97 (by decide) rfl ?_
        refine U_iinc dX2_isTrueFrom_98 rfl (by decide) rfl h.1 ?_
        replace h := h.2
        refine T_goto (tgt := 10) dX2_isTrueFrom_101 (by decide) ?_
        exact T_drop h ⟨Or.inl rfl, Or.inl rfl, Or.inl rfl, Or.inl rfl, Or.inl rfl, Or.inl rfl, Or.inr rfl, Or.inr rfl, trivial⟩
      · intro h
        refine T_drop (h (fun (i6_1 : Int) (i7 : Int) => n_T G d 0 0 mX2_isTrueFrom 30 [vR 138, vI x1, vI x2, vI i3, vI i4, vI i5, vI i6_1, vI i7] [] SH v Q) (fun i6_1 i7 h => ?_)) ⟨Or.inl rfl, Or.inl rfl, Or.inl rfl, Or.inl rfl, Or.inl rfl, Or.inl rfl, Or.inl rfl, Or.inl rfl, trivial⟩
        refine T_iload dX2_isTrueFrom_30 rfl ?_
        refine T_aload_n dX2_isTrueFrom_32 rfl ?_
        refine T_getI dX2_isTrueFrom_33 fX2_18 rfl SH_138 ?_
        refine U_icmp_ge (tgt := 83) dX2_isTrueFrom_36 (by decide) (fun hc => ?_) (fun hc => ?_)
        · replace h := h.1 hc
          exact T_drop h ⟨Or.inl rfl, Or.inl rfl, Or.inl rfl, Or.inl rfl, Or.inr rfl, Or.inl rfl, Or.inl rfl, Or.inr rfl, trivial⟩
        · replace h := h.2 hc
          refine T_iload dX2_isTrueFrom_39 rfl ?_
          refine T_iload dX2_isTrueFrom_41 rfl ?_
          refine U_callSN (as := [vI i4, vI i7]) (st := []) dX2_isTrueFrom_43 kX10_hasBit lX2_57 rfl rfl (Nat.le_of_ble_eq_true rfl) (Nat.le_of_ble_eq_true rfl) (by omega) ?_
          refine W_X10_hasBit (by omega)  h (fun r43 h => ?_)
          show n_T G d 0 0 mX2_isTrueFrom 46 [vR 138, vI x1, vI x2, vI i3, vI i4, vI i5, vI i6_1, vI i7] [vI r43] SH v Q
          refine U_if_eq (tgt := 77) dX2_isTrueFrom_46 (by decide) (fun hc => ?_) (fun hc => ?_)
          · replace h := h.1 hc
            refine U_iinc dX2_isTrueFrom_77 rfl (by decide) rfl h.1 ?_
            replace h := h.2
            refine T_goto (tgt := 30) dX2_isTrueFrom_80 (by decide) ?_
            exact T_drop h ⟨Or.inl rfl, Or.inl rfl, Or.inl rfl, Or.inl rfl, Or.inl rfl, Or.inl rfl, Or.inl rfl, Or.inl rfl, trivial⟩
          · replace h := h.2 hc
            refine T_aload_n dX2_isTrueFrom_49 rfl ?_
            refine T_getR (r := 140) dX2_isTrueFrom_50 fX2_28 rfl SH_138 rfl ?_
            refine T_iload_n dX2_isTrueFrom_53 rfl ?_
            have hw54 := row_141 h.1
            refine T_aald3 dX2_isTrueFrom_54 SH_140 h.1 (rowq_141 h.1) ?_
            replace h := h.2
            refine T_iload dX2_isTrueFrom_55 rfl ?_
            refine T_iald dX2_isTrueFrom_57 hw54 h.1 ?_
            replace h := h.2
            refine T_iload dX2_isTrueFrom_58 rfl ?_
            refine U_icmp_eq (tgt := 65) dX2_isTrueFrom_60 (by decide) (fun hc => ?_) (fun hc => ?_)
            · replace h := h.1 hc
              refine T_iload dX2_isTrueFrom_65 rfl ?_
              refine T_aload_n dX2_isTrueFrom_67 rfl ?_
              refine T_getR (r := 139) dX2_isTrueFrom_68 fX2_22 rfl SH_138 rfl ?_
              refine T_iload dX2_isTrueFrom_71 rfl ?_
              refine T_iald dX2_isTrueFrom_73 SH_139 h.1 ?_
              replace h := h.2
              refine T_ior dX2_isTrueFrom_74 ?_
              refine U_istore dX2_isTrueFrom_75 (by decide) rfl (fun l6 el6 => ?_)
              replace h := h l6 el6
              refine U_iinc dX2_isTrueFrom_77 rfl (by decide) rfl h.1 ?_
              replace h := h.2
              refine T_goto (tgt := 30) dX2_isTrueFrom_80 (by decide) ?_
              exact T_drop h ⟨Or.inl rfl, Or.inl rfl, Or.inl rfl, Or.inl rfl, Or.inl rfl, Or.inl rfl, Or.inl rfl, Or.inl rfl, trivial⟩
            · replace h := h.2 hc
              refine T_iconst dX2_isTrueFrom_63 (by decide) ?_
              exact T_zret dX2_isTrueFrom_64 rfl (by decide) (hQ _ h)

theorem W_X2_isTrue {G : GT} {d : Nat} (hd : 3 ≤ d) {x1 : Int}   {v : VT} {q : Int → Prop} {Q : Option Vl → List Sh → VT → Prop} (h : P_X2_isTrue x1 v q) (hQ : ∀ r, q r → Q (some (vI r)) SH v) : n_T G d 0 0 mX2_isTrue 0 [vR 138, vI x1, vS 9] [] SH v Q := by
  unfold P_X2_isTrue at h
  refine T_iconst dX2_isTrue_0 (by decide) ?_
  refine T_istore_n dX2_isTrue_1 (by decide) rfl ?_
  refine T_drop (h (fun (i2 : Int) => n_T G d 0 0 mX2_isTrue 2 [vR 138, vI x1, vI i2] [] SH v Q) (fun i2 h => ?_)) ⟨Or.inl rfl, Or.inl rfl, Or.inl rfl, trivial⟩
  refine T_iload_n dX2_isTrue_2 rfl ?_
  refine T_aload_n dX2_isTrue_3 rfl ?_
  refine T_getI dX2_isTrue_4 fX2_18 rfl SH_138 ?_
  refine U_icmp_ge (tgt := 35) dX2_isTrue_7 (by decide) (fun hc => ?_) (fun hc => ?_)
  · replace h := h.1 hc
    refine T_iconst dX2_isTrue_35 (by decide) ?_
    exact T_zret dX2_isTrue_36 rfl (by decide) (hQ _ h)
  · replace h := h.2 hc
    refine T_iload_n dX2_isTrue_10 rfl ?_
    refine T_iload_n dX2_isTrue_11 rfl ?_
    refine U_callSN (as := [vI x1, vI i2]) (st := []) dX2_isTrue_12 kX10_hasBit lX2_57 rfl rfl (Nat.le_of_ble_eq_true rfl) (Nat.le_of_ble_eq_true rfl) (by omega) ?_
    refine W_X10_hasBit (by omega)  h (fun r12 h => ?_)
    show n_T G d 0 0 mX2_isTrue 15 [vR 138, vI x1, vI i2] [vI r12] SH v Q
    refine U_if_eq (tgt := 29) dX2_isTrue_15 (by decide) (fun hc => ?_) (fun hc => ?_)
    · replace h := h.1 hc
      refine U_iinc dX2_isTrue_29 rfl (by decide) rfl h.1 ?_
      replace h := h.2
      refine T_goto (tgt := 2) dX2_isTrue_32 (by decide) ?_
      exact T_drop h ⟨Or.inl rfl, Or.inl rfl, Or.inl rfl, trivial⟩
    · replace h := h.2 hc
      refine T_aload_n dX2_isTrue_18 rfl ?_
      refine T_iload_n dX2_isTrue_19 rfl ?_
      refine T_iload_n dX2_isTrue_20 rfl ?_
      refine U_callV (as := [vI x1, vI i2]) (st := []) dX2_isTrue_21 kX2_isTrueFrom lX2_92 SH_138 rfl rfl rfl rfl (Nat.le_of_ble_eq_true rfl) (Nat.le_of_ble_eq_true rfl) (by omega) ?_
      refine W_X2_isTrueFrom (by omega)  h (fun r21 h => ?_)
      show n_T G d 0 0 mX2_isTrue 24 [vR 138, vI x1, vI i2] [vI r21] SH v Q
      refine U_if_ne (tgt := 29) dX2_isTrue_24 (by decide) (fun hc => ?_) (fun hc => ?_)
      · replace h := h.1 hc
        refine U_iinc dX2_isTrue_29 rfl (by decide) rfl h.1 ?_
        replace h := h.2
        refine T_goto (tgt := 2) dX2_isTrue_32 (by decide) ?_
        exact T_drop h ⟨Or.inl rfl, Or.inl rfl, Or.inl rfl, trivial⟩
      · replace h := h.2 hc
        refine T_iconst dX2_isTrue_27 (by decide) ?_
        exact T_zret dX2_isTrue_28 rfl (by decide) (hQ _ h)

theorem W_X2_widen {G : GT} {d : Nat} (hd : 3 ≤ d) {x1 : Int}   {v : VT} {q : Int → VT → Prop} {Q : Option Vl → List Sh → VT → Prop} (h : P_X2_widen x1 v q) (hQ : ∀ r w, q r w → Q (some (vI r)) SH w) : n_T G d 0 0 mX2_widen 0 [vR 138, vI x1, vS 9, vS 9, vS 9] [] SH v Q := by
  unfold P_X2_widen at h
  refine T_iload_n dX2_widen_0 rfl ?_
  refine T_istore_n dX2_widen_1 (by decide) rfl ?_
  refine T_iconst dX2_widen_2 (by decide) ?_
  refine T_istore_n dX2_widen_3 (by decide) rfl ?_
  refine T_drop (h (fun (i2 : Int) (i3 : Int) (v4 : VT) => n_T G d 0 0 mX2_widen 4 [vR 138, vI x1, vI i2, vI i3, vS 9] [] SH v4 Q) (fun i2 i3 v4 h => ?_)) ⟨Or.inl rfl, Or.inl rfl, Or.inl rfl, Or.inl rfl, Or.inr rfl, trivial⟩
  refine T_iload_n dX2_widen_4 rfl ?_
  refine T_aload_n dX2_widen_5 rfl ?_
  refine T_getI dX2_widen_6 fX2_18 rfl SH_138 ?_
  refine U_icmp_ge (tgt := 65) dX2_widen_9 (by decide) (fun hc => ?_) (fun hc => ?_)
  · replace h := h.1 hc
    refine T_iload_n dX2_widen_65 rfl ?_
    exact T_iret dX2_widen_66 rfl (hQ _ _ h)
  · replace h := h.2 hc
    refine T_iload_n dX2_widen_12 rfl ?_
    refine T_iconst dX2_widen_13 (by decide) ?_
    refine U_iadd dX2_widen_14 h.1 ?_
    replace h := h.2
    refine T_istore dX2_widen_15 (by decide) rfl ?_
    refine T_drop (h (fun (i2_1 : Int) (i4 : Int) (v17 : VT) => n_T G d 0 0 mX2_widen 17 [vR 138, vI x1, vI i2_1, vI i3, vI i4] [] SH v17 Q) (fun i2_1 i4 v17 h => ?_)) ⟨Or.inl rfl, Or.inl rfl, Or.inl rfl, Or.inl rfl, Or.inl rfl, trivial⟩
    refine T_iload_n dX2_widen_17 rfl ?_
    refine T_iload_n dX2_widen_18 rfl ?_
    refine U_callSN (as := [vI x1, vI i3]) (st := []) dX2_widen_19 kX10_hasBit lX2_57 rfl rfl (Nat.le_of_ble_eq_true rfl) (Nat.le_of_ble_eq_true rfl) (by omega) ?_
    refine W_X10_hasBit (by omega)  h (fun r19 h => ?_)
    show n_T G d 0 0 mX2_widen 22 [vR 138, vI x1, vI i2_1, vI i3, vI i4] [vI r19] SH v17 Q
    refine U_if_eq (tgt := 59) dX2_widen_22 (by decide) (fun hc => ?_) (fun hc => ?_)
    · replace h := h.1 hc
      refine U_iinc dX2_widen_59 rfl (by decide) rfl h.1 ?_
      replace h := h.2
      refine T_goto (tgt := 4) dX2_widen_62 (by decide) ?_
      exact T_drop h ⟨Or.inl rfl, Or.inl rfl, Or.inl rfl, Or.inl rfl, Or.inr rfl, trivial⟩
    · replace h := h.2 hc
      refine T_iload dX2_widen_25 rfl ?_
      refine T_aload_n dX2_widen_27 rfl ?_
      refine T_getI dX2_widen_28 fX2_18 rfl SH_138 ?_
      refine U_icmp_ge (tgt := 59) dX2_widen_31 (by decide) (fun hc => ?_) (fun hc => ?_)
      · replace h := h.1 hc
        refine U_iinc dX2_widen_59 rfl (by decide) rfl h.1 ?_
        replace h := h.2
        refine T_goto (tgt := 4) dX2_widen_62 (by decide) ?_
        exact T_drop h ⟨Or.inl rfl, Or.inl rfl, Or.inl rfl, Or.inl rfl, Or.inr rfl, trivial⟩
      · replace h := h.2 hc
        refine T_iload_n dX2_widen_34 rfl ?_
        refine T_iload dX2_widen_35 rfl ?_
        refine U_callSN (as := [vI x1, vI i4]) (st := []) dX2_widen_37 kX10_hasBit lX2_57 rfl rfl (Nat.le_of_ble_eq_true rfl) (Nat.le_of_ble_eq_true rfl) (by omega) ?_
        refine W_X10_hasBit (by omega)  h (fun r37 h => ?_)
        show n_T G d 0 0 mX2_widen 40 [vR 138, vI x1, vI i2_1, vI i3, vI i4] [vI r37] SH v17 Q
        refine U_if_eq (tgt := 53) dX2_widen_40 (by decide) (fun hc => ?_) (fun hc => ?_)
        · replace h := h.1 hc
          refine U_iinc dX2_widen_53 rfl (by decide) rfl h.1 ?_
          replace h := h.2
          refine T_goto (tgt := 17) dX2_widen_56 (by decide) ?_
          exact T_drop h ⟨Or.inl rfl, Or.inl rfl, Or.inl rfl, Or.inl rfl, Or.inl rfl, trivial⟩
        · replace h := h.2 hc
          refine T_iload_n dX2_widen_43 rfl ?_
          refine T_aload_n dX2_widen_44 rfl ?_
          refine T_iload_n dX2_widen_45 rfl ?_
          refine T_iload dX2_widen_46 rfl ?_
          refine U_callV (as := [vI i3, vI i4]) (st := [vI i2_1]) dX2_widen_48 kX2_amid lX2_84 SH_138 rfl rfl rfl rfl (Nat.le_of_ble_eq_true rfl) (Nat.le_of_ble_eq_true rfl) (by omega) ?_
          refine W_X2_amid (by omega)  h (fun r48 v48 h => ?_)
          show n_T G d 0 0 mX2_widen 51 [vR 138, vI x1, vI i2_1, vI i3, vI i4] [vI r48, vI i2_1] SH v48 Q
          refine T_ior dX2_widen_51 ?_
          refine U_istore_n dX2_widen_52 (by decide) rfl (fun l2 el2 => ?_)
          replace h := h l2 el2
          refine U_iinc dX2_widen_53 rfl (by decide) rfl h.1 ?_
          replace h := h.2
          refine T_goto (tgt := 17) dX2_widen_56 (by decide) ?_
          exact T_drop h ⟨Or.inl rfl, Or.inl rfl, Or.inl rfl, Or.inl rfl, Or.inl rfl, trivial⟩

theorem W_X2_close {G : GT} {d : Nat} (hd : 4 ≤ d) {x1 : Int}   {v : VT} {q : Int → VT → Prop} {Q : Option Vl → List Sh → VT → Prop} (h : P_X2_close x1 v q) (hQ : ∀ r w, q r w → Q (some (vI r)) SH w) : n_T G d 0 0 mX2_close 0 [vR 138, vI x1, vS 9, vS 9, vS 9] [] SH v Q := by
  unfold P_X2_close at h
  refine T_iload_n dX2_close_0 rfl ?_
  refine T_istore_n dX2_close_1 (by decide) rfl ?_
  refine T_iconst dX2_close_2 (by decide) ?_
  refine T_istore_n dX2_close_3 (by decide) rfl ?_
  refine T_drop (h (fun (i2 : Int) (i3 : Int) (v4 : VT) => n_T G d 0 0 mX2_close 4 [vR 138, vS 9, vI i2, vI i3, vS 9] [] SH v4 Q) (fun i2 i3 v4 h => ?_)) ⟨Or.inl rfl, Or.inr rfl, Or.inl rfl, Or.inl rfl, Or.inr rfl, trivial⟩
  refine T_iload_n dX2_close_4 rfl ?_
  refine T_bipush dX2_close_5 (by decide) ?_
  refine U_icmp_ge (tgt := 34) dX2_close_7 (by decide) (fun hc => ?_) (fun hc => ?_)
  · replace h := h.1 hc
    refine T_iload_n dX2_close_34 rfl ?_
    exact T_iret dX2_close_35 rfl (hQ _ _ h)
  · replace h := h.2 hc
    refine T_aload_n dX2_close_10 rfl ?_
    refine T_iload_n dX2_close_11 rfl ?_
    refine U_callV (as := [vI i2]) (st := []) dX2_close_12 kX2_widen lX2_95 SH_138 rfl rfl rfl rfl (Nat.le_of_ble_eq_true rfl) (Nat.le_of_ble_eq_true rfl) (by omega) ?_
    refine W_X2_widen (by omega)  h (fun r12 v12 h => ?_)
    show n_T G d 0 0 mX2_close 15 [vR 138, vS 9, vI i2, vI i3, vS 9] [vI r12] SH v12 Q
    refine T_istore dX2_close_15 (by decide) rfl ?_
    refine T_iload dX2_close_17 rfl ?_
    refine T_iload_n dX2_close_19 rfl ?_
    refine U_icmp_ne (tgt := 25) dX2_close_20 (by decide) (fun hc => ?_) (fun hc => ?_)
    · replace h := h.1 hc
      refine T_iload dX2_close_25 rfl ?_
      refine T_istore_n dX2_close_27 (by decide) rfl ?_
      refine U_iinc dX2_close_28 rfl (by decide) rfl h.1 ?_
      replace h := h.2
      refine T_goto (tgt := 4) dX2_close_31 (by decide) ?_
      exact T_drop h ⟨Or.inl rfl, Or.inr rfl, Or.inl rfl, Or.inl rfl, Or.inr rfl, trivial⟩
    · replace h := h.2 hc
      refine T_iload_n dX2_close_23 rfl ?_
      exact T_iret dX2_close_24 rfl (hQ _ _ h)

theorem W_X2_liesAhead {G : GT} {d : Nat} (hd : 2 ≤ d) {x1 : Int} {x2 : Int} {x3 : Int}   {v : VT} {q : Int → Prop} {Q : Option Vl → List Sh → VT → Prop} (h : P_X2_liesAhead x1 x2 x3 v q) (hQ : ∀ r, q r → Q (some (vI r)) SH v) : n_T G d 0 0 mX2_liesAhead 0 [vR 138, vI x1, vI x2, vI x3, vS 9] [] SH v Q := by
  unfold P_X2_liesAhead at h
  refine T_iconst dX2_liesAhead_0 (by decide) ?_
  refine T_istore dX2_liesAhead_1 (by decide) rfl ?_
  refine T_drop (h (fun (i4 : Int) => n_T G d 0 0 mX2_liesAhead 3 [vR 138, vI x1, vI x2, vI x3, vI i4] [] SH v Q) (fun i4 h => ?_)) ⟨Or.inl rfl, Or.inl rfl, Or.inl rfl, Or.inl rfl, Or.inl rfl, trivial⟩
  refine T_iload dX2_liesAhead_3 rfl ?_
  refine T_aload_n dX2_liesAhead_5 rfl ?_
  refine T_getI dX2_liesAhead_6 fX2_18 rfl SH_138 ?_
  refine U_icmp_ge (tgt := 59) dX2_liesAhead_9 (by decide) (fun hc => ?_) (fun hc => ?_)
  · replace h := h.1 hc
    refine T_iconst dX2_liesAhead_59 (by decide) ?_
    exact T_zret dX2_liesAhead_60 rfl (by decide) (hQ _ h)
  · replace h := h.2 hc
    refine T_iload_n dX2_liesAhead_12 rfl ?_
    refine T_iload dX2_liesAhead_13 rfl ?_
    refine U_callSN (as := [vI x3, vI i4]) (st := []) dX2_liesAhead_15 kX10_hasBit lX2_57 rfl rfl (Nat.le_of_ble_eq_true rfl) (Nat.le_of_ble_eq_true rfl) (by omega) ?_
    refine W_X10_hasBit (by omega)  h (fun r15 h => ?_)
    show n_T G d 0 0 mX2_liesAhead 18 [vR 138, vI x1, vI x2, vI x3, vI i4] [vI r15] SH v Q
    refine U_if_eq (tgt := 53) dX2_liesAhead_18 (by decide) (fun hc => ?_) (fun hc => ?_)
    · replace h := h.1 hc
      refine U_iinc dX2_liesAhead_53 rfl (by decide) rfl h.1 ?_
      replace h := h.2
      refine T_goto (tgt := 3) dX2_liesAhead_56 (by decide) ?_
      exact T_drop h ⟨Or.inl rfl, Or.inl rfl, Or.inl rfl, Or.inl rfl, Or.inl rfl, trivial⟩
    · replace h := h.2 hc
      refine T_aload_n dX2_liesAhead_21 rfl ?_
      refine T_getR (r := 140) dX2_liesAhead_22 fX2_28 rfl SH_138 rfl ?_
      refine T_iload_n dX2_liesAhead_25 rfl ?_
      have hw26 := row_141 h.1
      refine T_aald3 dX2_liesAhead_26 SH_140 h.1 (rowq_141 h.1) ?_
      replace h := h.2
      refine T_iload_n dX2_liesAhead_27 rfl ?_
      refine T_iald dX2_liesAhead_28 hw26 h.1 ?_
      replace h := h.2
      refine T_aload_n dX2_liesAhead_29 rfl ?_
      refine T_getR (r := 140) dX2_liesAhead_30 fX2_28 rfl SH_138 rfl ?_
      refine T_iload_n dX2_liesAhead_33 rfl ?_
      have hw34 := row_141 h.1
      refine T_aald3 dX2_liesAhead_34 SH_140 h.1 (rowq_141 h.1) ?_
      replace h := h.2
      refine T_iload dX2_liesAhead_35 rfl ?_
      refine T_iald dX2_liesAhead_37 hw34 h.1 ?_
      replace h := h.2
      refine U_iadd dX2_liesAhead_38 h.1 ?_
      replace h := h.2
      refine T_aload_n dX2_liesAhead_39 rfl ?_
      refine T_getR (r := 140) dX2_liesAhead_40 fX2_28 rfl SH_138 rfl ?_
      refine T_iload_n dX2_liesAhead_43 rfl ?_
      have hw44 := row_141 h.1
      refine T_aald3 dX2_liesAhead_44 SH_140 h.1 (rowq_141 h.1) ?_
      replace h := h.2
      refine T_iload dX2_liesAhead_45 rfl ?_
      refine T_iald dX2_liesAhead_47 hw44 h.1 ?_
      replace h := h.2
      refine U_icmp_eq (tgt := 53) dX2_liesAhead_48 (by decide) (fun hc => ?_) (fun hc => ?_)
      · replace h := h.1 hc
        refine U_iinc dX2_liesAhead_53 rfl (by decide) rfl h.1 ?_
        replace h := h.2
        refine T_goto (tgt := 3) dX2_liesAhead_56 (by decide) ?_
        exact T_drop h ⟨Or.inl rfl, Or.inl rfl, Or.inl rfl, Or.inl rfl, Or.inl rfl, trivial⟩
      · replace h := h.2 hc
        refine T_iconst dX2_liesAhead_51 (by decide) ?_
        exact T_zret dX2_liesAhead_52 rfl (by decide) (hQ _ h)

theorem W_X2_findGate {G : GT} {d : Nat} (hd : 3 ≤ d) {x1 : Int} {x2 : Int}   {v : VT} {q : Int → Prop} {Q : Option Vl → List Sh → VT → Prop} (h : P_X2_findGate x1 x2 v q) (hQ : ∀ r, q r → Q (some (vI r)) SH v) : n_T G d 0 0 mX2_findGate 0 [vR 138, vI x1, vI x2, vS 9] [] SH v Q := by
  unfold P_X2_findGate at h
  refine T_iconst dX2_findGate_0 (by decide) ?_
  refine T_istore_n dX2_findGate_1 (by decide) rfl ?_
  refine T_drop (h (fun (i3 : Int) => n_T G d 0 0 mX2_findGate 2 [vR 138, vI x1, vI x2, vI i3] [] SH v Q) (fun i3 h => ?_)) ⟨Or.inl rfl, Or.inl rfl, Or.inl rfl, Or.inl rfl, trivial⟩
  refine T_iload_n dX2_findGate_2 rfl ?_
  refine T_aload_n dX2_findGate_3 rfl ?_
  refine T_getI dX2_findGate_4 fX2_18 rfl SH_138 ?_
  refine U_icmp_ge (tgt := 36) dX2_findGate_7 (by decide) (fun hc => ?_) (fun hc => ?_)
  · replace h := h.1 hc
    refine T_iconst dX2_findGate_36 (by decide) ?_
    exact T_iret dX2_findGate_37 rfl (hQ _ h)
  · replace h := h.2 hc
    refine T_iload_n dX2_findGate_10 rfl ?_
    refine T_iload_n dX2_findGate_11 rfl ?_
    refine U_callSN (as := [vI x2, vI i3]) (st := []) dX2_findGate_12 kX10_hasBit lX2_57 rfl rfl (Nat.le_of_ble_eq_true rfl) (Nat.le_of_ble_eq_true rfl) (by omega) ?_
    refine W_X10_hasBit (by omega)  h (fun r12 h => ?_)
    show n_T G d 0 0 mX2_findGate 15 [vR 138, vI x1, vI x2, vI i3] [vI r12] SH v Q
    refine U_if_eq (tgt := 30) dX2_findGate_15 (by decide) (fun hc => ?_) (fun hc => ?_)
    · replace h := h.1 hc
      refine U_iinc dX2_findGate_30 rfl (by decide) rfl h.1 ?_
      replace h := h.2
      refine T_goto (tgt := 2) dX2_findGate_33 (by decide) ?_
      exact T_drop h ⟨Or.inl rfl, Or.inl rfl, Or.inl rfl, Or.inl rfl, trivial⟩
    · replace h := h.2 hc
      refine T_aload_n dX2_findGate_18 rfl ?_
      refine T_iload_n dX2_findGate_19 rfl ?_
      refine T_iload_n dX2_findGate_20 rfl ?_
      refine T_iload_n dX2_findGate_21 rfl ?_
      refine U_callV (as := [vI x1, vI i3, vI x2]) (st := []) dX2_findGate_22 kX2_liesAhead lX2_98 SH_138 rfl rfl rfl rfl (Nat.le_of_ble_eq_true rfl) (Nat.le_of_ble_eq_true rfl) (by omega) ?_
      refine W_X2_liesAhead (by omega)  h (fun r22 h => ?_)
      show n_T G d 0 0 mX2_findGate 25 [vR 138, vI x1, vI x2, vI i3] [vI r22] SH v Q
      refine U_if_eq (tgt := 30) dX2_findGate_25 (by decide) (fun hc => ?_) (fun hc => ?_)
      · replace h := h.1 hc
        refine U_iinc dX2_findGate_30 rfl (by decide) rfl h.1 ?_
        replace h := h.2
        refine T_goto (tgt := 2) dX2_findGate_33 (by decide) ?_
        exact T_drop h ⟨Or.inl rfl, Or.inl rfl, Or.inl rfl, Or.inl rfl, trivial⟩
      · replace h := h.2 hc
        refine T_iload_n dX2_findGate_28 rfl ?_
        exact T_iret dX2_findGate_29 rfl (hQ _ h)

theorem W_X3_forget {G : GT} {d : Nat} (hd : 1 ≤ d)    {v : VT} {q : VT → Prop} {Q : Option Vl → List Sh → VT → Prop} (h : P_X3_forget  v q) (hQ : ∀ w, q w → Q none SH w) : n_T G d 0 0 mX3_forget 0 [vR 16] [] SH v Q := by
  unfold P_X3_forget at h
  refine T_aload_n dX3_forget_0 rfl ?_
  refine T_iconst dX3_forget_1 (by decide) ?_
  refine U_putI dX3_forget_2 fX3_9 rfl rfl SH_16 (fun v2 ev2 => ?_)
  replace h := h v2 ev2
  exact T_vret dX3_forget_5 rfl (hQ _ h)

theorem W_X3_keep {G : GT} {d : Nat} (hd : 8 ≤ d)    {v : VT} {q : VT → Prop} {Q : Option Vl → List Sh → VT → Prop} (h : P_X3_keep  v q) (hQ : ∀ w, q w → Q none SH w) : n_T G d 0 0 mX3_keep 0 [vR 16, vR 10] [] SH v Q := by
  unfold P_X3_keep at h
  refine T_aload_n dX3_keep_0 rfl ?_
  refine T_getR (r := 17) dX3_keep_1 fX3_20 rfl SH_16 rfl ?_
  refine T_aload_n dX3_keep_4 rfl ?_
  refine T_getI dX3_keep_5 fX3_15 rfl SH_16 ?_
  have hw8 := ring_g h.1
  refine T_aald4 dX3_keep_8 SH_17 h.1 (ring_q h.1) ?_
  replace h := h.2
  refine T_aload_n dX3_keep_9 rfl ?_
  refine U_callV (as := [vR 10]) (st := []) dX3_keep_10 kX0_takeFrom lX3_25 (isG_o hw8) rfl rfl rfl rfl (Nat.le_of_ble_eq_true rfl) (Nat.le_of_ble_eq_true rfl) (by omega) ?_
  refine W_X0_takeFrom (by omega) hw8 isG_at10 h (fun v10 h => ?_)
  show n_T G d 0 0 mX3_keep 13 [vR 16, vR 10] [] SH v10 Q
  refine T_aload_n dX3_keep_13 rfl ?_
  refine T_aload_n dX3_keep_14 rfl ?_
  refine T_getI dX3_keep_15 fX3_15 rfl SH_16 ?_
  refine T_iconst dX3_keep_18 (by decide) ?_
  refine U_iadd dX3_keep_19 h.1 ?_
  replace h := h.2
  refine T_bipush dX3_keep_20 (by decide) ?_
  refine T_irem dX3_keep_22 (by decide) ?_
  refine U_putI dX3_keep_23 fX3_15 rfl rfl SH_16 (fun v23 ev23 => ?_)
  replace h := h v23 ev23
  refine T_aload_n dX3_keep_26 rfl ?_
  refine T_aload_n dX3_keep_27 rfl ?_
  refine T_getI dX3_keep_28 fX3_9 rfl SH_16 ?_
  refine T_iconst dX3_keep_31 (by decide) ?_
  refine U_iadd dX3_keep_32 h.1 ?_
  replace h := h.2
  refine T_bipush dX3_keep_33 (by decide) ?_
  refine U_min dX3_keep_35 lX3_29 (by omega) (Nat.le_of_ble_eq_true rfl) ?_
  refine U_putI dX3_keep_38 fX3_9 rfl rfl SH_16 (fun v38 ev38 => ?_)
  replace h := h v38 ev38
  exact T_vret dX3_keep_41 rfl (hQ _ h)

theorem W_X3_bringBack {G : GT} {d : Nat} (hd : 8 ≤ d)    {v : VT} {q : VT → Prop} {Q : Option Vl → List Sh → VT → Prop} (h : P_X3_bringBack  v q) (hQ : ∀ w, q w → Q none SH w) : n_T G d 0 0 mX3_bringBack 0 [vR 16, vR 10] [] SH v Q := by
  unfold P_X3_bringBack at h
  refine T_aload_n dX3_bringBack_0 rfl ?_
  refine T_getI dX3_bringBack_1 fX3_9 rfl SH_16 ?_
  refine U_if_le (tgt := 46) dX3_bringBack_4 (by decide) (fun hc => ?_) (fun hc => ?_)
  · replace h := h.1 hc
    exact T_vret dX3_bringBack_46 rfl (hQ _ h)
  · replace h := h.2 hc
    refine T_aload_n dX3_bringBack_7 rfl ?_
    refine T_aload_n dX3_bringBack_8 rfl ?_
    refine T_getI dX3_bringBack_9 fX3_15 rfl SH_16 ?_
    refine T_bipush dX3_bringBack_12 (by decide) ?_
    refine U_iadd dX3_bringBack_14 h.1 ?_
    replace h := h.2
    refine T_iconst dX3_bringBack_15 (by decide) ?_
    refine U_isub dX3_bringBack_16 h.1 ?_
    replace h := h.2
    refine T_bipush dX3_bringBack_17 (by decide) ?_
    refine T_irem dX3_bringBack_19 (by decide) ?_
    refine U_putI dX3_bringBack_20 fX3_15 rfl rfl SH_16 (fun v20 ev20 => ?_)
    replace h := h v20 ev20
    refine T_aload_n dX3_bringBack_23 rfl ?_
    refine T_dup dX3_bringBack_24 rfl ?_
    refine T_getI dX3_bringBack_25 fX3_9 rfl SH_16 ?_
    refine T_iconst dX3_bringBack_28 (by decide) ?_
    refine U_isub dX3_bringBack_29 h.1 ?_
    replace h := h.2
    refine U_putI dX3_bringBack_30 fX3_9 rfl rfl SH_16 (fun v30 ev30 => ?_)
    replace h := h v30 ev30
    refine T_aload_n dX3_bringBack_33 rfl ?_
    refine T_aload_n dX3_bringBack_34 rfl ?_
    refine T_getR (r := 17) dX3_bringBack_35 fX3_20 rfl SH_16 rfl ?_
    refine T_aload_n dX3_bringBack_38 rfl ?_
    refine T_getI dX3_bringBack_39 fX3_15 rfl SH_16 ?_
    have hw42 := ring_g h.1
    refine T_aald4 dX3_bringBack_42 SH_17 h.1 (ring_q h.1) ?_
    replace h := h.2
    refine U_callV (as := [vR (18 + 6 * (v30 16 1).toNat)]) (st := []) dX3_bringBack_43 kX0_takeFrom lX3_25 SH_10 rfl rfl rfl rfl (Nat.le_of_ble_eq_true rfl) (Nat.le_of_ble_eq_true rfl) (by omega) ?_
    refine W_X0_takeFrom (by omega) isG_at10 hw42 h (fun v43 h => ?_)
    show n_T G d 0 0 mX3_bringBack 46 [vR 16, vR 10] [] SH v43 Q
    exact T_vret dX3_bringBack_46 rfl (hQ _ h)

theorem W_X4_add {G : GT} {d : Nat} (hd : 1 ≤ d) {x1 : Int}   {v : VT} {q : VT → Prop} {Q : Option Vl → List Sh → VT → Prop} (h : P_X4_add x1 v q) (hQ : ∀ w, q w → Q none SH w) : n_T G d 0 0 mX4_add 0 [vR 205, vI x1] [] SH v Q := by
  unfold P_X4_add at h
  refine T_aload_n dX4_add_0 rfl ?_
  refine T_getI dX4_add_1 fX4_15 rfl SH_205 ?_
  refine T_aload_n dX4_add_4 rfl ?_
  refine T_getR (r := 206) dX4_add_5 fX4_9 rfl SH_205 rfl ?_
  refine T_alen dX4_add_8 SH_206 (by decide) ?_
  show n_T G d 0 0 mX4_add 9 [vR 205, vI x1] [vI 123, vI (v 205 1)] SH v Q
  refine U_icmp_ge (tgt := 32) dX4_add_9 (by decide) (fun hc => ?_) (fun hc => ?_)
  · replace h := h.1 hc
    exact T_vret dX4_add_32 rfl (hQ _ h)
  · replace h := h.2 hc
    refine T_aload_n dX4_add_12 rfl ?_
    refine T_getR (r := 206) dX4_add_13 fX4_9 rfl SH_205 rfl ?_
    refine T_aload_n dX4_add_16 rfl ?_
    refine T_getI dX4_add_17 fX4_15 rfl SH_205 ?_
    refine T_iload_n dX4_add_20 rfl ?_
    refine U_iast dX4_add_21 SH_206 h.1 (fun v21 ev21 => ?_)
    replace h := h.2 v21 ev21
    refine T_aload_n dX4_add_22 rfl ?_
    refine T_dup dX4_add_23 rfl ?_
    refine T_getI dX4_add_24 fX4_15 rfl SH_205 ?_
    refine T_iconst dX4_add_27 (by decide) ?_
    refine U_iadd dX4_add_28 h.1 ?_
    replace h := h.2
    refine U_putI dX4_add_29 fX4_15 rfl rfl SH_205 (fun v29 ev29 => ?_)
    replace h := h v29 ev29
    exact T_vret dX4_add_32 rfl (hQ _ h)

theorem W_X4_checkOf {G : GT} {d : Nat} (hd : 1 ≤ d) {a0 : Nat} {n0 : Nat} {x1 : Int} (ha0 : SH[a0]? = some (.inr (0, n0, []))) (hln0 : n0 < 2147483648)  {v : VT} {q : Int → Prop} {Q : Option Vl → List Sh → VT → Prop} (h : P_X4_checkOf a0 n0 x1 v q) (hQ : ∀ r, q r → Q (some (vI r)) SH v) : n_T G d 0 0 mX4_checkOf 0 [vR a0, vI x1, vS 9, vS 9] [] SH v Q := by
  unfold P_X4_checkOf at h
  refine T_sipush dX4_checkOf_0 (by decide) ?_
  refine T_istore_n dX4_checkOf_3 (by decide) rfl ?_
  refine T_iconst dX4_checkOf_4 (by decide) ?_
  refine T_istore_n dX4_checkOf_5 (by decide) rfl ?_
  refine T_drop (h (fun (i2 : Int) (i3 : Int) => n_T G d 0 0 mX4_checkOf 6 [vR a0, vI x1, vI i2, vI i3] [] SH v Q) (fun i2 i3 h => ?_)) ⟨Or.inl rfl, Or.inl rfl, Or.inl rfl, Or.inl rfl, trivial⟩
  refine T_iload_n dX4_checkOf_6 rfl ?_
  refine T_iload_n dX4_checkOf_7 rfl ?_
  refine U_icmp_ge (tgt := 35) dX4_checkOf_8 (by decide) (fun hc => ?_) (fun hc => ?_)
  · replace h := h.1 hc
    refine T_iload_n dX4_checkOf_35 rfl ?_
    exact T_iret dX4_checkOf_36 rfl (hQ _ h)
  · replace h := h.2 hc
    refine T_iload_n dX4_checkOf_11 rfl ?_
    refine T_aload_n dX4_checkOf_12 rfl ?_
    refine T_alen dX4_checkOf_13 ha0 hln0 ?_
    show n_T G d 0 0 mX4_checkOf 14 [vR a0, vI x1, vI i2, vI i3] [vI (n0 : Int), vI i3] SH v Q
    refine U_icmp_ge (tgt := 35) dX4_checkOf_14 (by decide) (fun hc => ?_) (fun hc => ?_)
    · replace h := h.1 hc
      refine T_iload_n dX4_checkOf_35 rfl ?_
      exact T_iret dX4_checkOf_36 rfl (hQ _ h)
    · replace h := h.2 hc
      refine T_iconst dX4_checkOf_17 (by decide) ?_
      refine T_iload_n dX4_checkOf_18 rfl ?_
      refine U_imul dX4_checkOf_19 h.1 ?_
      replace h := h.2
      refine T_aload_n dX4_checkOf_20 rfl ?_
      refine T_iload_n dX4_checkOf_21 rfl ?_
      refine T_iald dX4_checkOf_22 ha0 h.1 ?_
      replace h := h.2
      refine U_iadd dX4_checkOf_23 h.1 ?_
      replace h := h.2
      refine T_sipush dX4_checkOf_24 (by decide) ?_
      refine T_irem dX4_checkOf_27 (by decide) ?_
      refine U_istore_n dX4_checkOf_28 (by decide) rfl (fun l2 el2 => ?_)
      replace h := h l2 el2
      refine U_iinc dX4_checkOf_29 rfl (by decide) rfl h.1 ?_
      replace h := h.2
      refine T_goto (tgt := 6) dX4_checkOf_32 (by decide) ?_
      exact T_drop h ⟨Or.inl rfl, Or.inl rfl, Or.inl rfl, Or.inl rfl, trivial⟩

theorem W_X4_write {G : GT} {d : Nat} (hd : 2 ≤ d)    {v : VT} {q : VT → Prop} {Q : Option Vl → List Sh → VT → Prop} (h : P_X4_write  v q) (hQ : ∀ w, q w → Q none SH w) : n_T G d 0 0 mX4_write 0 [vR 205, vR 10, vS 9] [] SH v Q := by
  unfold P_X4_write at h
  refine T_aload_n dX4_write_0 rfl ?_
  refine T_iconst dX4_write_1 (by decide) ?_
  refine U_putI dX4_write_2 fX4_15 rfl rfl SH_205 (fun v2 ev2 => ?_)
  replace h := h v2 ev2
  refine T_aload_n dX4_write_5 rfl ?_
  refine T_aload_n dX4_write_6 rfl ?_
  refine T_getI dX4_write_7 fX4_26 rfl SH_10 ?_
  refine U_callV (as := [vI (v2 10 0)]) (st := []) dX4_write_10 kX4_add lX4_29 SH_205 rfl rfl rfl rfl (Nat.le_of_ble_eq_true rfl) (Nat.le_of_ble_eq_true rfl) (by omega) ?_
  refine W_X4_add (by omega)  h (fun v10 h => ?_)
  show n_T G d 0 0 mX4_write 13 [vR 205, vR 10, vS 9] [] SH v10 Q
  refine T_aload_n dX4_write_13 rfl ?_
  refine T_aload_n dX4_write_14 rfl ?_
  refine T_getI dX4_write_15 fX4_33 rfl SH_10 ?_
  refine U_callV (as := [vI (v10 10 1)]) (st := []) dX4_write_18 kX4_add lX4_29 SH_205 rfl rfl rfl rfl (Nat.le_of_ble_eq_true rfl) (Nat.le_of_ble_eq_true rfl) (by omega) ?_
  refine W_X4_add (by omega)  h (fun v18 h => ?_)
  show n_T G d 0 0 mX4_write 21 [vR 205, vR 10, vS 9] [] SH v18 Q
  refine T_iconst dX4_write_21 (by decide) ?_
  refine T_istore_n dX4_write_22 (by decide) rfl ?_
  refine T_drop (h (fun (i2 : Int) (v23 : VT) => n_T G d 0 0 mX4_write 23 [vR 205, vR 10, vI i2] [] SH v23 Q) (fun i2 v23 h => ?_)) ⟨Or.inl rfl, Or.inl rfl, Or.inl rfl, trivial⟩
  refine T_iload_n dX4_write_23 rfl ?_
  refine T_aload_n dX4_write_24 rfl ?_
  refine T_getI dX4_write_25 fX4_33 rfl SH_10 ?_
  refine U_icmp_ge (tgt := 57) dX4_write_28 (by decide) (fun hc => ?_) (fun hc => ?_)
  · replace h := h.1 hc
    refine T_aload_n dX4_write_57 rfl ?_
    refine T_aload_n dX4_write_58 rfl ?_
    refine T_getR (r := 206) dX4_write_59 fX4_9 rfl SH_205 rfl ?_
    refine T_aload_n dX4_write_62 rfl ?_
    refine T_getI dX4_write_63 fX4_15 rfl SH_205 ?_
    refine U_callS (as := [vR 206, vI (v23 205 1)]) (st := [vR 205]) dX4_write_66 kX4_checkOf lX4_42 rfl rfl (Nat.le_of_ble_eq_true rfl) (Nat.le_of_ble_eq_true rfl) (by omega) ?_
    refine W_X4_checkOf (by omega) SH_206 (by decide) h (fun r66 h => ?_)
    show n_T G d 0 0 mX4_write 69 [vR 205, vR 10, vI i2] [vI r66, vR 205] SH v23 Q
    refine U_callV (as := [vI r66]) (st := []) dX4_write_69 kX4_add lX4_29 SH_205 rfl rfl rfl rfl (Nat.le_of_ble_eq_true rfl) (Nat.le_of_ble_eq_true rfl) (by omega) ?_
    refine W_X4_add (by omega)  h (fun v69 h => ?_)
    show n_T G d 0 0 mX4_write 72 [vR 205, vR 10, vI i2] [] SH v69 Q
    exact T_vret dX4_write_72 rfl (hQ _ h)
  · replace h := h.2 hc
    refine T_aload_n dX4_write_31 rfl ?_
    refine T_aload_n dX4_write_32 rfl ?_
    refine T_getR (r := 12) dX4_write_33 fX4_36 rfl SH_10 rfl ?_
    refine T_iload_n dX4_write_36 rfl ?_
    refine T_iald dX4_write_37 SH_12 h.1 ?_
    replace h := h.2
    refine U_callV (as := [vI (v23 12 i2.toNat)]) (st := []) dX4_write_38 kX4_add lX4_29 SH_205 rfl rfl rfl rfl (Nat.le_of_ble_eq_true rfl) (Nat.le_of_ble_eq_true rfl) (by omega) ?_
    refine W_X4_add (by omega)  h (fun v38 h => ?_)
    show n_T G d 0 0 mX4_write 41 [vR 205, vR 10, vI i2] [] SH v38 Q
    refine T_aload_n dX4_write_41 rfl ?_
    refine T_aload_n dX4_write_42 rfl ?_
    refine T_getR (r := 13) dX4_write_43 fX4_39 rfl SH_10 rfl ?_
    refine T_iload_n dX4_write_46 rfl ?_
    refine T_iald dX4_write_47 SH_13 h.1 ?_
    replace h := h.2
    refine U_callV (as := [vI (v38 13 i2.toNat)]) (st := []) dX4_write_48 kX4_add lX4_29 SH_205 rfl rfl rfl rfl (Nat.le_of_ble_eq_true rfl) (Nat.le_of_ble_eq_true rfl) (by omega) ?_
    refine W_X4_add (by omega)  h (fun v48 h => ?_)
    show n_T G d 0 0 mX4_write 51 [vR 205, vR 10, vI i2] [] SH v48 Q
    refine U_iinc dX4_write_51 rfl (by decide) rfl h.1 ?_
    replace h := h.2
    refine T_goto (tgt := 23) dX4_write_54 (by decide) ?_
    exact T_drop h ⟨Or.inl rfl, Or.inl rfl, Or.inl rfl, trivial⟩

theorem W_X9_byteAt {G : GT} {d : Nat} (hd : 1 ≤ d) {x1 : Int}   {v : VT} {q : Int → Prop} {Q : Option Vl → List Sh → VT → Prop} (h : P_X9_byteAt x1 v q) (hQ : ∀ r, q r → Q (some (vI r)) SH v) : n_T G d 0 0 mX9_byteAt 0 [vR 1, vI x1] [] SH v Q := by
  unfold P_X9_byteAt at h
  refine T_iload_n dX9_byteAt_0 rfl ?_
  refine U_if_lt (tgt := 21) dX9_byteAt_1 (by decide) (fun hc => ?_) (fun hc => ?_)
  · replace h := h.1 hc
    refine T_iconst dX9_byteAt_21 (by decide) ?_
    exact T_iret dX9_byteAt_22 rfl (hQ _ h)
  · replace h := h.2 hc
    refine T_iload_n dX9_byteAt_4 rfl ?_
    refine T_aload_n dX9_byteAt_5 rfl ?_
    refine T_getI dX9_byteAt_6 fX9_15 rfl SH_1 ?_
    refine U_icmp_ge (tgt := 21) dX9_byteAt_9 (by decide) (fun hc => ?_) (fun hc => ?_)
    · replace h := h.1 hc
      refine T_iconst dX9_byteAt_21 (by decide) ?_
      exact T_iret dX9_byteAt_22 rfl (hQ _ h)
    · replace h := h.2 hc
      refine T_aload_n dX9_byteAt_12 rfl ?_
      refine T_getR (r := 2) dX9_byteAt_13 fX9_9 rfl SH_1 rfl ?_
      refine T_iload_n dX9_byteAt_16 rfl ?_
      refine T_iald dX9_byteAt_17 SH_2 h.1 ?_
      replace h := h.2
      refine T_goto (tgt := 22) dX9_byteAt_18 (by decide) ?_
      exact T_iret dX9_byteAt_22 rfl (hQ _ h)

theorem W_X4_read {G : GT} {d : Nat} (hd : 9 ≤ d)    {v : VT} {q : Int → VT → Prop} {Q : Option Vl → List Sh → VT → Prop} (h : P_X4_read  v q) (hQ : ∀ r w, q r w → Q (some (vI r)) SH w) : n_T G d 0 0 mX4_read 0 [vR 205, vR 1, vS 9, vS 9, vS 9, vS 9, vS 9] [] SH v Q := by
  unfold P_X4_read at h
  refine T_aload_n dX4_read_0 rfl ?_
  refine T_iconst dX4_read_1 (by decide) ?_
  refine U_callV (as := [vI 0]) (st := []) dX4_read_2 kX9_byteAt lX4_46 SH_1 rfl rfl rfl rfl (Nat.le_of_ble_eq_true rfl) (Nat.le_of_ble_eq_true rfl) (by omega) ?_
  refine W_X9_byteAt (by omega)  h (fun r2 h => ?_)
  show n_T G d 0 0 mX4_read 5 [vR 205, vR 1, vS 9, vS 9, vS 9, vS 9, vS 9] [vI r2] SH v Q
  refine T_istore_n dX4_read_5 (by decide) rfl ?_
  refine T_aload_n dX4_read_6 rfl ?_
  refine T_iconst dX4_read_7 (by decide) ?_
  refine U_callV (as := [vI 1]) (st := []) dX4_read_8 kX9_byteAt lX4_46 SH_1 rfl rfl rfl rfl (Nat.le_of_ble_eq_true rfl) (Nat.le_of_ble_eq_true rfl) (by omega) ?_
  refine W_X9_byteAt (by omega)  h (fun r8 h => ?_)
  show n_T G d 0 0 mX4_read 11 [vR 205, vR 1, vI r2, vS 9, vS 9, vS 9, vS 9] [vI r8] SH v Q
  refine T_istore_n dX4_read_11 (by decide) rfl ?_
  refine T_iload_n dX4_read_12 rfl ?_
  refine T_iconst dX4_read_13 (by decide) ?_
  refine U_icmp_lt (tgt := 45) dX4_read_14 (by decide) (fun hc => ?_) (fun hc => ?_)
  · replace h := h.1 hc
    refine T_iconst dX4_read_45 (by decide) ?_
    exact T_zret dX4_read_46 rfl (by decide) (hQ _ _ h)
  · replace h := h.2 hc
    refine T_iload_n dX4_read_17 rfl ?_
    refine T_bipush dX4_read_18 (by decide) ?_
    refine U_icmp_gt (tgt := 45) dX4_read_20 (by decide) (fun hc => ?_) (fun hc => ?_)
    · replace h := h.1 hc
      refine T_iconst dX4_read_45 (by decide) ?_
      exact T_zret dX4_read_46 rfl (by decide) (hQ _ _ h)
    · replace h := h.2 hc
      refine T_iload_n dX4_read_23 rfl ?_
      refine U_if_lt (tgt := 45) dX4_read_24 (by decide) (fun hc => ?_) (fun hc => ?_)
      · replace h := h.1 hc
        refine T_iconst dX4_read_45 (by decide) ?_
        exact T_zret dX4_read_46 rfl (by decide) (hQ _ _ h)
      · replace h := h.2 hc
        refine T_iload_n dX4_read_27 rfl ?_
        refine T_bipush dX4_read_28 (by decide) ?_
        refine U_icmp_gt (tgt := 45) dX4_read_30 (by decide) (fun hc => ?_) (fun hc => ?_)
        · replace h := h.1 hc
          refine T_iconst dX4_read_45 (by decide) ?_
          exact T_zret dX4_read_46 rfl (by decide) (hQ _ _ h)
        · replace h := h.2 hc
          refine T_aload_n dX4_read_33 rfl ?_
          refine T_getI dX4_read_34 fX4_52 rfl SH_1 ?_
          refine T_iconst dX4_read_37 (by decide) ?_
          refine T_iload_n dX4_read_38 rfl ?_
          refine U_imul dX4_read_39 h.1 ?_
          replace h := h.2
          refine T_iconst dX4_read_40 (by decide) ?_
          refine U_iadd dX4_read_41 h.1 ?_
          replace h := h.2
          refine U_icmp_eq (tgt := 47) dX4_read_42 (by decide) (fun hc => ?_) (fun hc => ?_)
          · replace h := h.1 hc
            refine T_aload_n dX4_read_47 rfl ?_
            refine T_aload_n dX4_read_48 rfl ?_
            refine T_getI dX4_read_49 fX4_52 rfl SH_1 ?_
            refine T_iconst dX4_read_52 (by decide) ?_
            refine U_isub dX4_read_53 h.1 ?_
            replace h := h.2
            refine U_callV (as := [vI ((v 1 1) - 1)]) (st := []) dX4_read_54 kX9_byteAt lX4_46 SH_1 rfl rfl rfl rfl (Nat.le_of_ble_eq_true rfl) (Nat.le_of_ble_eq_true rfl) (by omega) ?_
            refine W_X9_byteAt (by omega)  h (fun r54 h => ?_)
            show n_T G d 0 0 mX4_read 57 [vR 205, vR 1, vI r2, vI r8, vS 9, vS 9, vS 9] [vI r54] SH v Q
            refine T_aload_n dX4_read_57 rfl ?_
            refine T_getR (r := 2) dX4_read_58 fX4_53 rfl SH_1 rfl ?_
            refine T_aload_n dX4_read_61 rfl ?_
            refine T_getI dX4_read_62 fX4_52 rfl SH_1 ?_
            refine T_iconst dX4_read_65 (by decide) ?_
            refine U_isub dX4_read_66 h.1 ?_
            replace h := h.2
            refine U_callS (as := [vR 2, vI ((v 1 1) - 1)]) (st := [vI r54]) dX4_read_67 kX4_checkOf lX4_42 rfl rfl (Nat.le_of_ble_eq_true rfl) (Nat.le_of_ble_eq_true rfl) (by omega) ?_
            refine W_X4_checkOf (by omega) SH_2 (by decide) h (fun r67 h => ?_)
            show n_T G d 0 0 mX4_read 70 [vR 205, vR 1, vI r2, vI r8, vS 9, vS 9, vS 9] [vI r67, vI r54] SH v Q
            refine U_icmp_eq (tgt := 75) dX4_read_70 (by decide) (fun hc => ?_) (fun hc => ?_)
            · replace h := h.1 hc
              refine T_aload_n dX4_read_75 rfl ?_
              refine T_getR (r := 207) dX4_read_76 fX4_22 rfl SH_205 rfl ?_
              refine U_callV (as := []) (st := []) dX4_read_79 kX0_wipe lX4_54 SH_207 rfl rfl rfl rfl (Nat.le_of_ble_eq_true rfl) (Nat.le_of_ble_eq_true rfl) (by omega) ?_
              refine W_X0_wipe (by omega) isG_at207 h (fun v79 h => ?_)
              show n_T G d 0 0 mX4_read 82 [vR 205, vR 1, vI r2, vI r8, vS 9, vS 9, vS 9] [] SH v79 Q
              refine T_iconst dX4_read_82 (by decide) ?_
              refine T_istore dX4_read_83 (by decide) rfl ?_
              refine n_cut (h (fun (v105 : VT) => n_T G d 0 0 mX4_read 105 [vR 205, vR 1, vS 9, vI r8, vS 9, vS 9, vS 9] [] SH v105 Q)) ?_ ?_
              · intro v105 h
                refine T_iconst dX4_read_105 (by decide) ?_
                refine T_istore dX4_read_106 (by decide) rfl ?_
                refine T_drop (h (fun (i4 : Int) (v108 : VT) => n_T G d 0 0 mX4_read 108 [vR 205, vR 1, vS 9, vI r8, vI i4, vS 9, vS 9] [] SH v108 Q) (fun i4 v108 h => ?_)) ⟨Or.inl rfl, Or.inl rfl, Or.inr rfl, Or.inl rfl, Or.inl rfl, Or.inr rfl, Or.inr rfl, trivial⟩
                refine T_iload dX4_read_108 rfl ?_
                refine T_iload_n dX4_read_110 rfl ?_
                refine U_icmp_ge (tgt := 179) dX4_read_111 (by decide) (fun hc => ?_) (fun hc => ?_)
                · replace h := h.1 hc
                  refine T_iconst dX4_read_179 (by decide) ?_
                  exact T_zret dX4_read_180 rfl (by decide) (hQ _ _ h)
                · replace h := h.2 hc
                  refine T_aload_n dX4_read_114 rfl ?_
                  refine T_iconst dX4_read_115 (by decide) ?_
                  refine T_iload dX4_read_116 rfl ?_
                  refine U_imul dX4_read_118 h.1 ?_
                  replace h := h.2
                  refine T_iconst dX4_read_119 (by decide) ?_
                  refine U_iadd dX4_read_120 h.1 ?_
                  replace h := h.2
                  refine U_callV (as := [vI ((2 * i4) + 2)]) (st := []) dX4_read_121 kX9_byteAt lX4_46 SH_1 rfl rfl rfl rfl (Nat.le_of_ble_eq_true rfl) (Nat.le_of_ble_eq_true rfl) (by omega) ?_
                  refine W_X9_byteAt (by omega)  h (fun r121 h => ?_)
                  show n_T G d 0 0 mX4_read 124 [vR 205, vR 1, vS 9, vI r8, vI i4, vS 9, vS 9] [vI r121] SH v108 Q
                  refine T_istore dX4_read_124 (by decide) rfl ?_
                  refine T_aload_n dX4_read_126 rfl ?_
                  refine T_iconst dX4_read_127 (by decide) ?_
                  refine T_iload dX4_read_128 rfl ?_
                  refine U_imul dX4_read_130 h.1 ?_
                  replace h := h.2
                  refine T_iconst dX4_read_131 (by decide) ?_
                  refine U_iadd dX4_read_132 h.1 ?_
                  replace h := h.2
                  refine U_callV (as := [vI ((2 * i4) + 3)]) (st := []) dX4_read_133 kX9_byteAt lX4_46 SH_1 rfl rfl rfl rfl (Nat.le_of_ble_eq_true rfl) (Nat.le_of_ble_eq_true rfl) (by omega) ?_
                  refine W_X9_byteAt (by omega)  h (fun r133 h => ?_)
                  show n_T G d 0 0 mX4_read 136 [vR 205, vR 1, vS 9, vI r8, vI i4, vI r121, vS 9] [vI r133] SH v108 Q
                  refine T_istore dX4_read_136 (by decide) rfl ?_
                  refine T_iload dX4_read_138 rfl ?_
                  refine T_iload dX4_read_140 rfl ?_
                  refine U_icmp_ge (tgt := 159) dX4_read_142 (by decide) (fun hc => ?_) (fun hc => ?_)
                  · replace h := h.1 hc
                    refine T_iconst dX4_read_159 (by decide) ?_
                    exact T_zret dX4_read_160 rfl (by decide) (hQ _ _ h)
                  · replace h := h.2 hc
                    refine T_aload_n dX4_read_145 rfl ?_
                    refine T_getR (r := 207) dX4_read_146 fX4_22 rfl SH_205 rfl ?_
                    refine T_iload dX4_read_149 rfl ?_
                    refine T_iload dX4_read_151 rfl ?_
                    refine U_callV (as := [vI r121, vI r133]) (st := []) dX4_read_153 kX0_canJoin lX4_60 SH_207 rfl rfl rfl rfl (Nat.le_of_ble_eq_true rfl) (Nat.le_of_ble_eq_true rfl) (by omega) ?_
                    refine W_X0_canJoin (by omega) isG_at207 h (fun r153 h => ?_)
                    show n_T G d 0 0 mX4_read 156 [vR 205, vR 1, vS 9, vI r8, vI i4, vI r121, vI r133] [vI r153] SH v108 Q
                    refine U_if_ne (tgt := 161) dX4_read_156 (by decide) (fun hc => ?_) (fun hc => ?_)
                    · replace h := h.1 hc
                      refine T_aload_n dX4_read_161 rfl ?_
                      refine T_getR (r := 207) dX4_read_162 fX4_22 rfl SH_205 rfl ?_
                      refine T_iload dX4_read_165 rfl ?_
                      refine T_iload dX4_read_167 rfl ?_
                      refine T_iconst dX4_read_169 (by decide) ?_
                      refine U_callV (as := [vI r121, vI r133, vI 1]) (st := []) dX4_read_170 kX0_addLine lX4_64 SH_207 rfl rfl rfl rfl (Nat.le_of_ble_eq_true rfl) (Nat.le_of_ble_eq_true rfl) (by omega) ?_
                      refine W_X0_addLine (by omega) isG_at207 h (fun v170 h => ?_)
                      show n_T G d 0 0 mX4_read 173 [vR 205, vR 1, vS 9, vI r8, vI i4, vI r121, vI r133] [] SH v170 Q
                      refine U_iinc dX4_read_173 rfl (by decide) rfl h.1 ?_
                      replace h := h.2
                      refine T_goto (tgt := 108) dX4_read_176 (by decide) ?_
                      exact T_drop h ⟨Or.inl rfl, Or.inl rfl, Or.inr rfl, Or.inl rfl, Or.inl rfl, Or.inr rfl, Or.inr rfl, trivial⟩
                    · replace h := h.2 hc
                      refine T_iconst dX4_read_159 (by decide) ?_
                      exact T_zret dX4_read_160 rfl (by decide) (hQ _ _ h)
              · intro h
                refine T_drop (h (fun (i4_1 : Int) (v85 : VT) => n_T G d 0 0 mX4_read 85 [vR 205, vR 1, vI r2, vI r8, vI i4_1, vS 9, vS 9] [] SH v85 Q) (fun i4_1 v85 h => ?_)) ⟨Or.inl rfl, Or.inl rfl, Or.inl rfl, Or.inl rfl, Or.inl rfl, Or.inr rfl, Or.inr rfl, trivial⟩
                refine T_iload dX4_read_85 rfl ?_
                refine T_iload_n dX4_read_87 rfl ?_
                refine U_icmp_ge (tgt := 105) dX4_read_88 (by decide) (fun hc => ?_) (fun hc => ?_)
                · replace h := h.1 hc
                  exact T_drop h ⟨Or.inl rfl, Or.inl rfl, Or.inr rfl, Or.inl rfl, Or.inr rfl, Or.inr rfl, Or.inr rfl, trivial⟩
                · replace h := h.2 hc
                  refine T_aload_n dX4_read_91 rfl ?_
                  refine T_getR (r := 207) dX4_read_92 fX4_22 rfl SH_205 rfl ?_
                  refine T_iconst dX4_read_95 (by decide) ?_
                  refine U_callV (as := [vI 0]) (st := []) dX4_read_96 kX0_addNode lX4_57 SH_207 rfl rfl rfl rfl (Nat.le_of_ble_eq_true rfl) (Nat.le_of_ble_eq_true rfl) (by omega) ?_
                  refine W_X0_addNode (by omega) isG_at207 h (fun v96 h => ?_)
                  show n_T G d 0 0 mX4_read 99 [vR 205, vR 1, vI r2, vI r8, vI i4_1, vS 9, vS 9] [] SH v96 Q
                  refine U_iinc dX4_read_99 rfl (by decide) rfl h.1 ?_
                  replace h := h.2
                  refine T_goto (tgt := 85) dX4_read_102 (by decide) ?_
                  exact T_drop h ⟨Or.inl rfl, Or.inl rfl, Or.inl rfl, Or.inl rfl, Or.inl rfl, Or.inr rfl, Or.inr rfl, trivial⟩
            · replace h := h.2 hc
              refine T_iconst dX4_read_73 (by decide) ?_
              exact T_zret dX4_read_74 rfl (by decide) (hQ _ _ h)
          · replace h := h.2 hc
            refine T_iconst dX4_read_45 (by decide) ?_
            exact T_zret dX4_read_46 rfl (by decide) (hQ _ _ h)

theorem W_X5_skipBlanks {G : GT} {d : Nat} (hd : 2 ≤ d)    {v : VT} {q : VT → Prop} {Q : Option Vl → List Sh → VT → Prop} (h : P_X5_skipBlanks  v q) (hQ : ∀ w, q w → Q none SH w) : n_T G d 0 0 mX5_skipBlanks 0 [vR 3, vR 1] [] SH v Q := by
  unfold P_X5_skipBlanks at h
  refine T_drop (h (fun (v0 : VT) => n_T G d 0 0 mX5_skipBlanks 0 [vR 3, vR 1] [] SH v0 Q) (fun v0 h => ?_)) ⟨Or.inl rfl, Or.inl rfl, trivial⟩
  refine T_aload_n dX5_skipBlanks_0 rfl ?_
  refine T_getI dX5_skipBlanks_1 fX5_28 rfl SH_3 ?_
  refine T_aload_n dX5_skipBlanks_4 rfl ?_
  refine T_getI dX5_skipBlanks_5 fX5_51 rfl SH_1 ?_
  refine U_icmp_ge (tgt := 50) dX5_skipBlanks_8 (by decide) (fun hc => ?_) (fun hc => ?_)
  · replace h := h.1 hc
    exact T_vret dX5_skipBlanks_50 rfl (hQ _ h)
  · replace h := h.2 hc
    refine T_aload_n dX5_skipBlanks_11 rfl ?_
    refine T_aload_n dX5_skipBlanks_12 rfl ?_
    refine T_getI dX5_skipBlanks_13 fX5_28 rfl SH_3 ?_
    refine U_callV (as := [vI (v0 3 4)]) (st := []) dX5_skipBlanks_16 kX9_byteAt lX5_59 SH_1 rfl rfl rfl rfl (Nat.le_of_ble_eq_true rfl) (Nat.le_of_ble_eq_true rfl) (by omega) ?_
    refine W_X9_byteAt (by omega)  h (fun r16 h => ?_)
    show n_T G d 0 0 mX5_skipBlanks 19 [vR 3, vR 1] [vI r16] SH v0 Q
    refine T_bipush dX5_skipBlanks_19 (by decide) ?_
    refine U_icmp_eq (tgt := 37) dX5_skipBlanks_21 (by decide) (fun hc => ?_) (fun hc => ?_)
    · replace h := h.1 hc
      refine T_aload_n dX5_skipBlanks_37 rfl ?_
      refine T_dup dX5_skipBlanks_38 rfl ?_
      refine T_getI dX5_skipBlanks_39 fX5_28 rfl SH_3 ?_
      refine T_iconst dX5_skipBlanks_42 (by decide) ?_
      refine U_iadd dX5_skipBlanks_43 h.1 ?_
      replace h := h.2
      refine U_putI dX5_skipBlanks_44 fX5_28 rfl rfl SH_3 (fun v44 ev44 => ?_)
      replace h := h v44 ev44
      refine T_goto (tgt := 0) dX5_skipBlanks_47 (by decide) ?_
      exact T_drop h ⟨Or.inl rfl, Or.inl rfl, trivial⟩
    · replace h := h.2 hc
      refine T_aload_n dX5_skipBlanks_24 rfl ?_
      refine T_aload_n dX5_skipBlanks_25 rfl ?_
      refine T_getI dX5_skipBlanks_26 fX5_28 rfl SH_3 ?_
      refine U_callV (as := [vI (v0 3 4)]) (st := []) dX5_skipBlanks_29 kX9_byteAt lX5_59 SH_1 rfl rfl rfl rfl (Nat.le_of_ble_eq_true rfl) (Nat.le_of_ble_eq_true rfl) (by omega) ?_
      refine W_X9_byteAt (by omega)  h (fun r29 h => ?_)
      show n_T G d 0 0 mX5_skipBlanks 32 [vR 3, vR 1] [vI r29] SH v0 Q
      refine T_bipush dX5_skipBlanks_32 (by decide) ?_
      refine U_icmp_ne (tgt := 50) dX5_skipBlanks_34 (by decide) (fun hc => ?_) (fun hc => ?_)
      · replace h := h.1 hc
        exact T_vret dX5_skipBlanks_50 rfl (hQ _ h)
      · replace h := h.2 hc
        refine T_aload_n dX5_skipBlanks_37 rfl ?_
        refine T_dup dX5_skipBlanks_38 rfl ?_
        refine T_getI dX5_skipBlanks_39 fX5_28 rfl SH_3 ?_
        refine T_iconst dX5_skipBlanks_42 (by decide) ?_
        refine U_iadd dX5_skipBlanks_43 h.1 ?_
        replace h := h.2
        refine U_putI dX5_skipBlanks_44 fX5_28 rfl rfl SH_3 (fun v44_1 ev44_1 => ?_)
        replace h := h v44_1 ev44_1
        refine T_goto (tgt := 0) dX5_skipBlanks_47 (by decide) ?_
        exact T_drop h ⟨Or.inl rfl, Or.inl rfl, trivial⟩

theorem W_X5_readWord {G : GT} {d : Nat} (hd : 2 ≤ d)    {v : VT} {q : VT → Prop} {Q : Option Vl → List Sh → VT → Prop} (h : P_X5_readWord  v q) (hQ : ∀ w, q w → Q none SH w) : n_T G d 0 0 mX5_readWord 0 [vR 3, vR 1] [] SH v Q := by
  unfold P_X5_readWord at h
  refine T_aload_n dX5_readWord_0 rfl ?_
  refine T_aload_n dX5_readWord_1 rfl ?_
  refine T_getI dX5_readWord_2 fX5_28 rfl SH_3 ?_
  refine U_putI dX5_readWord_5 fX5_31 rfl rfl SH_3 (fun v5 ev5 => ?_)
  replace h := h v5 ev5
  refine T_aload_n dX5_readWord_8 rfl ?_
  refine T_iconst dX5_readWord_9 (by decide) ?_
  refine U_putI dX5_readWord_10 fX5_34 rfl rfl SH_3 (fun v10 ev10 => ?_)
  replace h := h v10 ev10
  refine T_aload_n dX5_readWord_13 rfl ?_
  refine T_iconst dX5_readWord_14 (by decide) ?_
  refine U_putI dX5_readWord_15 fX5_37 rfl rfl SH_3 (fun v15 ev15 => ?_)
  replace h := h v15 ev15
  refine T_drop (h (fun (v18 : VT) => n_T G d 0 0 mX5_readWord 18 [vR 3, vR 1] [] SH v18 Q) (fun v18 h => ?_)) ⟨Or.inl rfl, Or.inl rfl, trivial⟩
  refine T_aload_n dX5_readWord_18 rfl ?_
  refine T_getI dX5_readWord_19 fX5_28 rfl SH_3 ?_
  refine T_aload_n dX5_readWord_22 rfl ?_
  refine T_getI dX5_readWord_23 fX5_51 rfl SH_1 ?_
  refine U_icmp_ge (tgt := 115) dX5_readWord_26 (by decide) (fun hc => ?_) (fun hc => ?_)
  · replace h := h.1 hc
    exact T_vret dX5_readWord_115 rfl (hQ _ h)
  · replace h := h.2 hc
    refine T_aload_n dX5_readWord_29 rfl ?_
    refine T_aload_n dX5_readWord_30 rfl ?_
    refine T_getI dX5_readWord_31 fX5_28 rfl SH_3 ?_
    refine U_callV (as := [vI (v18 3 4)]) (st := []) dX5_readWord_34 kX9_byteAt lX5_59 SH_1 rfl rfl rfl rfl (Nat.le_of_ble_eq_true rfl) (Nat.le_of_ble_eq_true rfl) (by omega) ?_
    refine W_X9_byteAt (by omega)  h (fun r34 h => ?_)
    show n_T G d 0 0 mX5_readWord 37 [vR 3, vR 1] [vI r34] SH v18 Q
    refine T_bipush dX5_readWord_37 (by decide) ?_
    refine U_icmp_lt (tgt := 115) dX5_readWord_39 (by decide) (fun hc => ?_) (fun hc => ?_)
    · replace h := h.1 hc
      exact T_vret dX5_readWord_115 rfl (hQ _ h)
    · replace h := h.2 hc
      refine T_aload_n dX5_readWord_42 rfl ?_
      refine T_aload_n dX5_readWord_43 rfl ?_
      refine T_getI dX5_readWord_44 fX5_28 rfl SH_3 ?_
      refine U_callV (as := [vI (v18 3 4)]) (st := []) dX5_readWord_47 kX9_byteAt lX5_59 SH_1 rfl rfl rfl rfl (Nat.le_of_ble_eq_true rfl) (Nat.le_of_ble_eq_true rfl) (by omega) ?_
      refine W_X9_byteAt (by omega)  h (fun r47 h => ?_)
      show n_T G d 0 0 mX5_readWord 50 [vR 3, vR 1] [vI r47] SH v18 Q
      refine T_bipush dX5_readWord_50 (by decide) ?_
      refine U_icmp_gt (tgt := 115) dX5_readWord_52 (by decide) (fun hc => ?_) (fun hc => ?_)
      · replace h := h.1 hc
        exact T_vret dX5_readWord_115 rfl (hQ _ h)
      · replace h := h.2 hc
        refine T_aload_n dX5_readWord_55 rfl ?_
        refine T_getI dX5_readWord_56 fX5_34 rfl SH_3 ?_
        refine T_iconst dX5_readWord_59 (by decide) ?_
        refine n_cut (h (fun (v92 : VT) => n_T G d 0 0 mX5_readWord 92 [vR 3, vR 1] [] SH v92 Q)) ?_ ?_
        · intro v92 h
          refine T_aload_n dX5_readWord_92 rfl ?_
          refine T_dup dX5_readWord_93 rfl ?_
          refine T_getI dX5_readWord_94 fX5_34 rfl SH_3 ?_
          refine T_iconst dX5_readWord_97 (by decide) ?_
          refine U_iadd dX5_readWord_98 h.1 ?_
          replace h := h.2
          refine U_putI dX5_readWord_99 fX5_34 rfl rfl SH_3 (fun v99 ev99 => ?_)
          replace h := h v99 ev99
          refine T_aload_n dX5_readWord_102 rfl ?_
          refine T_dup dX5_readWord_103 rfl ?_
          refine T_getI dX5_readWord_104 fX5_28 rfl SH_3 ?_
          refine T_iconst dX5_readWord_107 (by decide) ?_
          refine U_iadd dX5_readWord_108 h.1 ?_
          replace h := h.2
          refine U_putI dX5_readWord_109 fX5_28 rfl rfl SH_3 (fun v109 ev109 => ?_)
          replace h := h v109 ev109
          refine T_goto (tgt := 18) dX5_readWord_112 (by decide) ?_
          exact T_drop h ⟨Or.inl rfl, Or.inl rfl, trivial⟩
        · intro h
          refine U_icmp_ge (tgt := 92) dX5_readWord_60 (by decide) (fun hc => ?_) (fun hc => ?_)
          · replace h := h.1 hc
            exact T_drop h ⟨Or.inl rfl, Or.inl rfl, trivial⟩
          · replace h := h.2 hc
            refine T_aload_n dX5_readWord_63 rfl ?_
            refine T_dup dX5_readWord_64 rfl ?_
            refine T_getI dX5_readWord_65 fX5_37 rfl SH_3 ?_
            refine T_aload_n dX5_readWord_68 rfl ?_
            refine T_aload_n dX5_readWord_69 rfl ?_
            refine T_getI dX5_readWord_70 fX5_28 rfl SH_3 ?_
            refine U_callV (as := [vI (v18 3 4)]) (st := [vI (v18 3 7), vR 3]) dX5_readWord_73 kX9_byteAt lX5_59 SH_1 rfl rfl rfl rfl (Nat.le_of_ble_eq_true rfl) (Nat.le_of_ble_eq_true rfl) (by omega) ?_
            refine W_X9_byteAt (by omega)  h (fun r73 h => ?_)
            show n_T G d 0 0 mX5_readWord 76 [vR 3, vR 1] [vI r73, vI (v18 3 7), vR 3] SH v18 Q
            refine T_bipush dX5_readWord_76 (by decide) ?_
            refine U_isub dX5_readWord_78 h.1 ?_
            replace h := h.2
            refine T_iconst dX5_readWord_79 (by decide) ?_
            refine U_iadd dX5_readWord_80 h.1 ?_
            replace h := h.2
            refine T_iconst dX5_readWord_81 (by decide) ?_
            refine T_aload_n dX5_readWord_82 rfl ?_
            refine T_getI dX5_readWord_83 fX5_34 rfl SH_3 ?_
            refine U_imul dX5_readWord_86 h.1 ?_
            replace h := h.2
            refine T_ishl dX5_readWord_87 ?_
            refine T_ior dX5_readWord_88 ?_
            refine U_putI dX5_readWord_89 fX5_37 rfl rfl SH_3 (fun v89 ev89 => ?_)
            replace h := h v89 ev89
            exact T_drop h ⟨Or.inl rfl, Or.inl rfl, trivial⟩

theorem W_X5_isWord {G : GT} {d : Nat} (hd : 7 ≤ d) {k2 : Nat}  (hk2 : k2 = 1 ∨ k2 = 2) {v : VT} {q : Int → Prop} {Q : Option Vl → List Sh → VT → Prop} (h : P_X5_isWord k2 v q) (hQ : ∀ r, q r → Q (some (vI r)) SH v) : n_T G d 0 0 mX5_isWord 0 [vR 3, vR 1, vS k2, vS 9, vS 9] [] SH v Q := by
  unfold P_X5_isWord at h
  refine T_aload_n dX5_isWord_0 rfl ?_
  refine T_getI dX5_isWord_1 fX5_34 rfl SH_3 ?_
  refine T_aload_nS dX5_isWord_4 rfl (n_nd12 hk2) ?_
  refine U_strlen dX5_isWord_5 lX5_63 hk2 (by omega) (Nat.le_of_ble_eq_true rfl) ?_
  refine n_cut (h (fun (s0 : Int) => n_T G d 0 0 mX5_isWord 16 [vR 3, vR 1, vS k2, vS 9, vS 9] [vI s0] SH v Q)) ?_ ?_
  · intro s0 h
    refine T_istore_n dX5_isWord_16 (by decide) rfl ?_
    refine T_iconst dX5_isWord_17 (by decide) ?_
    refine T_istore dX5_isWord_18 (by decide) rfl ?_
    refine T_drop (h (fun (i3 : Int) (i4 : Int) => n_T G d 0 0 mX5_isWord 20 [vR 3, vR 1, vS k2, vI i3, vI i4] [] SH v Q) (fun i3 i4 h => ?_)) ⟨Or.inl rfl, Or.inl rfl, Or.inl rfl, Or.inl rfl, Or.inl rfl, trivial⟩
    refine T_iload_n dX5_isWord_20 rfl ?_
    refine U_if_eq (tgt := 65) dX5_isWord_21 (by decide) (fun hc => ?_) (fun hc => ?_)
    · replace h := h.1 hc
      refine T_iload_n dX5_isWord_65 rfl ?_
      exact T_zret dX5_isWord_66 rfl h.1 (hQ _ h.2)
    · replace h := h.2 hc
      refine T_iload dX5_isWord_24 rfl ?_
      refine T_aload_nS dX5_isWord_26 rfl (n_nd12 hk2) ?_
      refine U_strlen dX5_isWord_27 lX5_63 hk2 (by omega) (Nat.le_of_ble_eq_true rfl) ?_
      refine U_icmp_ge (tgt := 65) dX5_isWord_30 (by decide) (fun hc => ?_) (fun hc => ?_)
      · replace h := h.1 hc
        refine T_iload_n dX5_isWord_65 rfl ?_
        exact T_zret dX5_isWord_66 rfl h.1 (hQ _ h.2)
      · replace h := h.2 hc
        refine T_aload_n dX5_isWord_33 rfl ?_
        refine T_aload_n dX5_isWord_34 rfl ?_
        refine T_getI dX5_isWord_35 fX5_31 rfl SH_3 ?_
        refine T_iload dX5_isWord_38 rfl ?_
        refine U_iadd dX5_isWord_40 h.1 ?_
        replace h := h.2
        refine U_callV (as := [vI ((v 3 5) + i4)]) (st := []) dX5_isWord_41 kX9_byteAt lX5_59 SH_1 rfl rfl rfl rfl (Nat.le_of_ble_eq_true rfl) (Nat.le_of_ble_eq_true rfl) (by omega) ?_
        refine W_X9_byteAt (by omega)  h (fun r41 h => ?_)
        show n_T G d 0 0 mX5_isWord 44 [vR 3, vR 1, vS k2, vI i3, vI i4] [vI r41] SH v Q
        refine T_aload_nS dX5_isWord_44 rfl (n_nd12 hk2) ?_
        refine T_iload dX5_isWord_45 rfl ?_
        refine U_charAt dX5_isWord_47 lX5_68 hk2 h.1 (by omega) (Nat.le_of_ble_eq_true rfl) ?_
        replace h := h.2
        refine U_icmp_ne (tgt := 57) dX5_isWord_50 (by decide) (fun hc => ?_) (fun hc => ?_)
        · replace h := h.1 hc
          refine T_iconst dX5_isWord_57 (by decide) ?_
          refine T_istore_n dX5_isWord_58 (by decide) rfl ?_
          refine U_iinc dX5_isWord_59 rfl (by decide) rfl h.1 ?_
          replace h := h.2
          refine T_goto (tgt := 20) dX5_isWord_62 (by decide) ?_
          exact T_drop h ⟨Or.inl rfl, Or.inl rfl, Or.inl rfl, Or.inl rfl, Or.inl rfl, trivial⟩
        · replace h := h.2 hc
          refine T_iconst dX5_isWord_53 (by decide) ?_
          refine T_goto (tgt := 58) dX5_isWord_54 (by decide) ?_
          refine T_istore_n dX5_isWord_58 (by decide) rfl ?_
          refine U_iinc dX5_isWord_59 rfl (by decide) rfl h.1 ?_
          replace h := h.2
          refine T_goto (tgt := 20) dX5_isWord_62 (by decide) ?_
          exact T_drop h ⟨Or.inl rfl, Or.inl rfl, Or.inl rfl, Or.inl rfl, Or.inl rfl, trivial⟩
  · intro h
    refine U_icmp_ne (tgt := 15) dX5_isWord_8 (by decide) (fun hc => ?_) (fun hc => ?_)
    · replace h := h.1 hc
      refine T_iconst dX5_isWord_15 (by decide) ?_
      exact T_drop h ⟨Or.inl rfl, Or.inl rfl, Or.inl rfl, Or.inr rfl, Or.inr rfl, trivial⟩
    · replace h := h.2 hc
      refine T_iconst dX5_isWord_11 (by decide) ?_
      refine T_goto (tgt := 16) dX5_isWord_12 (by decide) ?_
      exact T_drop h ⟨Or.inl rfl, Or.inl rfl, Or.inl rfl, Or.inr rfl, Or.inr rfl, trivial⟩

theorem W_X5_fail {G : GT} {d : Nat} (hd : 1 ≤ d) {x1 : Int} {x2 : Int}   {v : VT} {q : VT → Prop} {Q : Option Vl → List Sh → VT → Prop} (h : P_X5_fail x1 x2 v q) (hQ : ∀ w, q w → Q none SH w) : n_T G d 0 0 mX5_fail 0 [vR 3, vI x1, vI x2] [] SH v Q := by
  unfold P_X5_fail at h
  refine T_aload_n dX5_fail_0 rfl ?_
  refine T_iload_n dX5_fail_1 rfl ?_
  refine U_putI dX5_fail_2 fX5_18 rfl rfl SH_3 (fun v2 ev2 => ?_)
  replace h := h v2 ev2
  refine T_aload_n dX5_fail_5 rfl ?_
  refine T_iload_n dX5_fail_6 rfl ?_
  refine U_putI dX5_fail_7 fX5_22 rfl rfl SH_3 (fun v7 ev7 => ?_)
  replace h := h v7 ev7
  exact T_vret dX5_fail_10 rfl (hQ _ h)

theorem W_X5_readNameHere {G : GT} {d : Nat} (hd : 8 ≤ d)    {v : VT} {q : VT → Prop} {Q : Option Vl → List Sh → VT → Prop} (h : P_X5_readNameHere  v q) (hQ : ∀ w, q w → Q none SH w) : n_T G d 0 0 mX5_readNameHere 0 [vR 3, vR 1] [] SH v Q := by
  unfold P_X5_readNameHere at h
  refine T_aload_n dX5_readNameHere_0 rfl ?_
  refine T_aload_n dX5_readNameHere_1 rfl ?_
  refine U_callV (as := [vR 1]) (st := []) dX5_readNameHere_2 kX5_skipBlanks lX5_47 SH_3 rfl rfl rfl rfl (Nat.le_of_ble_eq_true rfl) (Nat.le_of_ble_eq_true rfl) (by omega) ?_
  refine W_X5_skipBlanks (by omega)  h (fun v2 h => ?_)
  show n_T G d 0 0 mX5_readNameHere 5 [vR 3, vR 1] [] SH v2 Q
  refine T_aload_n dX5_readNameHere_5 rfl ?_
  refine T_aload_n dX5_readNameHere_6 rfl ?_
  refine U_callV (as := [vR 1]) (st := []) dX5_readNameHere_7 kX5_readWord lX5_56 SH_3 rfl rfl rfl rfl (Nat.le_of_ble_eq_true rfl) (Nat.le_of_ble_eq_true rfl) (by omega) ?_
  refine W_X5_readWord (by omega)  h (fun v7 h => ?_)
  show n_T G d 0 0 mX5_readNameHere 10 [vR 3, vR 1] [] SH v7 Q
  refine T_aload_n dX5_readNameHere_10 rfl ?_
  refine T_getI dX5_readNameHere_11 fX5_34 rfl SH_3 ?_
  refine U_if_eq (tgt := 37) dX5_readNameHere_14 (by decide) (fun hc => ?_) (fun hc => ?_)
  · replace h := h.1 hc
    refine T_aload_n dX5_readNameHere_37 rfl ?_
    refine T_iconst dX5_readNameHere_38 (by decide) ?_
    refine T_aload_n dX5_readNameHere_39 rfl ?_
    refine T_getI dX5_readNameHere_40 fX5_31 rfl SH_3 ?_
    refine U_callV (as := [vI 1, vI (v7 3 5)]) (st := []) dX5_readNameHere_43 kX5_fail lX5_80 SH_3 rfl rfl rfl rfl (Nat.le_of_ble_eq_true rfl) (Nat.le_of_ble_eq_true rfl) (by omega) ?_
    refine W_X5_fail (by omega)  h (fun v43 h => ?_)
    show n_T G d 0 0 mX5_readNameHere 46 [vR 3, vR 1] [] SH v43 Q
    refine T_goto (tgt := 68) dX5_readNameHere_46 (by decide) ?_
    exact T_vret dX5_readNameHere_68 rfl (hQ _ h)
  · replace h := h.2 hc
    refine T_aload_n dX5_readNameHere_17 rfl ?_
    refine T_aload_n dX5_readNameHere_18 rfl ?_
    refine T_ldcS1 dX5_readNameHere_19 rfl ?_
    refine U_callV (as := [vR 1, vS 1]) (st := []) dX5_readNameHere_21 kX5_isWord lX5_76 SH_3 rfl rfl rfl rfl (Nat.le_of_ble_eq_true rfl) (Nat.le_of_ble_eq_true rfl) (by omega) ?_
    refine W_X5_isWord (by omega) (by decide) h (fun r21 h => ?_)
    show n_T G d 0 0 mX5_readNameHere 24 [vR 3, vR 1] [vI r21] SH v7 Q
    refine U_if_ne (tgt := 37) dX5_readNameHere_24 (by decide) (fun hc => ?_) (fun hc => ?_)
    · replace h := h.1 hc
      refine T_aload_n dX5_readNameHere_37 rfl ?_
      refine T_iconst dX5_readNameHere_38 (by decide) ?_
      refine T_aload_n dX5_readNameHere_39 rfl ?_
      refine T_getI dX5_readNameHere_40 fX5_31 rfl SH_3 ?_
      refine U_callV (as := [vI 1, vI (v7 3 5)]) (st := []) dX5_readNameHere_43 kX5_fail lX5_80 SH_3 rfl rfl rfl rfl (Nat.le_of_ble_eq_true rfl) (Nat.le_of_ble_eq_true rfl) (by omega) ?_
      refine W_X5_fail (by omega)  h (fun v43_1 h => ?_)
      show n_T G d 0 0 mX5_readNameHere 46 [vR 3, vR 1] [] SH v43_1 Q
      refine T_goto (tgt := 68) dX5_readNameHere_46 (by decide) ?_
      exact T_vret dX5_readNameHere_68 rfl (hQ _ h)
    · replace h := h.2 hc
      refine T_aload_n dX5_readNameHere_27 rfl ?_
      refine T_aload_n dX5_readNameHere_28 rfl ?_
      refine T_ldcS2 dX5_readNameHere_29 rfl ?_
      refine U_callV (as := [vR 1, vS 2]) (st := []) dX5_readNameHere_31 kX5_isWord lX5_76 SH_3 rfl rfl rfl rfl (Nat.le_of_ble_eq_true rfl) (Nat.le_of_ble_eq_true rfl) (by omega) ?_
      refine W_X5_isWord (by omega) (by decide) h (fun r31 h => ?_)
      show n_T G d 0 0 mX5_readNameHere 34 [vR 3, vR 1] [vI r31] SH v7 Q
      refine U_if_eq (tgt := 49) dX5_readNameHere_34 (by decide) (fun hc => ?_) (fun hc => ?_)
      · replace h := h.1 hc
        refine T_aload_n dX5_readNameHere_49 rfl ?_
        refine T_getI dX5_readNameHere_50 fX5_34 rfl SH_3 ?_
        refine T_iconst dX5_readNameHere_53 (by decide) ?_
        refine U_icmp_le (tgt := 68) dX5_readNameHere_54 (by decide) (fun hc => ?_) (fun hc => ?_)
        · replace h := h.1 hc
          exact T_vret dX5_readNameHere_68 rfl (hQ _ h)
        · replace h := h.2 hc
          refine T_aload_n dX5_readNameHere_57 rfl ?_
          refine T_iconst dX5_readNameHere_58 (by decide) ?_
          refine T_aload_n dX5_readNameHere_59 rfl ?_
          refine T_getI dX5_readNameHere_60 fX5_31 rfl SH_3 ?_
          refine T_iconst dX5_readNameHere_63 (by decide) ?_
          refine U_iadd dX5_readNameHere_64 h.1 ?_
          replace h := h.2
          refine U_callV (as := [vI 1, vI ((v7 3 5) + 4)]) (st := []) dX5_readNameHere_65 kX5_fail lX5_80 SH_3 rfl rfl rfl rfl (Nat.le_of_ble_eq_true rfl) (Nat.le_of_ble_eq_true rfl) (by omega) ?_
          refine W_X5_fail (by omega)  h (fun v65 h => ?_)
          show n_T G d 0 0 mX5_readNameHere 68 [vR 3, vR 1] [] SH v65 Q
          exact T_vret dX5_readNameHere_68 rfl (hQ _ h)
      · replace h := h.2 hc
        refine T_aload_n dX5_readNameHere_37 rfl ?_
        refine T_iconst dX5_readNameHere_38 (by decide) ?_
        refine T_aload_n dX5_readNameHere_39 rfl ?_
        refine T_getI dX5_readNameHere_40 fX5_31 rfl SH_3 ?_
        refine U_callV (as := [vI 1, vI (v7 3 5)]) (st := []) dX5_readNameHere_43 kX5_fail lX5_80 SH_3 rfl rfl rfl rfl (Nat.le_of_ble_eq_true rfl) (Nat.le_of_ble_eq_true rfl) (by omega) ?_
        refine W_X5_fail (by omega)  h (fun v43_2 h => ?_)
        show n_T G d 0 0 mX5_readNameHere 46 [vR 3, vR 1] [] SH v43_2 Q
        refine T_goto (tgt := 68) dX5_readNameHere_46 (by decide) ?_
        exact T_vret dX5_readNameHere_68 rfl (hQ _ h)

theorem W_X5_readStop {G : GT} {d : Nat} (hd : 9 ≤ d) {x2 : Int}   {v : VT} {q : Int → VT → Prop} {Q : Option Vl → List Sh → VT → Prop} (h : P_X5_readStop x2 v q) (hQ : ∀ r w, q r w → Q (some (vI r)) SH w) : n_T G d 0 0 mX5_readStop 0 [vR 3, vR 1, vI x2, vS 9] [] SH v Q := by
  unfold P_X5_readStop at h
  refine T_aload_n dX5_readStop_0 rfl ?_
  refine T_aload_n dX5_readStop_1 rfl ?_
  refine U_callV (as := [vR 1]) (st := []) dX5_readStop_2 kX5_readNameHere lX5_96 SH_3 rfl rfl rfl rfl (Nat.le_of_ble_eq_true rfl) (Nat.le_of_ble_eq_true rfl) (by omega) ?_
  refine W_X5_readNameHere (by omega)  h (fun v2 h => ?_)
  show n_T G d 0 0 mX5_readStop 5 [vR 3, vR 1, vI x2, vS 9] [] SH v2 Q
  refine T_aload_n dX5_readStop_5 rfl ?_
  refine T_getI dX5_readStop_6 fX5_18 rfl SH_3 ?_
  refine n_cut (h (fun (s0 : Int) => n_T G d 0 0 mX5_readStop 27 [vR 3, vS 9, vI x2, vS 9] [vI s0] SH v2 Q)) ?_ ?_
  · intro s0 h
    refine T_istore_n dX5_readStop_27 (by decide) rfl ?_
    refine T_aload_n dX5_readStop_28 rfl ?_
    refine T_getI dX5_readStop_29 fX5_18 rfl SH_3 ?_
    refine n_cut (h (fun (v49 : VT) => n_T G d 0 0 mX5_readStop 49 [vR 3, vS 9, vI x2, vI s0] [] SH v49 Q)) ?_ ?_
    · intro v49 h
      refine T_aload_n dX5_readStop_49 rfl ?_
      refine T_getI dX5_readStop_50 fX5_18 rfl SH_3 ?_
      refine U_if_ne (tgt := 125) dX5_readStop_53 (by decide) (fun hc => ?_) (fun hc => ?_)
      · replace h := h.1 hc
        refine T_iload_n dX5_readStop_125 rfl ?_
        exact T_iret dX5_readStop_126 rfl (hQ _ _ h)
      · replace h := h.2 hc
        refine T_iload_n dX5_readStop_56 rfl ?_
        refine T_iconst dX5_readStop_57 (by decide) ?_
        refine U_icmp_eq (tgt := 125) dX5_readStop_58 (by decide) (fun hc => ?_) (fun hc => ?_)
        · replace h := h.1 hc
          refine T_iload_n dX5_readStop_125 rfl ?_
          exact T_iret dX5_readStop_126 rfl (hQ _ _ h)
        · replace h := h.2 hc
          refine T_iload_n dX5_readStop_61 rfl ?_
          refine T_iload_n dX5_readStop_62 rfl ?_
          refine U_icmp_eq (tgt := 79) dX5_readStop_63 (by decide) (fun hc => ?_) (fun hc => ?_)
          · replace h := h.1 hc
            refine T_aload_n dX5_readStop_79 rfl ?_
            refine T_iconst dX5_readStop_80 (by decide) ?_
            refine T_aload_n dX5_readStop_81 rfl ?_
            refine T_getI dX5_readStop_82 fX5_31 rfl SH_3 ?_
            refine U_callV (as := [vI 4, vI (v49 3 5)]) (st := []) dX5_readStop_85 kX5_fail lX5_80 SH_3 rfl rfl rfl rfl (Nat.le_of_ble_eq_true rfl) (Nat.le_of_ble_eq_true rfl) (by omega) ?_
            refine W_X5_fail (by omega)  h (fun v85 h => ?_)
            show n_T G d 0 0 mX5_readStop 88 [vR 3, vS 9, vI x2, vI s0] [] SH v85 Q
            refine T_goto (tgt := 125) dX5_readStop_88 (by decide) ?_
            refine T_iload_n dX5_readStop_125 rfl ?_
            exact T_iret dX5_readStop_126 rfl (hQ _ _ h)
          · replace h := h.2 hc
            refine T_aload_n dX5_readStop_66 rfl ?_
            refine T_getR (r := 4) dX5_readStop_67 fX5_12 rfl SH_3 rfl ?_
            refine T_iload_n dX5_readStop_70 rfl ?_
            refine T_iload_n dX5_readStop_71 rfl ?_
            refine U_callV (as := [vI x2, vI s0]) (st := []) dX5_readStop_72 kX0_findLine lX5_106 SH_4 rfl rfl rfl rfl (Nat.le_of_ble_eq_true rfl) (Nat.le_of_ble_eq_true rfl) (by omega) ?_
            refine W_X0_findLine (by omega) isG_at4 h (fun r72 h => ?_)
            show n_T G d 0 0 mX5_readStop 75 [vR 3, vS 9, vI x2, vI s0] [vI r72] SH v49 Q
            refine T_iconst dX5_readStop_75 (by decide) ?_
            refine U_icmp_eq (tgt := 91) dX5_readStop_76 (by decide) (fun hc => ?_) (fun hc => ?_)
            · replace h := h.1 hc
              refine T_aload_n dX5_readStop_91 rfl ?_
              refine T_getR (r := 4) dX5_readStop_92 fX5_12 rfl SH_3 rfl ?_
              refine T_getI dX5_readStop_95 fX5_110 rfl SH_4 ?_
              refine T_bipush dX5_readStop_98 (by decide) ?_
              refine U_icmp_lt (tgt := 115) dX5_readStop_100 (by decide) (fun hc => ?_) (fun hc => ?_)
              · replace h := h.1 hc
                refine T_aload_n dX5_readStop_115 rfl ?_
                refine T_getR (r := 4) dX5_readStop_116 fX5_12 rfl SH_3 rfl ?_
                refine T_iload_n dX5_readStop_119 rfl ?_
                refine T_iload_n dX5_readStop_120 rfl ?_
                refine T_iconst dX5_readStop_121 (by decide) ?_
                refine U_callV (as := [vI x2, vI s0, vI 1]) (st := []) dX5_readStop_122 kX0_addLine lX5_113 SH_4 rfl rfl rfl rfl (Nat.le_of_ble_eq_true rfl) (Nat.le_of_ble_eq_true rfl) (by omega) ?_
                refine W_X0_addLine (by omega) isG_at4 h (fun v122 h => ?_)
                show n_T G d 0 0 mX5_readStop 125 [vR 3, vS 9, vI x2, vI s0] [] SH v122 Q
                refine T_iload_n dX5_readStop_125 rfl ?_
                exact T_iret dX5_readStop_126 rfl (hQ _ _ h)
              · replace h := h.2 hc
                refine T_aload_n dX5_readStop_103 rfl ?_
                refine T_iconst dX5_readStop_104 (by decide) ?_
                refine T_aload_n dX5_readStop_105 rfl ?_
                refine T_getI dX5_readStop_106 fX5_31 rfl SH_3 ?_
                refine U_callV (as := [vI 5, vI (v49 3 5)]) (st := []) dX5_readStop_109 kX5_fail lX5_80 SH_3 rfl rfl rfl rfl (Nat.le_of_ble_eq_true rfl) (Nat.le_of_ble_eq_true rfl) (by omega) ?_
                refine W_X5_fail (by omega)  h (fun v109 h => ?_)
                show n_T G d 0 0 mX5_readStop 112 [vR 3, vS 9, vI x2, vI s0] [] SH v109 Q
                refine T_goto (tgt := 125) dX5_readStop_112 (by decide) ?_
                refine T_iload_n dX5_readStop_125 rfl ?_
                exact T_iret dX5_readStop_126 rfl (hQ _ _ h)
            · replace h := h.2 hc
              refine T_aload_n dX5_readStop_79 rfl ?_
              refine T_iconst dX5_readStop_80 (by decide) ?_
              refine T_aload_n dX5_readStop_81 rfl ?_
              refine T_getI dX5_readStop_82 fX5_31 rfl SH_3 ?_
              refine U_callV (as := [vI 4, vI (v49 3 5)]) (st := []) dX5_readStop_85 kX5_fail lX5_80 SH_3 rfl rfl rfl rfl (Nat.le_of_ble_eq_true rfl) (Nat.le_of_ble_eq_true rfl) (by omega) ?_
              refine W_X5_fail (by omega)  h (fun v85_1 h => ?_)
              show n_T G d 0 0 mX5_readStop 88 [vR 3, vS 9, vI x2, vI s0] [] SH v85_1 Q
              refine T_goto (tgt := 125) dX5_readStop_88 (by decide) ?_
              refine T_iload_n dX5_readStop_125 rfl ?_
              exact T_iret dX5_readStop_126 rfl (hQ _ _ h)
    · intro h
      refine U_if_ne (tgt := 49) dX5_readStop_32 (by decide) (fun hc => ?_) (fun hc => ?_)
      · replace h := h.1 hc
        exact T_drop h ⟨Or.inl rfl, Or.inr rfl, Or.inl rfl, Or.inl rfl, trivial⟩
      · replace h := h.2 hc
        refine T_iload_n dX5_readStop_35 rfl ?_
        refine T_iconst dX5_readStop_36 (by decide) ?_
        refine U_icmp_ne (tgt := 49) dX5_readStop_37 (by decide) (fun hc => ?_) (fun hc => ?_)
        · replace h := h.1 hc
          exact T_drop h ⟨Or.inl rfl, Or.inr rfl, Or.inl rfl, Or.inl rfl, trivial⟩
        · replace h := h.2 hc
          refine T_aload_n dX5_readStop_40 rfl ?_
          refine T_iconst dX5_readStop_41 (by decide) ?_
          refine T_aload_n dX5_readStop_42 rfl ?_
          refine T_getI dX5_readStop_43 fX5_31 rfl SH_3 ?_
          refine U_callV (as := [vI 3, vI (v2 3 5)]) (st := []) dX5_readStop_46 kX5_fail lX5_80 SH_3 rfl rfl rfl rfl (Nat.le_of_ble_eq_true rfl) (Nat.le_of_ble_eq_true rfl) (by omega) ?_
          refine W_X5_fail (by omega)  h (fun v46 h => ?_)
          show n_T G d 0 0 mX5_readStop 49 [vR 3, vS 9, vI x2, vI s0] [] SH v46 Q
          exact T_drop h ⟨Or.inl rfl, Or.inr rfl, Or.inl rfl, Or.inl rfl, trivial⟩
  · intro h
    refine U_if_ne (tgt := 26) dX5_readStop_9 (by decide) (fun hc => ?_) (fun hc => ?_)
    · replace h := h.1 hc
      refine T_iconst dX5_readStop_26 (by decide) ?_
      exact T_drop h ⟨Or.inl rfl, Or.inr rfl, Or.inl rfl, Or.inr rfl, trivial⟩
    · replace h := h.2 hc
      refine T_aload_n dX5_readStop_12 rfl ?_
      refine T_getR (r := 4) dX5_readStop_13 fX5_12 rfl SH_3 rfl ?_
      refine T_aload_n dX5_readStop_16 rfl ?_
      refine T_getI dX5_readStop_17 fX5_37 rfl SH_3 ?_
      refine U_callV (as := [vI (v2 3 7)]) (st := []) dX5_readStop_20 kX0_findName lX5_99 SH_4 rfl rfl rfl rfl (Nat.le_of_ble_eq_true rfl) (Nat.le_of_ble_eq_true rfl) (by omega) ?_
      refine W_X0_findName (by omega) isG_at4 h (fun r20 h => ?_)
      show n_T G d 0 0 mX5_readStop 23 [vR 3, vR 1, vI x2, vS 9] [vI r20] SH v2 Q
      refine T_goto (tgt := 27) dX5_readStop_23 (by decide) ?_
      exact T_drop h ⟨Or.inl rfl, Or.inr rfl, Or.inl rfl, Or.inr rfl, trivial⟩

theorem W_X5_readNode {G : GT} {d : Nat} (hd : 9 ≤ d)    {v : VT} {q : Int → VT → Prop} {Q : Option Vl → List Sh → VT → Prop} (h : P_X5_readNode  v q) (hQ : ∀ r w, q r w → Q (some (vI r)) SH w) : n_T G d 0 0 mX5_readNode 0 [vR 3, vR 1] [] SH v Q := by
  unfold P_X5_readNode at h
  refine T_aload_n dX5_readNode_0 rfl ?_
  refine T_aload_n dX5_readNode_1 rfl ?_
  refine U_callV (as := [vR 1]) (st := []) dX5_readNode_2 kX5_readNameHere lX5_96 SH_3 rfl rfl rfl rfl (Nat.le_of_ble_eq_true rfl) (Nat.le_of_ble_eq_true rfl) (by omega) ?_
  refine W_X5_readNameHere (by omega)  h (fun v2 h => ?_)
  show n_T G d 0 0 mX5_readNode 5 [vR 3, vR 1] [] SH v2 Q
  refine T_aload_n dX5_readNode_5 rfl ?_
  refine T_getI dX5_readNode_6 fX5_18 rfl SH_3 ?_
  refine n_cut (h (fun (v36 : VT) => n_T G d 0 0 mX5_readNode 36 [vR 3, vS 9] [] SH v36 Q)) ?_ ?_
  · intro v36 h
    refine T_aload_n dX5_readNode_36 rfl ?_
    refine T_getI dX5_readNode_37 fX5_18 rfl SH_3 ?_
    refine U_if_ne (tgt := 54) dX5_readNode_40 (by decide) (fun hc => ?_) (fun hc => ?_)
    · replace h := h.1 hc
      refine T_iconst dX5_readNode_54 (by decide) ?_
      exact T_iret dX5_readNode_55 rfl (hQ _ _ h)
    · replace h := h.2 hc
      refine T_aload_n dX5_readNode_43 rfl ?_
      refine T_getR (r := 4) dX5_readNode_44 fX5_12 rfl SH_3 rfl ?_
      refine T_aload_n dX5_readNode_47 rfl ?_
      refine T_getI dX5_readNode_48 fX5_37 rfl SH_3 ?_
      refine U_callV (as := [vI (v36 3 7)]) (st := []) dX5_readNode_51 kX0_addNode lX5_102 SH_4 rfl rfl rfl rfl (Nat.le_of_ble_eq_true rfl) (Nat.le_of_ble_eq_true rfl) (by omega) ?_
      refine W_X0_addNode (by omega) isG_at4 h (fun v51 h => ?_)
      show n_T G d 0 0 mX5_readNode 54 [vR 3, vS 9] [] SH v51 Q
      refine T_iconst dX5_readNode_54 (by decide) ?_
      exact T_iret dX5_readNode_55 rfl (hQ _ _ h)
  · intro h
    refine U_if_ne (tgt := 36) dX5_readNode_9 (by decide) (fun hc => ?_) (fun hc => ?_)
    · replace h := h.1 hc
      exact T_drop h ⟨Or.inl rfl, Or.inr rfl, trivial⟩
    · replace h := h.2 hc
      refine T_aload_n dX5_readNode_12 rfl ?_
      refine T_getR (r := 4) dX5_readNode_13 fX5_12 rfl SH_3 rfl ?_
      refine T_aload_n dX5_readNode_16 rfl ?_
      refine T_getI dX5_readNode_17 fX5_37 rfl SH_3 ?_
      refine U_callV (as := [vI (v2 3 7)]) (st := []) dX5_readNode_20 kX0_findName lX5_99 SH_4 rfl rfl rfl rfl (Nat.le_of_ble_eq_true rfl) (Nat.le_of_ble_eq_true rfl) (by omega) ?_
      refine W_X0_findName (by omega) isG_at4 h (fun r20 h => ?_)
      show n_T G d 0 0 mX5_readNode 23 [vR 3, vR 1] [vI r20] SH v2 Q
      refine T_iconst dX5_readNode_23 (by decide) ?_
      refine U_icmp_eq (tgt := 36) dX5_readNode_24 (by decide) (fun hc => ?_) (fun hc => ?_)
      · replace h := h.1 hc
        exact T_drop h ⟨Or.inl rfl, Or.inr rfl, trivial⟩
      · replace h := h.2 hc
        refine T_aload_n dX5_readNode_27 rfl ?_
        refine T_iconst dX5_readNode_28 (by decide) ?_
        refine T_aload_n dX5_readNode_29 rfl ?_
        refine T_getI dX5_readNode_30 fX5_31 rfl SH_3 ?_
        refine U_callV (as := [vI 3, vI (v2 3 5)]) (st := []) dX5_readNode_33 kX5_fail lX5_80 SH_3 rfl rfl rfl rfl (Nat.le_of_ble_eq_true rfl) (Nat.le_of_ble_eq_true rfl) (by omega) ?_
        refine W_X5_fail (by omega)  h (fun v33 h => ?_)
        show n_T G d 0 0 mX5_readNode 36 [vR 3, vR 1] [] SH v33 Q
        exact T_drop h ⟨Or.inl rfl, Or.inr rfl, trivial⟩

theorem W_X5_readComma {G : GT} {d : Nat} (hd : 3 ≤ d) {x2 : Int}   {v : VT} {q : Int → VT → Prop} {Q : Option Vl → List Sh → VT → Prop} (h : P_X5_readComma x2 v q) (hQ : ∀ r w, q r w → Q (some (vI r)) SH w) : n_T G d 0 0 mX5_readComma 0 [vR 3, vR 1, vI x2, vS 9] [] SH v Q := by
  unfold P_X5_readComma at h
  refine T_aload_n dX5_readComma_0 rfl ?_
  refine T_aload_n dX5_readComma_1 rfl ?_
  refine U_callV (as := [vR 1]) (st := []) dX5_readComma_2 kX5_skipBlanks lX5_47 SH_3 rfl rfl rfl rfl (Nat.le_of_ble_eq_true rfl) (Nat.le_of_ble_eq_true rfl) (by omega) ?_
  refine W_X5_skipBlanks (by omega)  h (fun v2 h => ?_)
  show n_T G d 0 0 mX5_readComma 5 [vR 3, vR 1, vI x2, vS 9] [] SH v2 Q
  refine T_aload_n dX5_readComma_5 rfl ?_
  refine T_aload_n dX5_readComma_6 rfl ?_
  refine T_getI dX5_readComma_7 fX5_28 rfl SH_3 ?_
  refine U_callV (as := [vI (v2 3 4)]) (st := []) dX5_readComma_10 kX9_byteAt lX5_59 SH_1 rfl rfl rfl rfl (Nat.le_of_ble_eq_true rfl) (Nat.le_of_ble_eq_true rfl) (by omega) ?_
  refine W_X9_byteAt (by omega)  h (fun r10 h => ?_)
  show n_T G d 0 0 mX5_readComma 13 [vR 3, vR 1, vI x2, vS 9] [vI r10] SH v2 Q
  refine T_istore_n dX5_readComma_13 (by decide) rfl ?_
  refine T_iload_n dX5_readComma_14 rfl ?_
  refine T_bipush dX5_readComma_15 (by decide) ?_
  refine U_icmp_ne (tgt := 32) dX5_readComma_17 (by decide) (fun hc => ?_) (fun hc => ?_)
  · replace h := h.1 hc
    refine T_iload_n dX5_readComma_32 rfl ?_
    refine T_bipush dX5_readComma_33 (by decide) ?_
    refine U_icmp_ne (tgt := 65) dX5_readComma_35 (by decide) (fun hc => ?_) (fun hc => ?_)
    · replace h := h.1 hc
      refine T_aload_n dX5_readComma_65 rfl ?_
      refine T_iconst dX5_readComma_66 (by decide) ?_
      refine T_aload_n dX5_readComma_67 rfl ?_
      refine T_getI dX5_readComma_68 fX5_28 rfl SH_3 ?_
      refine U_callV (as := [vI 1, vI (v2 3 4)]) (st := []) dX5_readComma_71 kX5_fail lX5_80 SH_3 rfl rfl rfl rfl (Nat.le_of_ble_eq_true rfl) (Nat.le_of_ble_eq_true rfl) (by omega) ?_
      refine W_X5_fail (by omega)  h (fun v71 h => ?_)
      show n_T G d 0 0 mX5_readComma 74 [vR 3, vR 1, vI x2, vI r10] [] SH v71 Q
      refine T_iconst dX5_readComma_74 (by decide) ?_
      exact T_zret dX5_readComma_75 rfl (by decide) (hQ _ _ h)
    · replace h := h.2 hc
      refine T_iload_n dX5_readComma_38 rfl ?_
      refine U_if_eq (tgt := 65) dX5_readComma_39 (by decide) (fun hc => ?_) (fun hc => ?_)
      · replace h := h.1 hc
        refine T_aload_n dX5_readComma_65 rfl ?_
        refine T_iconst dX5_readComma_66 (by decide) ?_
        refine T_aload_n dX5_readComma_67 rfl ?_
        refine T_getI dX5_readComma_68 fX5_28 rfl SH_3 ?_
        refine U_callV (as := [vI 1, vI (v2 3 4)]) (st := []) dX5_readComma_71 kX5_fail lX5_80 SH_3 rfl rfl rfl rfl (Nat.le_of_ble_eq_true rfl) (Nat.le_of_ble_eq_true rfl) (by omega) ?_
        refine W_X5_fail (by omega)  h (fun v71_1 h => ?_)
        show n_T G d 0 0 mX5_readComma 74 [vR 3, vR 1, vI x2, vI r10] [] SH v71_1 Q
        refine T_iconst dX5_readComma_74 (by decide) ?_
        exact T_zret dX5_readComma_75 rfl (by decide) (hQ _ _ h)
      · replace h := h.2 hc
        refine T_aload_n dX5_readComma_42 rfl ?_
        refine T_dup dX5_readComma_43 rfl ?_
        refine T_getI dX5_readComma_44 fX5_28 rfl SH_3 ?_
        refine T_iconst dX5_readComma_47 (by decide) ?_
        refine U_iadd dX5_readComma_48 h.1 ?_
        replace h := h.2
        refine U_putI dX5_readComma_49 fX5_28 rfl rfl SH_3 (fun v49 ev49 => ?_)
        replace h := h v49 ev49
        refine T_aload_n dX5_readComma_52 rfl ?_
        refine T_dup dX5_readComma_53 rfl ?_
        refine T_getI dX5_readComma_54 fX5_25 rfl SH_3 ?_
        refine T_iconst dX5_readComma_57 (by decide) ?_
        refine U_iadd dX5_readComma_58 h.1 ?_
        replace h := h.2
        refine U_putI dX5_readComma_59 fX5_25 rfl rfl SH_3 (fun v59 ev59 => ?_)
        replace h := h v59 ev59
        refine T_goto (tgt := 74) dX5_readComma_62 (by decide) ?_
        refine T_iconst dX5_readComma_74 (by decide) ?_
        exact T_zret dX5_readComma_75 rfl (by decide) (hQ _ _ h)
  · replace h := h.2 hc
    refine T_aload_n dX5_readComma_20 rfl ?_
    refine T_dup dX5_readComma_21 rfl ?_
    refine T_getI dX5_readComma_22 fX5_28 rfl SH_3 ?_
    refine T_iconst dX5_readComma_25 (by decide) ?_
    refine U_iadd dX5_readComma_26 h.1 ?_
    replace h := h.2
    refine U_putI dX5_readComma_27 fX5_28 rfl rfl SH_3 (fun v27 ev27 => ?_)
    replace h := h v27 ev27
    refine T_iconst dX5_readComma_30 (by decide) ?_
    exact T_zret dX5_readComma_31 rfl (by decide) (hQ _ _ h)

theorem W_X5_readRow {G : GT} {d : Nat} (hd : 10 ≤ d) {x2 : Int}   {v : VT} {q : VT → Prop} {Q : Option Vl → List Sh → VT → Prop} (h : P_X5_readRow x2 v q) (hQ : ∀ w, q w → Q none SH w) : n_T G d 0 0 mX5_readRow 0 [vR 3, vR 1, vI x2, vS 9, vS 9, vS 9, vS 9] [] SH v Q := by
  unfold P_X5_readRow at h
  refine T_aload_n dX5_readRow_0 rfl ?_
  refine T_aload_n dX5_readRow_1 rfl ?_
  refine U_callV (as := [vR 1]) (st := []) dX5_readRow_2 kX5_skipBlanks lX5_47 SH_3 rfl rfl rfl rfl (Nat.le_of_ble_eq_true rfl) (Nat.le_of_ble_eq_true rfl) (by omega) ?_
  refine W_X5_skipBlanks (by omega)  h (fun v2 h => ?_)
  show n_T G d 0 0 mX5_readRow 5 [vR 3, vR 1, vI x2, vS 9, vS 9, vS 9, vS 9] [] SH v2 Q
  refine T_aload_n dX5_readRow_5 rfl ?_
  refine T_aload_n dX5_readRow_6 rfl ?_
  refine U_callV (as := [vR 1]) (st := []) dX5_readRow_7 kX5_readWord lX5_56 SH_3 rfl rfl rfl rfl (Nat.le_of_ble_eq_true rfl) (Nat.le_of_ble_eq_true rfl) (by omega) ?_
  refine W_X5_readWord (by omega)  h (fun v7 h => ?_)
  show n_T G d 0 0 mX5_readRow 10 [vR 3, vR 1, vI x2, vS 9, vS 9, vS 9, vS 9] [] SH v7 Q
  refine T_aload_n dX5_readRow_10 rfl ?_
  refine T_aload_n dX5_readRow_11 rfl ?_
  refine T_iload_n dX5_readRow_12 rfl ?_
  refine n_cut (h (fun (s0 : Nat) => n_T G d 0 0 mX5_readRow 23 [vR 3, vR 1, vI x2, vS 9, vS 9, vS 9, vS 9] [vS s0, vR 1, vR 3] SH v7 Q)) ?_ ?_
  · intro s0 h
    refine U_callV (as := [vR 1, vS s0]) (st := []) dX5_readRow_23 kX5_isWord lX5_76 SH_3 rfl rfl rfl rfl (Nat.le_of_ble_eq_true rfl) (Nat.le_of_ble_eq_true rfl) (by omega) ?_
    refine W_X5_isWord (by omega) h.1 h.2 (fun r23 h => ?_)
    show n_T G d 0 0 mX5_readRow 26 [vR 3, vR 1, vI x2, vS 9, vS 9, vS 9, vS 9] [vI r23] SH v7 Q
    refine n_cut (h (fun (v38 : VT) => n_T G d 0 0 mX5_readRow 38 [vR 3, vR 1, vI x2, vS 9, vS 9, vS 9, vS 9] [] SH v38 Q)) ?_ ?_
    · intro v38 h
      refine T_iload_n dX5_readRow_38 rfl ?_
      refine n_cut (h (fun (s0_1 : Int) => n_T G d 0 0 mX5_readRow 47 [vR 3, vR 1, vI x2, vS 9, vS 9, vS 9, vS 9] [vI s0_1] SH v38 Q)) ?_ ?_
      · intro s0_1 h
        refine T_istore_n dX5_readRow_47 (by decide) rfl ?_
        refine T_iconst dX5_readRow_48 (by decide) ?_
        refine T_istore dX5_readRow_49 (by decide) rfl ?_
        refine T_aload_n dX5_readRow_51 rfl ?_
        refine T_getI dX5_readRow_52 fX5_18 rfl SH_3 ?_
        refine n_cut (h (fun (s0_2 : Int) => n_T G d 0 0 mX5_readRow 63 [vR 3, vR 1, vI x2, vI s0_1, vI (-1), vS 9, vS 9] [vI s0_2] SH v38 Q)) ?_ ?_
        · intro s0_2 h
          refine T_istore dX5_readRow_63 (by decide) rfl ?_
          refine T_iconst dX5_readRow_65 (by decide) ?_
          refine T_istore dX5_readRow_66 (by decide) rfl ?_
          refine n_cut (h (fun (i5 : Int) (v140 : VT) => n_T G d 0 0 mX5_readRow 140 [vR 3, vR 1, vS 9, vS 9, vS 9, vI i5, vS 9] [] SH v140 Q)) ?_ ?_
          · intro i5 v140 h
            refine T_iload dX5_readRow_140 rfl ?_
            refine U_if_eq (tgt := 174) dX5_readRow_142 (by decide) (fun hc => ?_) (fun hc => ?_)
            · replace h := h.1 hc
              exact T_vret dX5_readRow_174 rfl (hQ _ h)
            · replace h := h.2 hc
              refine T_aload_n dX5_readRow_145 rfl ?_
              refine T_aload_n dX5_readRow_146 rfl ?_
              refine U_callV (as := [vR 1]) (st := []) dX5_readRow_147 kX5_skipBlanks lX5_47 SH_3 rfl rfl rfl rfl (Nat.le_of_ble_eq_true rfl) (Nat.le_of_ble_eq_true rfl) (by omega) ?_
              refine W_X5_skipBlanks (by omega)  h (fun v147 h => ?_)
              show n_T G d 0 0 mX5_readRow 150 [vR 3, vR 1, vS 9, vS 9, vS 9, vI i5, vS 9] [] SH v147 Q
              refine T_aload_n dX5_readRow_150 rfl ?_
              refine T_aload_n dX5_readRow_151 rfl ?_
              refine T_getI dX5_readRow_152 fX5_28 rfl SH_3 ?_
              refine T_aload_n dX5_readRow_155 rfl ?_
              refine T_getI dX5_readRow_156 fX5_51 rfl SH_1 ?_
              refine U_icmp_ge (tgt := 166) dX5_readRow_159 (by decide) (fun hc => ?_) (fun hc => ?_)
              · replace h := h.1 hc
                refine T_iconst dX5_readRow_166 (by decide) ?_
                refine T_aload_n dX5_readRow_167 rfl ?_
                refine T_getI dX5_readRow_168 fX5_28 rfl SH_3 ?_
                refine U_callV (as := [vI 1, vI (v147 3 4)]) (st := []) dX5_readRow_171 kX5_fail lX5_80 SH_3 rfl rfl rfl rfl (Nat.le_of_ble_eq_true rfl) (Nat.le_of_ble_eq_true rfl) (by omega) ?_
                refine W_X5_fail (by omega)  h (fun v171 h => ?_)
                show n_T G d 0 0 mX5_readRow 174 [vR 3, vR 1, vS 9, vS 9, vS 9, vI i5, vS 9] [] SH v171 Q
                exact T_vret dX5_readRow_174 rfl (hQ _ h)
              · replace h := h.2 hc
                refine T_iconst dX5_readRow_162 (by decide) ?_
                refine T_goto (tgt := 167) dX5_readRow_163 (by decide) ?_
                refine T_aload_n dX5_readRow_167 rfl ?_
                refine T_getI dX5_readRow_168 fX5_28 rfl SH_3 ?_
                refine U_callV (as := [vI 5, vI (v147 3 4)]) (st := []) dX5_readRow_171 kX5_fail lX5_80 SH_3 rfl rfl rfl rfl (Nat.le_of_ble_eq_true rfl) (Nat.le_of_ble_eq_true rfl) (by omega) ?_
                refine W_X5_fail (by omega)  h (fun v171_1 h => ?_)
                show n_T G d 0 0 mX5_readRow 174 [vR 3, vR 1, vS 9, vS 9, vS 9, vI i5, vS 9] [] SH v171_1 Q
                exact T_vret dX5_readRow_174 rfl (hQ _ h)
          · intro h
            refine T_drop (h (fun (i4 : Int) (i5_1 : Int) (i6 : Int) (v68 : VT) => n_T G d 0 0 mX5_readRow 68 [vR 3, vR 1, vI x2, vI s0_1, vI i4, vI i5_1, vI i6] [] SH v68 Q) (fun i4 i5_1 i6 v68 h => ?_)) ⟨Or.inl rfl, Or.inl rfl, Or.inl rfl, Or.inl rfl, Or.inl rfl, Or.inl rfl, Or.inl rfl, trivial⟩
            refine T_iload dX5_readRow_68 rfl ?_
            refine U_if_eq (tgt := 140) dX5_readRow_70 (by decide) (fun hc => ?_) (fun hc => ?_)
            · replace h := h.1 hc
              exact T_drop h ⟨Or.inl rfl, Or.inl rfl, Or.inr rfl, Or.inr rfl, Or.inr rfl, Or.inl rfl, Or.inr rfl, trivial⟩
            · replace h := h.2 hc
              refine T_iload dX5_readRow_73 rfl ?_
              refine T_bipush dX5_readRow_75 (by decide) ?_
              refine U_icmp_gt (tgt := 140) dX5_readRow_77 (by decide) (fun hc => ?_) (fun hc => ?_)
              · replace h := h.1 hc
                exact T_drop h ⟨Or.inl rfl, Or.inl rfl, Or.inr rfl, Or.inr rfl, Or.inr rfl, Or.inl rfl, Or.inr rfl, trivial⟩
              · replace h := h.2 hc
                refine T_iload_n dX5_readRow_80 rfl ?_
                refine n_cut (h (fun (s0_3 : Int) (v99 : VT) => n_T G d 0 0 mX5_readRow 99 [vR 3, vR 1, vI x2, vI s0_1, vS 9, vS 9, vI i6] [vI s0_3] SH v99 Q)) ?_ ?_
                · intro s0_3 v99 h
                  refine T_istore dX5_readRow_99 (by decide) rfl ?_
                  refine T_aload_n dX5_readRow_101 rfl ?_
                  refine T_getI dX5_readRow_102 fX5_18 rfl SH_3 ?_
                  refine U_if_ne (tgt := 131) dX5_readRow_105 (by decide) (fun hc => ?_) (fun hc => ?_)
                  · replace h := h.1 hc
                    refine T_iconst dX5_readRow_131 (by decide) ?_
                    refine T_istore dX5_readRow_132 (by decide) rfl ?_
                    refine U_iinc dX5_readRow_134 rfl (by decide) rfl h.1 ?_
                    replace h := h.2
                    refine T_goto (tgt := 68) dX5_readRow_137 (by decide) ?_
                    exact T_drop h ⟨Or.inl rfl, Or.inl rfl, Or.inl rfl, Or.inl rfl, Or.inl rfl, Or.inl rfl, Or.inl rfl, trivial⟩
                  · replace h := h.2 hc
                    refine T_aload_n dX5_readRow_108 rfl ?_
                    refine T_aload_n dX5_readRow_109 rfl ?_
                    refine T_iload dX5_readRow_110 rfl ?_
                    refine T_iload_n dX5_readRow_112 rfl ?_
                    refine U_icmp_lt (tgt := 120) dX5_readRow_113 (by decide) (fun hc => ?_) (fun hc => ?_)
                    · replace h := h.1 hc
                      refine T_iconst dX5_readRow_120 (by decide) ?_
                      refine U_callV (as := [vR 1, vI 0]) (st := []) dX5_readRow_121 kX5_readComma lX5_92 SH_3 rfl rfl rfl rfl (Nat.le_of_ble_eq_true rfl) (Nat.le_of_ble_eq_true rfl) (by omega) ?_
                      refine W_X5_readComma (by omega)  h (fun r121 v121 h => ?_)
                      show n_T G d 0 0 mX5_readRow 124 [vR 3, vR 1, vI x2, vI s0_1, vI s0_3, vS 9, vI i6] [vI r121] SH v121 Q
                      refine U_if_eq (tgt := 131) dX5_readRow_124 (by decide) (fun hc => ?_) (fun hc => ?_)
                      · replace h := h.1 hc
                        refine T_iconst dX5_readRow_131 (by decide) ?_
                        refine T_istore dX5_readRow_132 (by decide) rfl ?_
                        refine U_iinc dX5_readRow_134 rfl (by decide) rfl h.1 ?_
                        replace h := h.2
                        refine T_goto (tgt := 68) dX5_readRow_137 (by decide) ?_
                        exact T_drop h ⟨Or.inl rfl, Or.inl rfl, Or.inl rfl, Or.inl rfl, Or.inl rfl, Or.inl rfl, Or.inl rfl, trivial⟩
                      · replace h := h.2 hc
                        refine T_iconst dX5_readRow_127 (by decide) ?_
                        refine T_goto (tgt := 132) dX5_readRow_128 (by decide) ?_
                        refine T_istore dX5_readRow_132 (by decide) rfl ?_
                        refine U_iinc dX5_readRow_134 rfl (by decide) rfl h.1 ?_
                        replace h := h.2
                        refine T_goto (tgt := 68) dX5_readRow_137 (by decide) ?_
                        exact T_drop h ⟨Or.inl rfl, Or.inl rfl, Or.inl rfl, Or.inl rfl, Or.inl rfl, Or.inl rfl, Or.inl rfl, trivial⟩
                    · replace h := h.2 hc
                      refine T_iconst dX5_readRow_116 (by decide) ?_
                      refine T_goto (tgt := 121) dX5_readRow_117 (by decide) ?_
                      refine U_callV (as := [vR 1, vI 1]) (st := []) dX5_readRow_121 kX5_readComma lX5_92 SH_3 rfl rfl rfl rfl (Nat.le_of_ble_eq_true rfl) (Nat.le_of_ble_eq_true rfl) (by omega) ?_
                      refine W_X5_readComma (by omega)  h (fun r121_1 v121_1 h => ?_)
                      show n_T G d 0 0 mX5_readRow 124 [vR 3, vR 1, vI x2, vI s0_1, vI s0_3, vS 9, vI i6] [vI r121_1] SH v121_1 Q
                      refine U_if_eq (tgt := 131) dX5_readRow_124 (by decide) (fun hc => ?_) (fun hc => ?_)
                      · replace h := h.1 hc
                        refine T_iconst dX5_readRow_131 (by decide) ?_
                        refine T_istore dX5_readRow_132 (by decide) rfl ?_
                        refine U_iinc dX5_readRow_134 rfl (by decide) rfl h.1 ?_
                        replace h := h.2
                        refine T_goto (tgt := 68) dX5_readRow_137 (by decide) ?_
                        exact T_drop h ⟨Or.inl rfl, Or.inl rfl, Or.inl rfl, Or.inl rfl, Or.inl rfl, Or.inl rfl, Or.inl rfl, trivial⟩
                      · replace h := h.2 hc
                        refine T_iconst dX5_readRow_127 (by decide) ?_
                        refine T_goto (tgt := 132) dX5_readRow_128 (by decide) ?_
                        refine T_istore dX5_readRow_132 (by decide) rfl ?_
                        refine U_iinc dX5_readRow_134 rfl (by decide) rfl h.1 ?_
                        replace h := h.2
                        refine T_goto (tgt := 68) dX5_readRow_137 (by decide) ?_
                        exact T_drop h ⟨Or.inl rfl, Or.inl rfl, Or.inl rfl, Or.inl rfl, Or.inl rfl, Or.inl rfl, Or.inl rfl, trivial⟩
                · intro h
                  refine U_if_eq (tgt := 94) dX5_readRow_81 (by decide) (fun hc => ?_) (fun hc => ?_)
                  · replace h := h.1 hc
                    refine T_aload_n dX5_readRow_94 rfl ?_
                    refine T_aload_n dX5_readRow_95 rfl ?_
                    refine U_callV (as := [vR 1]) (st := []) dX5_readRow_96 kX5_readNode lX5_88 SH_3 rfl rfl rfl rfl (Nat.le_of_ble_eq_true rfl) (Nat.le_of_ble_eq_true rfl) (by omega) ?_
                    refine W_X5_readNode (by omega)  h (fun r96 v96 h => ?_)
                    show n_T G d 0 0 mX5_readRow 99 [vR 3, vR 1, vI x2, vI s0_1, vI i4, vI i5_1, vI i6] [vI r96] SH v96 Q
                    exact T_drop h ⟨Or.inl rfl, Or.inl rfl, Or.inl rfl, Or.inl rfl, Or.inr rfl, Or.inr rfl, Or.inl rfl, trivial⟩
                  · replace h := h.2 hc
                    refine T_aload_n dX5_readRow_84 rfl ?_
                    refine T_aload_n dX5_readRow_85 rfl ?_
                    refine T_iload dX5_readRow_86 rfl ?_
                    refine U_callV (as := [vR 1, vI i4]) (st := []) dX5_readRow_88 kX5_readStop lX5_84 SH_3 rfl rfl rfl rfl (Nat.le_of_ble_eq_true rfl) (Nat.le_of_ble_eq_true rfl) (by omega) ?_
                    refine W_X5_readStop (by omega)  h (fun r88 v88 h => ?_)
                    show n_T G d 0 0 mX5_readRow 91 [vR 3, vR 1, vI x2, vI s0_1, vI i4, vI i5_1, vI i6] [vI r88] SH v88 Q
                    refine T_goto (tgt := 99) dX5_readRow_91 (by decide) ?_
                    exact T_drop h ⟨Or.inl rfl, Or.inl rfl, Or.inl rfl, Or.inl rfl, Or.inr rfl, Or.inr rfl, Or.inl rfl, trivial⟩
        · intro h
          refine U_if_ne (tgt := 62) dX5_readRow_55 (by decide) (fun hc => ?_) (fun hc => ?_)
          · replace h := h.1 hc
            refine T_iconst dX5_readRow_62 (by decide) ?_
            exact T_drop h ⟨Or.inl rfl, Or.inl rfl, Or.inl rfl, Or.inl rfl, Or.inl rfl, Or.inr rfl, Or.inr rfl, trivial⟩
          · replace h := h.2 hc
            refine T_iconst dX5_readRow_58 (by decide) ?_
            refine T_goto (tgt := 63) dX5_readRow_59 (by decide) ?_
            exact T_drop h ⟨Or.inl rfl, Or.inl rfl, Or.inl rfl, Or.inl rfl, Or.inl rfl, Or.inr rfl, Or.inr rfl, trivial⟩
      · intro h
        refine U_if_eq (tgt := 46) dX5_readRow_39 (by decide) (fun hc => ?_) (fun hc => ?_)
        · replace h := h.1 hc
          refine T_iconst dX5_readRow_46 (by decide) ?_
          exact T_drop h ⟨Or.inl rfl, Or.inl rfl, Or.inl rfl, Or.inr rfl, Or.inr rfl, Or.inr rfl, Or.inr rfl, trivial⟩
        · replace h := h.2 hc
          refine T_iconst dX5_readRow_42 (by decide) ?_
          refine T_goto (tgt := 47) dX5_readRow_43 (by decide) ?_
          exact T_drop h ⟨Or.inl rfl, Or.inl rfl, Or.inl rfl, Or.inr rfl, Or.inr rfl, Or.inr rfl, Or.inr rfl, trivial⟩
    · intro h
      refine U_if_ne (tgt := 38) dX5_readRow_26 (by decide) (fun hc => ?_) (fun hc => ?_)
      · replace h := h.1 hc
        exact T_drop h ⟨Or.inl rfl, Or.inl rfl, Or.inl rfl, Or.inr rfl, Or.inr rfl, Or.inr rfl, Or.inr rfl, trivial⟩
      · replace h := h.2 hc
        refine T_aload_n dX5_readRow_29 rfl ?_
        refine T_iconst dX5_readRow_30 (by decide) ?_
        refine T_aload_n dX5_readRow_31 rfl ?_
        refine T_getI dX5_readRow_32 fX5_31 rfl SH_3 ?_
        refine U_callV (as := [vI 1, vI (v7 3 5)]) (st := []) dX5_readRow_35 kX5_fail lX5_80 SH_3 rfl rfl rfl rfl (Nat.le_of_ble_eq_true rfl) (Nat.le_of_ble_eq_true rfl) (by omega) ?_
        refine W_X5_fail (by omega)  h (fun v35 h => ?_)
        show n_T G d 0 0 mX5_readRow 38 [vR 3, vR 1, vI x2, vS 9, vS 9, vS 9, vS 9] [] SH v35 Q
        exact T_drop h ⟨Or.inl rfl, Or.inl rfl, Or.inl rfl, Or.inr rfl, Or.inr rfl, Or.inr rfl, Or.inr rfl, trivial⟩
  · intro h
    refine U_if_eq (tgt := 21) dX5_readRow_13 (by decide) (fun hc => ?_) (fun hc => ?_)
    · replace h := h.1 hc
      refine T_ldcS1 dX5_readRow_21 rfl ?_
      exact T_drop h ⟨Or.inl rfl, Or.inl rfl, Or.inl rfl, Or.inr rfl, Or.inr rfl, Or.inr rfl, Or.inr rfl, trivial⟩
    · replace h := h.2 hc
      refine T_ldcS2 dX5_readRow_16 rfl ?_
      refine T_goto (tgt := 23) dX5_readRow_18 (by decide) ?_
      exact T_drop h ⟨Or.inl rfl, Or.inl rfl, Or.inl rfl, Or.inr rfl, Or.inr rfl, Or.inr rfl, Or.inr rfl, trivial⟩

theorem W_X5_readNet {G : GT} {d : Nat} (hd : 11 ≤ d)    {v : VT} {q : VT → Prop} {Q : Option Vl → List Sh → VT → Prop} (h : P_X5_readNet  v q) (hQ : ∀ w, q w → Q none SH w) : n_T G d 0 0 mX5_readNet 0 [vR 3, vR 1, vS 9] [] SH v Q := by
  unfold P_X5_readNet at h
  refine T_aload_n dX5_readNet_0 rfl ?_
  refine T_getR (r := 4) dX5_readNet_1 fX5_12 rfl SH_3 rfl ?_
  refine U_callV (as := []) (st := []) dX5_readNet_4 kX0_wipe lX5_40 SH_4 rfl rfl rfl rfl (Nat.le_of_ble_eq_true rfl) (Nat.le_of_ble_eq_true rfl) (by omega) ?_
  refine W_X0_wipe (by omega) isG_at4 h (fun v4 h => ?_)
  show n_T G d 0 0 mX5_readNet 7 [vR 3, vR 1, vS 9] [] SH v4 Q
  refine T_aload_n dX5_readNet_7 rfl ?_
  refine T_iconst dX5_readNet_8 (by decide) ?_
  refine U_putI dX5_readNet_9 fX5_18 rfl rfl SH_3 (fun v9 ev9 => ?_)
  replace h := h v9 ev9
  refine T_aload_n dX5_readNet_12 rfl ?_
  refine T_iconst dX5_readNet_13 (by decide) ?_
  refine U_putI dX5_readNet_14 fX5_22 rfl rfl SH_3 (fun v14 ev14 => ?_)
  replace h := h v14 ev14
  refine T_aload_n dX5_readNet_17 rfl ?_
  refine T_iconst dX5_readNet_18 (by decide) ?_
  refine U_putI dX5_readNet_19 fX5_25 rfl rfl SH_3 (fun v19 ev19 => ?_)
  replace h := h v19 ev19
  refine T_aload_n dX5_readNet_22 rfl ?_
  refine T_iconst dX5_readNet_23 (by decide) ?_
  refine U_putI dX5_readNet_24 fX5_28 rfl rfl SH_3 (fun v24 ev24 => ?_)
  replace h := h v24 ev24
  refine T_aload_n dX5_readNet_27 rfl ?_
  refine T_aload_n dX5_readNet_28 rfl ?_
  refine T_iconst dX5_readNet_29 (by decide) ?_
  refine U_callV (as := [vR 1, vI 0]) (st := []) dX5_readNet_30 kX5_readRow lX5_43 SH_3 rfl rfl rfl rfl (Nat.le_of_ble_eq_true rfl) (Nat.le_of_ble_eq_true rfl) (by omega) ?_
  refine W_X5_readRow (by omega)  h (fun v30 h => ?_)
  show n_T G d 0 0 mX5_readNet 33 [vR 3, vR 1, vS 9] [] SH v30 Q
  refine T_aload_n dX5_readNet_33 rfl ?_
  refine T_aload_n dX5_readNet_34 rfl ?_
  refine U_callV (as := [vR 1]) (st := []) dX5_readNet_35 kX5_skipBlanks lX5_47 SH_3 rfl rfl rfl rfl (Nat.le_of_ble_eq_true rfl) (Nat.le_of_ble_eq_true rfl) (by omega) ?_
  refine W_X5_skipBlanks (by omega)  h (fun v35 h => ?_)
  show n_T G d 0 0 mX5_readNet 38 [vR 3, vR 1, vS 9] [] SH v35 Q
  refine T_iconst dX5_readNet_38 (by decide) ?_
  refine T_istore_n dX5_readNet_39 (by decide) rfl ?_
  refine T_drop (h (fun (i2 : Int) (v40 : VT) => n_T G d 0 0 mX5_readNet 40 [vR 3, vR 1, vI i2] [] SH v40 Q) (fun i2 v40 h => ?_)) ⟨Or.inl rfl, Or.inl rfl, Or.inl rfl, trivial⟩
  refine T_iload_n dX5_readNet_40 rfl ?_
  refine T_sipush dX5_readNet_41 (by decide) ?_
  refine U_icmp_ge (tgt := 82) dX5_readNet_44 (by decide) (fun hc => ?_) (fun hc => ?_)
  · replace h := h.1 hc
    exact T_vret dX5_readNet_82 rfl (hQ _ h)
  · replace h := h.2 hc
    refine T_aload_n dX5_readNet_47 rfl ?_
    refine T_getI dX5_readNet_48 fX5_18 rfl SH_3 ?_
    refine U_if_ne (tgt := 82) dX5_readNet_51 (by decide) (fun hc => ?_) (fun hc => ?_)
    · replace h := h.1 hc
      exact T_vret dX5_readNet_82 rfl (hQ _ h)
    · replace h := h.2 hc
      refine T_aload_n dX5_readNet_54 rfl ?_
      refine T_getI dX5_readNet_55 fX5_28 rfl SH_3 ?_
      refine T_aload_n dX5_readNet_58 rfl ?_
      refine T_getI dX5_readNet_59 fX5_51 rfl SH_1 ?_
      refine U_icmp_ge (tgt := 82) dX5_readNet_62 (by decide) (fun hc => ?_) (fun hc => ?_)
      · replace h := h.1 hc
        exact T_vret dX5_readNet_82 rfl (hQ _ h)
      · replace h := h.2 hc
        refine T_aload_n dX5_readNet_65 rfl ?_
        refine T_aload_n dX5_readNet_66 rfl ?_
        refine T_iconst dX5_readNet_67 (by decide) ?_
        refine U_callV (as := [vR 1, vI 1]) (st := []) dX5_readNet_68 kX5_readRow lX5_43 SH_3 rfl rfl rfl rfl (Nat.le_of_ble_eq_true rfl) (Nat.le_of_ble_eq_true rfl) (by omega) ?_
        refine W_X5_readRow (by omega)  h (fun v68 h => ?_)
        show n_T G d 0 0 mX5_readNet 71 [vR 3, vR 1, vI i2] [] SH v68 Q
        refine T_aload_n dX5_readNet_71 rfl ?_
        refine T_aload_n dX5_readNet_72 rfl ?_
        refine U_callV (as := [vR 1]) (st := []) dX5_readNet_73 kX5_skipBlanks lX5_47 SH_3 rfl rfl rfl rfl (Nat.le_of_ble_eq_true rfl) (Nat.le_of_ble_eq_true rfl) (by omega) ?_
        refine W_X5_skipBlanks (by omega)  h (fun v73 h => ?_)
        show n_T G d 0 0 mX5_readNet 76 [vR 3, vR 1, vI i2] [] SH v73 Q
        refine U_iinc dX5_readNet_76 rfl (by decide) rfl h.1 ?_
        replace h := h.2
        refine T_goto (tgt := 40) dX5_readNet_79 (by decide) ?_
        exact T_drop h ⟨Or.inl rfl, Or.inl rfl, Or.inl rfl, trivial⟩

theorem W_X5_readName {G : GT} {d : Nat} (hd : 3 ≤ d)    {v : VT} {q : Int → VT → Prop} {Q : Option Vl → List Sh → VT → Prop} (h : P_X5_readName  v q) (hQ : ∀ r w, q r w → Q (some (vI r)) SH w) : n_T G d 0 0 mX5_readName 0 [vR 3, vR 1, vS 9] [] SH v Q := by
  unfold P_X5_readName at h
  refine T_aload_n dX5_readName_0 rfl ?_
  refine T_iconst dX5_readName_1 (by decide) ?_
  refine U_putI dX5_readName_2 fX5_28 rfl rfl SH_3 (fun v2 ev2 => ?_)
  replace h := h v2 ev2
  refine T_aload_n dX5_readName_5 rfl ?_
  refine T_aload_n dX5_readName_6 rfl ?_
  refine U_callV (as := [vR 1]) (st := []) dX5_readName_7 kX5_readWord lX5_56 SH_3 rfl rfl rfl rfl (Nat.le_of_ble_eq_true rfl) (Nat.le_of_ble_eq_true rfl) (by omega) ?_
  refine W_X5_readWord (by omega)  h (fun v7 h => ?_)
  show n_T G d 0 0 mX5_readName 10 [vR 3, vR 1, vS 9] [] SH v7 Q
  refine T_aload_n dX5_readName_10 rfl ?_
  refine T_getI dX5_readName_11 fX5_34 rfl SH_3 ?_
  refine T_aload_n dX5_readName_14 rfl ?_
  refine T_getI dX5_readName_15 fX5_51 rfl SH_1 ?_
  refine U_icmp_ne (tgt := 33) dX5_readName_18 (by decide) (fun hc => ?_) (fun hc => ?_)
  · replace h := h.1 hc
    refine T_iconst dX5_readName_33 (by decide) ?_
    refine T_istore_n dX5_readName_34 (by decide) rfl ?_
    refine T_iload_n dX5_readName_35 rfl ?_
    refine U_if_eq (tgt := 46) dX5_readName_36 (by decide) (fun _ => ?_) (fun hc => absurd hc (by decide))
    refine T_iconst dX5_readName_46 (by decide) ?_
    exact T_iret dX5_readName_47 rfl (hQ _ _ h)
  · replace h := h.2 hc
    refine T_aload_n dX5_readName_21 rfl ?_
    refine T_getI dX5_readName_22 fX5_34 rfl SH_3 ?_
    refine T_iconst dX5_readName_25 (by decide) ?_
    refine U_icmp_gt (tgt := 33) dX5_readName_26 (by decide) (fun hc => ?_) (fun hc => ?_)
    · replace h := h.1 hc
      refine T_iconst dX5_readName_33 (by decide) ?_
      refine T_istore_n dX5_readName_34 (by decide) rfl ?_
      refine T_iload_n dX5_readName_35 rfl ?_
      refine U_if_eq (tgt := 46) dX5_readName_36 (by decide) (fun _ => ?_) (fun hc => absurd hc (by decide))
      refine T_iconst dX5_readName_46 (by decide) ?_
      exact T_iret dX5_readName_47 rfl (hQ _ _ h)
    · replace h := h.2 hc
      refine T_iconst dX5_readName_29 (by decide) ?_
      refine T_goto (tgt := 34) dX5_readName_30 (by decide) ?_
      refine T_istore_n dX5_readName_34 (by decide) rfl ?_
      refine T_iload_n dX5_readName_35 rfl ?_
      refine U_if_eq (tgt := 46) dX5_readName_36 (by decide) (fun hc => absurd hc (by decide)) (fun _ => ?_)
      refine T_aload_n dX5_readName_39 rfl ?_
      refine T_getI dX5_readName_40 fX5_37 rfl SH_3 ?_
      refine T_goto (tgt := 47) dX5_readName_43 (by decide) ?_
      exact T_iret dX5_readName_47 rfl (hQ _ _ h)

theorem W_X6_lower {G : GT} {d : Nat} (hd : 7 ≤ d) {x1 : Int} {x2 : Int} {x3 : Int} {x4 : Int}   {v : VT} {q : Int → VT → Prop} {Q : Option Vl → List Sh → VT → Prop} (h : P_X6_lower x1 x2 x3 x4 v q) (hQ : ∀ r w, q r w → Q (some (vI r)) SH w) : n_T G d 0 0 mX6_lower 0 [vR 200, vI x1, vI x2, vI x3, vI x4, vS 9] [] SH v Q := by
  unfold P_X6_lower at h
  refine T_aload_n dX6_lower_0 rfl ?_
  refine T_getR (r := 201) dX6_lower_1 fX6_9 rfl SH_200 rfl ?_
  refine T_iload_n dX6_lower_4 rfl ?_
  refine T_iald dX6_lower_5 SH_201 h.1 ?_
  replace h := h.2
  refine T_ldc (n := 1000000) dX6_lower_6 cX6_27 (by unfold r32; omega) ?_
  refine U_icmp_lt (tgt := 13) dX6_lower_8 (by decide) (fun hc => ?_) (fun hc => ?_)
  · replace h := h.1 hc
    refine T_iload dX6_lower_13 rfl ?_
    refine n_cut (h (fun (s0 : Int) => n_T G d 0 0 mX6_lower 39 [vR 200, vI x1, vS 9, vS 9, vS 9, vS 9] [vI s0] SH v Q)) ?_ ?_
    · intro s0 h
      refine T_istore dX6_lower_39 (by decide) rfl ?_
      refine T_iload dX6_lower_41 rfl ?_
      refine T_aload_n dX6_lower_43 rfl ?_
      refine T_getR (r := 201) dX6_lower_44 fX6_9 rfl SH_200 rfl ?_
      refine T_iload_n dX6_lower_47 rfl ?_
      refine T_iald dX6_lower_48 SH_201 h.1 ?_
      replace h := h.2
      refine U_icmp_lt (tgt := 54) dX6_lower_49 (by decide) (fun hc => ?_) (fun hc => ?_)
      · replace h := h.1 hc
        refine T_aload_n dX6_lower_54 rfl ?_
        refine T_getR (r := 201) dX6_lower_55 fX6_9 rfl SH_200 rfl ?_
        refine T_iload_n dX6_lower_58 rfl ?_
        refine T_iload dX6_lower_59 rfl ?_
        refine U_iast dX6_lower_61 SH_201 h.1 (fun v61 ev61 => ?_)
        replace h := h.2 v61 ev61
        refine T_iconst dX6_lower_62 (by decide) ?_
        exact T_zret dX6_lower_63 rfl (by decide) (hQ _ _ h)
      · replace h := h.2 hc
        refine T_iconst dX6_lower_52 (by decide) ?_
        exact T_zret dX6_lower_53 rfl (by decide) (hQ _ _ h)
    · intro h
      refine U_if_eq (tgt := 31) dX6_lower_15 (by decide) (fun hc => ?_) (fun hc => ?_)
      · replace h := h.1 hc
        refine T_aload_n dX6_lower_31 rfl ?_
        refine T_getR (r := 201) dX6_lower_32 fX6_9 rfl SH_200 rfl ?_
        refine T_iload_n dX6_lower_35 rfl ?_
        refine T_iald dX6_lower_36 SH_201 h.1 ?_
        replace h := h.2
        refine T_iload_n dX6_lower_37 rfl ?_
        refine U_iadd dX6_lower_38 h.1 ?_
        replace h := h.2
        exact T_drop h ⟨Or.inl rfl, Or.inl rfl, Or.inr rfl, Or.inr rfl, Or.inr rfl, Or.inr rfl, trivial⟩
      · replace h := h.2 hc
        refine T_aload_n dX6_lower_18 rfl ?_
        refine T_getR (r := 201) dX6_lower_19 fX6_9 rfl SH_200 rfl ?_
        refine T_iload_n dX6_lower_22 rfl ?_
        refine T_iald dX6_lower_23 SH_201 h.1 ?_
        replace h := h.2
        refine T_iload_n dX6_lower_24 rfl ?_
        refine U_max dX6_lower_25 lX6_44 (by omega) (Nat.le_of_ble_eq_true rfl) ?_
        refine T_goto (tgt := 39) dX6_lower_28 (by decide) ?_
        exact T_drop h ⟨Or.inl rfl, Or.inl rfl, Or.inr rfl, Or.inr rfl, Or.inr rfl, Or.inr rfl, trivial⟩
  · replace h := h.2 hc
    refine T_iconst dX6_lower_11 (by decide) ?_
    exact T_zret dX6_lower_12 rfl (by decide) (hQ _ _ h)

theorem W_X6_weigh {G : GT} {d : Nat} (hd : 8 ≤ d) {x2 : Int} {x3 : Int}   {v : VT} {q : VT → Prop} {Q : Option Vl → List Sh → VT → Prop} (h : P_X6_weigh x2 x3 v q) (hQ : ∀ w, q w → Q none SH w) : n_T G d 0 0 mX6_weigh 0 [vR 200, vR 10, vI x2, vI x3, vS 9, vS 9, vS 9, vS 9, vS 9] [] SH v Q := by
  unfold P_X6_weigh at h
  refine T_iconst dX6_weigh_0 (by decide) ?_
  refine T_istore dX6_weigh_1 (by decide) rfl ?_
  refine n_cut (h (fun (v37 : VT) => n_T G d 0 0 mX6_weigh 37 [vR 200, vR 10, vS 9, vI x3, vS 9, vS 9, vS 9, vS 9, vS 9] [] SH v37 Q)) ?_ ?_
  · intro v37 h
    refine T_iconst dX6_weigh_37 (by decide) ?_
    refine T_istore dX6_weigh_38 (by decide) rfl ?_
    refine T_iconst dX6_weigh_40 (by decide) ?_
    refine T_istore dX6_weigh_41 (by decide) rfl ?_
    refine T_drop (h (fun (i4 : Int) (i5 : Int) (v43 : VT) => n_T G d 0 0 mX6_weigh 43 [vR 200, vR 10, vS 9, vI x3, vI i4, vI i5, vS 9, vS 9, vS 9] [] SH v43 Q) (fun i4 i5 v43 h => ?_)) ⟨Or.inl rfl, Or.inl rfl, Or.inr rfl, Or.inl rfl, Or.inl rfl, Or.inl rfl, Or.inr rfl, Or.inr rfl, Or.inr rfl, trivial⟩
    refine T_iload dX6_weigh_43 rfl ?_
    refine U_if_eq (tgt := 162) dX6_weigh_45 (by decide) (fun hc => ?_) (fun hc => ?_)
    · replace h := h.1 hc
      exact T_vret dX6_weigh_162 rfl (hQ _ h)
    · replace h := h.2 hc
      refine T_iload dX6_weigh_48 rfl ?_
      refine T_aload_n dX6_weigh_50 rfl ?_
      refine T_getI dX6_weigh_51 fX6_22 rfl SH_10 ?_
      refine U_icmp_ge (tgt := 162) dX6_weigh_54 (by decide) (fun hc => ?_) (fun hc => ?_)
      · replace h := h.1 hc
        exact T_vret dX6_weigh_162 rfl (hQ _ h)
      · replace h := h.2 hc
        refine T_iconst dX6_weigh_57 (by decide) ?_
        refine T_istore dX6_weigh_58 (by decide) rfl ?_
        refine T_iconst dX6_weigh_60 (by decide) ?_
        refine T_istore dX6_weigh_61 (by decide) rfl ?_
        refine T_drop (h (fun (i4_1 : Int) (i6 : Int) (v63 : VT) => n_T G d 0 0 mX6_weigh 63 [vR 200, vR 10, vS 9, vI x3, vI i4_1, vI i5, vI i6, vS 9, vS 9] [] SH v63 Q) (fun i4_1 i6 v63 h => ?_)) ⟨Or.inl rfl, Or.inl rfl, Or.inr rfl, Or.inl rfl, Or.inl rfl, Or.inl rfl, Or.inl rfl, Or.inr rfl, Or.inr rfl, trivial⟩
        refine T_iload dX6_weigh_63 rfl ?_
        refine T_aload_n dX6_weigh_65 rfl ?_
        refine T_getI dX6_weigh_66 fX6_28 rfl SH_10 ?_
        refine U_icmp_ge (tgt := 156) dX6_weigh_69 (by decide) (fun hc => ?_) (fun hc => ?_)
        · replace h := h.1 hc
          refine U_iinc dX6_weigh_156 rfl (by decide) rfl h.1 ?_
          replace h := h.2
          refine T_goto (tgt := 43) dX6_weigh_159 (by decide) ?_
          exact T_drop h ⟨Or.inl rfl, Or.inl rfl, Or.inr rfl, Or.inl rfl, Or.inl rfl, Or.inl rfl, Or.inr rfl, Or.inr rfl, Or.inr rfl, trivial⟩
        · replace h := h.2 hc
          refine T_aload_n dX6_weigh_72 rfl ?_
          refine T_aload_n dX6_weigh_73 rfl ?_
          refine T_getR (r := 12) dX6_weigh_74 fX6_31 rfl SH_10 rfl ?_
          refine T_iload dX6_weigh_77 rfl ?_
          refine T_iald dX6_weigh_79 SH_12 h.1 ?_
          replace h := h.2
          refine T_aload_n dX6_weigh_80 rfl ?_
          refine T_getR (r := 13) dX6_weigh_81 fX6_34 rfl SH_10 rfl ?_
          refine T_iload dX6_weigh_84 rfl ?_
          refine T_iald dX6_weigh_86 SH_13 h.1 ?_
          replace h := h.2
          refine T_aload_n dX6_weigh_87 rfl ?_
          refine T_getR (r := 14) dX6_weigh_88 fX6_37 rfl SH_10 rfl ?_
          refine T_iload dX6_weigh_91 rfl ?_
          refine T_iald dX6_weigh_93 SH_14 h.1 ?_
          replace h := h.2
          refine T_iload_n dX6_weigh_94 rfl ?_
          refine U_callV (as := [vI (v63 12 i6.toNat), vI (v63 13 i6.toNat), vI (v63 14 i6.toNat), vI x3]) (st := []) dX6_weigh_95 kX6_lower lX6_40 SH_200 rfl rfl rfl rfl (Nat.le_of_ble_eq_true rfl) (Nat.le_of_ble_eq_true rfl) (by omega) ?_
          refine W_X6_lower (by omega)  h (fun r95 v95 h => ?_)
          show n_T G d 0 0 mX6_weigh 98 [vR 200, vR 10, vS 9, vI x3, vI i4_1, vI i5, vI i6, vS 9, vS 9] [vI r95] SH v95 Q
          refine T_istore dX6_weigh_98 (by decide) rfl ?_
          refine T_aload_n dX6_weigh_100 rfl ?_
          refine T_aload_n dX6_weigh_101 rfl ?_
          refine T_getR (r := 13) dX6_weigh_102 fX6_34 rfl SH_10 rfl ?_
          refine T_iload dX6_weigh_105 rfl ?_
          refine T_iald dX6_weigh_107 SH_13 h.1 ?_
          replace h := h.2
          refine T_aload_n dX6_weigh_108 rfl ?_
          refine T_getR (r := 12) dX6_weigh_109 fX6_31 rfl SH_10 rfl ?_
          refine T_iload dX6_weigh_112 rfl ?_
          refine T_iald dX6_weigh_114 SH_12 h.1 ?_
          replace h := h.2
          refine T_aload_n dX6_weigh_115 rfl ?_
          refine T_getR (r := 14) dX6_weigh_116 fX6_37 rfl SH_10 rfl ?_
          refine T_iload dX6_weigh_119 rfl ?_
          refine T_iald dX6_weigh_121 SH_14 h.1 ?_
          replace h := h.2
          refine T_iload_n dX6_weigh_122 rfl ?_
          refine U_callV (as := [vI (v95 13 i6.toNat), vI (v95 12 i6.toNat), vI (v95 14 i6.toNat), vI x3]) (st := []) dX6_weigh_123 kX6_lower lX6_40 SH_200 rfl rfl rfl rfl (Nat.le_of_ble_eq_true rfl) (Nat.le_of_ble_eq_true rfl) (by omega) ?_
          refine W_X6_lower (by omega)  h (fun r123 v123 h => ?_)
          show n_T G d 0 0 mX6_weigh 126 [vR 200, vR 10, vS 9, vI x3, vI i4_1, vI i5, vI i6, vI r95, vS 9] [vI r123] SH v123 Q
          refine T_istore dX6_weigh_126 (by decide) rfl ?_
          refine T_iload dX6_weigh_128 rfl ?_
          refine U_if_ne (tgt := 143) dX6_weigh_130 (by decide) (fun hc => ?_) (fun hc => ?_)
          · replace h := h.1 hc
            refine T_iconst dX6_weigh_143 (by decide) ?_
            refine T_goto (tgt := 148) dX6_weigh_144 (by decide) ?_
            refine T_istore dX6_weigh_148 (by decide) rfl ?_
            refine U_iinc dX6_weigh_150 rfl (by decide) rfl h.1 ?_
            replace h := h.2
            refine T_goto (tgt := 63) dX6_weigh_153 (by decide) ?_
            exact T_drop h ⟨Or.inl rfl, Or.inl rfl, Or.inr rfl, Or.inl rfl, Or.inl rfl, Or.inl rfl, Or.inl rfl, Or.inr rfl, Or.inr rfl, trivial⟩
          · replace h := h.2 hc
            refine T_iload dX6_weigh_133 rfl ?_
            refine U_if_ne (tgt := 143) dX6_weigh_135 (by decide) (fun hc => ?_) (fun hc => ?_)
            · replace h := h.1 hc
              refine T_iconst dX6_weigh_143 (by decide) ?_
              refine T_goto (tgt := 148) dX6_weigh_144 (by decide) ?_
              refine T_istore dX6_weigh_148 (by decide) rfl ?_
              refine U_iinc dX6_weigh_150 rfl (by decide) rfl h.1 ?_
              replace h := h.2
              refine T_goto (tgt := 63) dX6_weigh_153 (by decide) ?_
              exact T_drop h ⟨Or.inl rfl, Or.inl rfl, Or.inr rfl, Or.inl rfl, Or.inl rfl, Or.inl rfl, Or.inl rfl, Or.inr rfl, Or.inr rfl, trivial⟩
            · replace h := h.2 hc
              refine T_iload dX6_weigh_138 rfl ?_
              refine U_if_eq (tgt := 147) dX6_weigh_140 (by decide) (fun hc => ?_) (fun hc => ?_)
              · replace h := h.1 hc
                refine T_iconst dX6_weigh_147 (by decide) ?_
                refine T_istore dX6_weigh_148 (by decide) rfl ?_
                refine U_iinc dX6_weigh_150 rfl (by decide) rfl h.1 ?_
                replace h := h.2
                refine T_goto (tgt := 63) dX6_weigh_153 (by decide) ?_
                exact T_drop h ⟨Or.inl rfl, Or.inl rfl, Or.inr rfl, Or.inl rfl, Or.inl rfl, Or.inl rfl, Or.inl rfl, Or.inr rfl, Or.inr rfl, trivial⟩
              · replace h := h.2 hc
                refine T_iconst dX6_weigh_143 (by decide) ?_
                refine T_goto (tgt := 148) dX6_weigh_144 (by decide) ?_
                refine T_istore dX6_weigh_148 (by decide) rfl ?_
                refine U_iinc dX6_weigh_150 rfl (by decide) rfl h.1 ?_
                replace h := h.2
                refine T_goto (tgt := 63) dX6_weigh_153 (by decide) ?_
                exact T_drop h ⟨Or.inl rfl, Or.inl rfl, Or.inr rfl, Or.inl rfl, Or.inl rfl, Or.inl rfl, Or.inl rfl, Or.inr rfl, Or.inr rfl, trivial⟩
  · intro h
    refine T_drop (h (fun (i4_2 : Int) (v3 : VT) => n_T G d 0 0 mX6_weigh 3 [vR 200, vR 10, vI x2, vI x3, vI i4_2, vS 9, vS 9, vS 9, vS 9] [] SH v3 Q) (fun i4_2 v3 h => ?_)) ⟨Or.inl rfl, Or.inl rfl, Or.inl rfl, Or.inl rfl, Or.inl rfl, Or.inr rfl, Or.inr rfl, Or.inr rfl, Or.inr rfl, trivial⟩
    refine T_iload dX6_weigh_3 rfl ?_
    refine T_aload_n dX6_weigh_5 rfl ?_
    refine T_getI dX6_weigh_6 fX6_22 rfl SH_10 ?_
    refine U_icmp_ge (tgt := 37) dX6_weigh_9 (by decide) (fun hc => ?_) (fun hc => ?_)
    · replace h := h.1 hc
      exact T_drop h ⟨Or.inl rfl, Or.inl rfl, Or.inr rfl, Or.inl rfl, Or.inr rfl, Or.inr rfl, Or.inr rfl, Or.inr rfl, Or.inr rfl, trivial⟩
    · replace h := h.2 hc
      refine T_aload_n dX6_weigh_12 rfl ?_
      refine T_getR (r := 201) dX6_weigh_13 fX6_9 rfl SH_200 rfl ?_
      refine T_iload dX6_weigh_16 rfl ?_
      refine T_iload dX6_weigh_18 rfl ?_
      refine T_iload_n dX6_weigh_20 rfl ?_
      refine U_icmp_ne (tgt := 28) dX6_weigh_21 (by decide) (fun hc => ?_) (fun hc => ?_)
      · replace h := h.1 hc
        refine T_ldc (n := 1000000) dX6_weigh_28 cX6_27 (by unfold r32; omega) ?_
        refine U_iast dX6_weigh_30 SH_201 h.1 (fun v30 ev30 => ?_)
        replace h := h.2 v30 ev30
        refine U_iinc dX6_weigh_31 rfl (by decide) rfl h.1 ?_
        replace h := h.2
        refine T_goto (tgt := 3) dX6_weigh_34 (by decide) ?_
        exact T_drop h ⟨Or.inl rfl, Or.inl rfl, Or.inl rfl, Or.inl rfl, Or.inl rfl, Or.inr rfl, Or.inr rfl, Or.inr rfl, Or.inr rfl, trivial⟩
      · replace h := h.2 hc
        refine T_iconst dX6_weigh_24 (by decide) ?_
        refine T_goto (tgt := 30) dX6_weigh_25 (by decide) ?_
        refine U_iast dX6_weigh_30 SH_201 h.1 (fun v30_1 ev30_1 => ?_)
        replace h := h.2 v30_1 ev30_1
        refine U_iinc dX6_weigh_31 rfl (by decide) rfl h.1 ?_
        replace h := h.2
        refine T_goto (tgt := 3) dX6_weigh_34 (by decide) ?_
        exact T_drop h ⟨Or.inl rfl, Or.inl rfl, Or.inl rfl, Or.inl rfl, Or.inl rfl, Or.inr rfl, Or.inr rfl, Or.inr rfl, Or.inr rfl, trivial⟩

theorem W_X6_nextStop {G : GT} {d : Nat} (hd : 1 ≤ d) {x2 : Int}   {v : VT} {q : Int → Prop} {Q : Option Vl → List Sh → VT → Prop} (h : P_X6_nextStop x2 v q) (hQ : ∀ r, q r → Q (some (vI r)) SH v) : n_T G d 0 0 mX6_nextStop 0 [vR 200, vR 10, vI x2, vS 9, vS 9, vS 9] [] SH v Q := by
  unfold P_X6_nextStop at h
  refine T_iconst dX6_nextStop_0 (by decide) ?_
  refine T_istore_n dX6_nextStop_1 (by decide) rfl ?_
  refine T_iconst dX6_nextStop_2 (by decide) ?_
  refine T_istore dX6_nextStop_3 (by decide) rfl ?_
  refine T_drop (h (fun (i3 : Int) (i4 : Int) => n_T G d 0 0 mX6_nextStop 5 [vR 200, vR 10, vI x2, vI i3, vI i4, vS 9] [] SH v Q) (fun i3 i4 h => ?_)) ⟨Or.inl rfl, Or.inl rfl, Or.inl rfl, Or.inl rfl, Or.inl rfl, Or.inr rfl, trivial⟩
  refine T_iload dX6_nextStop_5 rfl ?_
  refine T_aload_n dX6_nextStop_7 rfl ?_
  refine T_getI dX6_nextStop_8 fX6_28 rfl SH_10 ?_
  refine U_icmp_ge (tgt := 110) dX6_nextStop_11 (by decide) (fun hc => ?_) (fun hc => ?_)
  · replace h := h.1 hc
    refine T_iload_n dX6_nextStop_110 rfl ?_
    exact T_iret dX6_nextStop_111 rfl (hQ _ h)
  · replace h := h.2 hc
    refine T_iconst dX6_nextStop_14 (by decide) ?_
    refine T_istore dX6_nextStop_15 (by decide) rfl ?_
    refine T_aload_n dX6_nextStop_17 rfl ?_
    refine T_getR (r := 12) dX6_nextStop_18 fX6_31 rfl SH_10 rfl ?_
    refine T_iload dX6_nextStop_21 rfl ?_
    refine T_iald dX6_nextStop_23 SH_12 h.1 ?_
    replace h := h.2
    refine T_iload_n dX6_nextStop_24 rfl ?_
    refine n_cut (h (fun (i5 : Int) => n_T G d 0 0 mX6_nextStop 60 [vR 200, vR 10, vI x2, vI i3, vI i4, vI i5] [] SH v Q)) ?_ ?_
    · intro i5 h
      refine T_iload dX6_nextStop_60 rfl ?_
      refine T_iconst dX6_nextStop_62 (by decide) ?_
      refine U_icmp_eq (tgt := 104) dX6_nextStop_63 (by decide) (fun hc => ?_) (fun hc => ?_)
      · replace h := h.1 hc
        refine U_iinc dX6_nextStop_104 rfl (by decide) rfl h.1 ?_
        replace h := h.2
        refine T_goto (tgt := 5) dX6_nextStop_107 (by decide) ?_
        exact T_drop h ⟨Or.inl rfl, Or.inl rfl, Or.inl rfl, Or.inl rfl, Or.inl rfl, Or.inr rfl, trivial⟩
      · replace h := h.2 hc
        refine T_aload_n dX6_nextStop_66 rfl ?_
        refine T_getR (r := 201) dX6_nextStop_67 fX6_9 rfl SH_200 rfl ?_
        refine T_iload dX6_nextStop_70 rfl ?_
        refine T_iald dX6_nextStop_72 SH_201 h.1 ?_
        replace h := h.2
        refine T_aload_n dX6_nextStop_73 rfl ?_
        refine T_getR (r := 14) dX6_nextStop_74 fX6_37 rfl SH_10 rfl ?_
        refine T_iload dX6_nextStop_77 rfl ?_
        refine T_iald dX6_nextStop_79 SH_14 h.1 ?_
        replace h := h.2
        refine U_iadd dX6_nextStop_80 h.1 ?_
        replace h := h.2
        refine T_aload_n dX6_nextStop_81 rfl ?_
        refine T_getR (r := 201) dX6_nextStop_82 fX6_9 rfl SH_200 rfl ?_
        refine T_iload_n dX6_nextStop_85 rfl ?_
        refine T_iald dX6_nextStop_86 SH_201 h.1 ?_
        replace h := h.2
        refine U_icmp_ne (tgt := 104) dX6_nextStop_87 (by decide) (fun hc => ?_) (fun hc => ?_)
        · replace h := h.1 hc
          refine U_iinc dX6_nextStop_104 rfl (by decide) rfl h.1 ?_
          replace h := h.2
          refine T_goto (tgt := 5) dX6_nextStop_107 (by decide) ?_
          exact T_drop h ⟨Or.inl rfl, Or.inl rfl, Or.inl rfl, Or.inl rfl, Or.inl rfl, Or.inr rfl, trivial⟩
        · replace h := h.2 hc
          refine T_iload_n dX6_nextStop_90 rfl ?_
          refine T_iconst dX6_nextStop_91 (by decide) ?_
          refine U_icmp_eq (tgt := 101) dX6_nextStop_92 (by decide) (fun hc => ?_) (fun hc => ?_)
          · replace h := h.1 hc
            refine T_iload dX6_nextStop_101 rfl ?_
            refine T_istore_n dX6_nextStop_103 (by decide) rfl ?_
            refine U_iinc dX6_nextStop_104 rfl (by decide) rfl h.1 ?_
            replace h := h.2
            refine T_goto (tgt := 5) dX6_nextStop_107 (by decide) ?_
            exact T_drop h ⟨Or.inl rfl, Or.inl rfl, Or.inl rfl, Or.inl rfl, Or.inl rfl, Or.inr rfl, trivial⟩
          · replace h := h.2 hc
            refine T_iload dX6_nextStop_95 rfl ?_
            refine T_iload_n dX6_nextStop_97 rfl ?_
            refine U_icmp_ge (tgt := 104) dX6_nextStop_98 (by decide) (fun hc => ?_) (fun hc => ?_)
            · replace h := h.1 hc
              refine U_iinc dX6_nextStop_104 rfl (by decide) rfl h.1 ?_
              replace h := h.2
              refine T_goto (tgt := 5) dX6_nextStop_107 (by decide) ?_
              exact T_drop h ⟨Or.inl rfl, Or.inl rfl, Or.inl rfl, Or.inl rfl, Or.inl rfl, Or.inr rfl, trivial⟩
            · replace h := h.2 hc
              refine T_iload dX6_nextStop_101 rfl ?_
              refine T_istore_n dX6_nextStop_103 (by decide) rfl ?_
              refine U_iinc dX6_nextStop_104 rfl (by decide) rfl h.1 ?_
              replace h := h.2
              refine T_goto (tgt := 5) dX6_nextStop_107 (by decide) ?_
              exact T_drop h ⟨Or.inl rfl, Or.inl rfl, Or.inl rfl, Or.inl rfl, Or.inl rfl, Or.inr rfl, trivial⟩
    · intro h
      refine U_icmp_ne (tgt := 40) dX6_nextStop_25 (by decide) (fun hc => ?_) (fun hc => ?_)
      · replace h := h.1 hc
        refine T_aload_n dX6_nextStop_40 rfl ?_
        refine T_getR (r := 13) dX6_nextStop_41 fX6_34 rfl SH_10 rfl ?_
        refine T_iload dX6_nextStop_44 rfl ?_
        refine T_iald dX6_nextStop_46 SH_13 h.1 ?_
        replace h := h.2
        refine T_iload_n dX6_nextStop_47 rfl ?_
        refine U_icmp_ne (tgt := 60) dX6_nextStop_48 (by decide) (fun hc => ?_) (fun hc => ?_)
        · replace h := h.1 hc
          exact T_drop h ⟨Or.inl rfl, Or.inl rfl, Or.inl rfl, Or.inl rfl, Or.inl rfl, Or.inl rfl, trivial⟩
        · replace h := h.2 hc
          refine T_aload_n dX6_nextStop_51 rfl ?_
          refine T_getR (r := 12) dX6_nextStop_52 fX6_31 rfl SH_10 rfl ?_
          refine T_iload dX6_nextStop_55 rfl ?_
          refine T_iald dX6_nextStop_57 SH_12 h.1 ?_
          replace h := h.2
          refine U_istore dX6_nextStop_58 (by decide) rfl (fun l5 el5 => ?_)
          replace h := h l5 el5
          exact T_drop h ⟨Or.inl rfl, Or.inl rfl, Or.inl rfl, Or.inl rfl, Or.inl rfl, Or.inl rfl, trivial⟩
      · replace h := h.2 hc
        refine T_aload_n dX6_nextStop_28 rfl ?_
        refine T_getR (r := 13) dX6_nextStop_29 fX6_34 rfl SH_10 rfl ?_
        refine T_iload dX6_nextStop_32 rfl ?_
        refine T_iald dX6_nextStop_34 SH_13 h.1 ?_
        replace h := h.2
        refine U_istore dX6_nextStop_35 (by decide) rfl (fun l5_1 el5_1 => ?_)
        replace h := h l5_1 el5_1
        refine T_goto (tgt := 60) dX6_nextStop_37 (by decide) ?_
        exact T_drop h ⟨Or.inl rfl, Or.inl rfl, Or.inl rfl, Or.inl rfl, Or.inl rfl, Or.inl rfl, trivial⟩

theorem W_X6_walk {G : GT} {d : Nat} (hd : 2 ≤ d) {x2 : Int} {x3 : Int}   {v : VT} {q : VT → Prop} {Q : Option Vl → List Sh → VT → Prop} (h : P_X6_walk x2 x3 v q) (hQ : ∀ w, q w → Q none SH w) : n_T G d 0 0 mX6_walk 0 [vR 200, vR 10, vI x2, vI x3, vS 9] [] SH v Q := by
  unfold P_X6_walk at h
  refine T_iload_n dX6_walk_0 rfl ?_
  refine T_istore dX6_walk_1 (by decide) rfl ?_
  refine T_aload_n dX6_walk_3 rfl ?_
  refine T_getR (r := 202) dX6_walk_4 fX6_15 rfl SH_200 rfl ?_
  refine T_iconst dX6_walk_7 (by decide) ?_
  refine T_iload_n dX6_walk_8 rfl ?_
  refine U_iast dX6_walk_9 SH_202 (by decide) (fun v9 ev9 => ?_)
  replace h := h v9 ev9
  refine T_aload_n dX6_walk_10 rfl ?_
  refine T_iconst dX6_walk_11 (by decide) ?_
  refine U_putI dX6_walk_12 fX6_18 rfl rfl SH_200 (fun v12 ev12 => ?_)
  replace h := h v12 ev12
  refine T_drop (h (fun (i4 : Int) (v15 : VT) => n_T G d 0 0 mX6_walk 15 [vR 200, vR 10, vS 9, vI x3, vI i4] [] SH v15 Q) (fun i4 v15 h => ?_)) ⟨Or.inl rfl, Or.inl rfl, Or.inr rfl, Or.inl rfl, Or.inl rfl, trivial⟩
  refine T_aload_n dX6_walk_15 rfl ?_
  refine T_getI dX6_walk_16 fX6_18 rfl SH_200 ?_
  refine T_bipush dX6_walk_19 (by decide) ?_
  refine U_icmp_ge (tgt := 70) dX6_walk_21 (by decide) (fun hc => ?_) (fun hc => ?_)
  · replace h := h.1 hc
    exact T_vret dX6_walk_70 rfl (hQ _ h)
  · replace h := h.2 hc
    refine T_iload dX6_walk_24 rfl ?_
    refine T_iload_n dX6_walk_26 rfl ?_
    refine U_icmp_eq (tgt := 70) dX6_walk_27 (by decide) (fun hc => ?_) (fun hc => ?_)
    · replace h := h.1 hc
      exact T_vret dX6_walk_70 rfl (hQ _ h)
    · replace h := h.2 hc
      refine T_aload_n dX6_walk_30 rfl ?_
      refine T_aload_n dX6_walk_31 rfl ?_
      refine T_iload dX6_walk_32 rfl ?_
      refine U_callV (as := [vR 10, vI i4]) (st := []) dX6_walk_34 kX6_nextStop lX6_50 SH_200 rfl rfl rfl rfl (Nat.le_of_ble_eq_true rfl) (Nat.le_of_ble_eq_true rfl) (by omega) ?_
      refine W_X6_nextStop (by omega)  h (fun r34 h => ?_)
      show n_T G d 0 0 mX6_walk 37 [vR 200, vR 10, vS 9, vI x3, vI i4] [vI r34] SH v15 Q
      refine T_istore dX6_walk_37 (by decide) rfl ?_
      refine T_iload dX6_walk_39 rfl ?_
      refine T_iconst dX6_walk_41 (by decide) ?_
      refine U_icmp_ne (tgt := 46) dX6_walk_42 (by decide) (fun hc => ?_) (fun hc => ?_)
      · replace h := h.1 hc
        refine T_aload_n dX6_walk_46 rfl ?_
        refine T_getR (r := 202) dX6_walk_47 fX6_15 rfl SH_200 rfl ?_
        refine T_aload_n dX6_walk_50 rfl ?_
        refine T_getI dX6_walk_51 fX6_18 rfl SH_200 ?_
        refine T_iload dX6_walk_54 rfl ?_
        refine U_iast dX6_walk_56 SH_202 h.1 (fun v56 ev56 => ?_)
        replace h := h.2 v56 ev56
        refine T_aload_n dX6_walk_57 rfl ?_
        refine T_dup dX6_walk_58 rfl ?_
        refine T_getI dX6_walk_59 fX6_18 rfl SH_200 ?_
        refine T_iconst dX6_walk_62 (by decide) ?_
        refine U_iadd dX6_walk_63 h.1 ?_
        replace h := h.2
        refine U_putI dX6_walk_64 fX6_18 rfl rfl SH_200 (fun v64 ev64 => ?_)
        replace h := h v64 ev64
        refine T_goto (tgt := 15) dX6_walk_67 (by decide) ?_
        exact T_drop h ⟨Or.inl rfl, Or.inl rfl, Or.inr rfl, Or.inl rfl, Or.inl rfl, trivial⟩
      · replace h := h.2 hc
        exact T_vret dX6_walk_45 rfl (hQ _ h)

theorem W_X8_halfOf {G : GT} {d : Nat} (hd : 2 ≤ d) {x1 : Int}   {v : VT} {q : Int → Prop} {Q : Option Vl → List Sh → VT → Prop} (h : P_X8_halfOf x1 v q) (hQ : ∀ r, q r → Q (some (vI r)) SH v) : n_T G d 0 0 mX8_halfOf 0 [vR 197, vI x1, vS 9] [] SH v Q := by
  unfold P_X8_halfOf at h
  refine T_iload_n dX8_halfOf_0 rfl ?_
  refine T_iconst dX8_halfOf_1 (by decide) ?_
  refine T_idiv dX8_halfOf_2 (by decide) ?_
  refine T_istore_n dX8_halfOf_3 (by decide) rfl ?_
  refine T_iload_n dX8_halfOf_4 rfl ?_
  refine T_iconst dX8_halfOf_5 (by decide) ?_
  refine T_irem dX8_halfOf_6 (by decide) ?_
  refine T_iconst dX8_halfOf_7 (by decide) ?_
  refine U_icmp_ne (tgt := 20) dX8_halfOf_8 (by decide) (fun hc => ?_) (fun hc => ?_)
  · replace h := h.1 hc
    refine T_aload_n dX8_halfOf_20 rfl ?_
    refine T_getI dX8_halfOf_21 fX8_28 rfl SH_197 ?_
    refine U_callSN (as := [vI (v 197 5)]) (st := []) dX8_halfOf_24 kX10_allBits lX8_97 rfl rfl (Nat.le_of_ble_eq_true rfl) (Nat.le_of_ble_eq_true rfl) (by omega) ?_
    refine W_X10_allBits (by omega)  h (fun r24 h => ?_)
    show n_T G d 0 0 mX8_halfOf 27 [vR 197, vI x1, vI (i_div x1 2)] [vI r24] SH v Q
    refine T_aload_n dX8_halfOf_27 rfl ?_
    refine T_getR (r := 199) dX8_halfOf_28 fX8_38 rfl SH_197 rfl ?_
    refine T_iload_n dX8_halfOf_31 rfl ?_
    refine T_iald dX8_halfOf_32 SH_199 h.1 ?_
    replace h := h.2
    refine T_iconst dX8_halfOf_33 (by decide) ?_
    refine T_ixor dX8_halfOf_34 ?_
    refine T_iand dX8_halfOf_35 ?_
    exact T_iret dX8_halfOf_36 rfl (hQ _ h)
  · replace h := h.2 hc
    refine T_aload_n dX8_halfOf_11 rfl ?_
    refine T_getR (r := 199) dX8_halfOf_12 fX8_38 rfl SH_197 rfl ?_
    refine T_iload_n dX8_halfOf_15 rfl ?_
    refine T_iald dX8_halfOf_16 SH_199 h.1 ?_
    replace h := h.2
    refine T_goto (tgt := 36) dX8_halfOf_17 (by decide) ?_
    exact T_iret dX8_halfOf_36 rfl (hQ _ h)

theorem W_X8_countPairs {G : GT} {d : Nat} (hd : 3 ≤ d) {x1 : Int} {x2 : Int}   {v : VT} {q : Int → Prop} {Q : Option Vl → List Sh → VT → Prop} (h : P_X8_countPairs x1 x2 v q) (hQ : ∀ r, q r → Q (some (vI r)) SH v) : n_T G d 0 0 mX8_countPairs 0 [vR 197, vI x1, vI x2, vS 9, vS 9] [] SH v Q := by
  unfold P_X8_countPairs at h
  refine T_iconst dX8_countPairs_0 (by decide) ?_
  refine T_istore_n dX8_countPairs_1 (by decide) rfl ?_
  refine T_iconst dX8_countPairs_2 (by decide) ?_
  refine T_istore dX8_countPairs_3 (by decide) rfl ?_
  refine T_drop (h (fun (i3 : Int) (i4 : Int) => n_T G d 0 0 mX8_countPairs 5 [vR 197, vI x1, vI x2, vI i3, vI i4] [] SH v Q) (fun i3 i4 h => ?_)) ⟨Or.inl rfl, Or.inl rfl, Or.inl rfl, Or.inl rfl, Or.inl rfl, trivial⟩
  refine T_iload dX8_countPairs_5 rfl ?_
  refine T_iconst dX8_countPairs_7 (by decide) ?_
  refine U_icmp_ge (tgt := 48) dX8_countPairs_8 (by decide) (fun hc => ?_) (fun hc => ?_)
  · replace h := h.1 hc
    refine T_iload_n dX8_countPairs_48 rfl ?_
    exact T_iret dX8_countPairs_49 rfl (hQ _ h)
  · replace h := h.2 hc
    refine T_aload_n dX8_countPairs_11 rfl ?_
    refine T_iconst dX8_countPairs_12 (by decide) ?_
    refine T_iload_n dX8_countPairs_13 rfl ?_
    refine U_imul dX8_countPairs_14 h.1 ?_
    replace h := h.2
    refine T_iload dX8_countPairs_15 rfl ?_
    refine T_iconst dX8_countPairs_17 (by decide) ?_
    refine T_idiv dX8_countPairs_18 (by decide) ?_
    refine U_iadd dX8_countPairs_19 h.1 ?_
    replace h := h.2
    refine U_callV (as := [vI ((2 * x1) + (i_div i4 2))]) (st := []) dX8_countPairs_20 kX8_halfOf lX8_106 SH_197 rfl rfl rfl rfl (Nat.le_of_ble_eq_true rfl) (Nat.le_of_ble_eq_true rfl) (by omega) ?_
    refine W_X8_halfOf (by omega)  h (fun r20 h => ?_)
    show n_T G d 0 0 mX8_countPairs 23 [vR 197, vI x1, vI x2, vI i3, vI i4] [vI r20] SH v Q
    refine T_aload_n dX8_countPairs_23 rfl ?_
    refine T_iconst dX8_countPairs_24 (by decide) ?_
    refine T_iload_n dX8_countPairs_25 rfl ?_
    refine U_imul dX8_countPairs_26 h.1 ?_
    replace h := h.2
    refine T_iload dX8_countPairs_27 rfl ?_
    refine T_iconst dX8_countPairs_29 (by decide) ?_
    refine T_irem dX8_countPairs_30 (by decide) ?_
    refine U_iadd dX8_countPairs_31 h.1 ?_
    replace h := h.2
    refine U_callV (as := [vI ((2 * x2) + (i_rem i4 2))]) (st := [vI r20]) dX8_countPairs_32 kX8_halfOf lX8_106 SH_197 rfl rfl rfl rfl (Nat.le_of_ble_eq_true rfl) (Nat.le_of_ble_eq_true rfl) (by omega) ?_
    refine W_X8_halfOf (by omega)  h (fun r32 h => ?_)
    show n_T G d 0 0 mX8_countPairs 35 [vR 197, vI x1, vI x2, vI i3, vI i4] [vI r32, vI r20] SH v Q
    refine T_iand dX8_countPairs_35 ?_
    refine U_if_eq (tgt := 42) dX8_countPairs_36 (by decide) (fun hc => ?_) (fun hc => ?_)
    · replace h := h.1 hc
      refine U_iinc dX8_countPairs_42 rfl (by decide) rfl h.1 ?_
      replace h := h.2
      refine T_goto (tgt := 5) dX8_countPairs_45 (by decide) ?_
      exact T_drop h ⟨Or.inl rfl, Or.inl rfl, Or.inl rfl, Or.inl rfl, Or.inl rfl, trivial⟩
    · replace h := h.2 hc
      refine U_iinc dX8_countPairs_39 rfl (by decide) rfl h.1 ?_
      replace h := h.2
      refine U_iinc dX8_countPairs_42 rfl (by decide) rfl h.1 ?_
      replace h := h.2
      refine T_goto (tgt := 5) dX8_countPairs_45 (by decide) ?_
      exact T_drop h ⟨Or.inl rfl, Or.inl rfl, Or.inl rfl, Or.inl rfl, Or.inl rfl, trivial⟩

theorem W_X7_highestOf {G : GT} {d : Nat} (hd : 2 ≤ d) {x0 : Int}   {v : VT} {q : Int → Prop} {Q : Option Vl → List Sh → VT → Prop} (h : P_X7_highestOf x0 v q) (hQ : ∀ r, q r → Q (some (vI r)) SH v) : n_T G d 0 0 mX7_highestOf 0 [vI x0, vS 9, vS 9] [] SH v Q := by
  unfold P_X7_highestOf at h
  refine T_iconst dX7_highestOf_0 (by decide) ?_
  refine T_istore_n dX7_highestOf_1 (by decide) rfl ?_
  refine T_iconst dX7_highestOf_2 (by decide) ?_
  refine T_istore_n dX7_highestOf_3 (by decide) rfl ?_
  refine T_drop (h (fun (i1 : Int) (i2 : Int) => n_T G d 0 0 mX7_highestOf 4 [vI x0, vI i1, vI i2] [] SH v Q) (fun i1 i2 h => ?_)) ⟨Or.inl rfl, Or.inl rfl, Or.inl rfl, trivial⟩
  refine T_iload_n dX7_highestOf_4 rfl ?_
  refine T_bipush dX7_highestOf_5 (by decide) ?_
  refine U_icmp_ge (tgt := 26) dX7_highestOf_7 (by decide) (fun hc => ?_) (fun hc => ?_)
  · replace h := h.1 hc
    refine T_iload_n dX7_highestOf_26 rfl ?_
    exact T_iret dX7_highestOf_27 rfl (hQ _ h)
  · replace h := h.2 hc
    refine T_iload_n dX7_highestOf_10 rfl ?_
    refine T_iload_n dX7_highestOf_11 rfl ?_
    refine U_callSN (as := [vI x0, vI i2]) (st := []) dX7_highestOf_12 kX10_hasBit lX7_47 rfl rfl (Nat.le_of_ble_eq_true rfl) (Nat.le_of_ble_eq_true rfl) (by omega) ?_
    refine W_X10_hasBit (by omega)  h (fun r12 h => ?_)
    show n_T G d 0 0 mX7_highestOf 15 [vI x0, vI i1, vI i2] [vI r12] SH v Q
    refine U_if_eq (tgt := 20) dX7_highestOf_15 (by decide) (fun hc => ?_) (fun hc => ?_)
    · replace h := h.1 hc
      refine U_iinc dX7_highestOf_20 rfl (by decide) rfl h.1 ?_
      replace h := h.2
      refine T_goto (tgt := 4) dX7_highestOf_23 (by decide) ?_
      exact T_drop h ⟨Or.inl rfl, Or.inl rfl, Or.inl rfl, trivial⟩
    · replace h := h.2 hc
      refine T_iload_n dX7_highestOf_18 rfl ?_
      refine T_istore_n dX7_highestOf_19 (by decide) rfl ?_
      refine U_iinc dX7_highestOf_20 rfl (by decide) rfl h.1 ?_
      replace h := h.2
      refine T_goto (tgt := 4) dX7_highestOf_23 (by decide) ?_
      exact T_drop h ⟨Or.inl rfl, Or.inl rfl, Or.inl rfl, trivial⟩

theorem W_X7_addCrossing {G : GT} (n : Nat) : ∀ {d : Nat} (hd : 3 + n ≤ d) {x1 : Int} {x2 : Int} {x3 : Int}   {v : VT} {q : VT → Prop} {Q : Option Vl → List Sh → VT → Prop} (h : P_X7_addCrossing n x1 x2 x3 v q) (hQ : ∀ w, q w → Q none SH w), n_T G d 0 0 mX7_addCrossing 0 [vR 203, vI x1, vI x2, vI x3, vS 9, vS 9, vS 9] [] SH v Q := by
  induction n with
  | zero => intro d hd x1 x2 x3 v q Q h; exact h.elim
  | succ n ih =>
    intro d hd x1 x2 x3 v q Q h hQ
    refine T_iload_n dX7_addCrossing_0 rfl ?_
    refine U_callS (as := [vI x1]) (st := []) dX7_addCrossing_1 kJ6_bitCount_0f7a4 lX7_39 rfl rfl (Nat.le_of_ble_eq_true rfl) (Nat.le_of_ble_eq_true rfl) (by omega) ?_
    refine W_J6_bitCount_0f7a4 (by omega)  h (fun r1 h => ?_)
    show n_T G d 0 0 mX7_addCrossing 4 [vR 203, vI x1, vI x2, vI x3, vS 9, vS 9, vS 9] [vI r1] SH v Q
    refine T_istore dX7_addCrossing_4 (by decide) rfl ?_
    refine T_iload dX7_addCrossing_6 rfl ?_
    refine T_iload_n dX7_addCrossing_8 rfl ?_
    refine U_callS (as := [vI x2]) (st := [vI r1]) dX7_addCrossing_9 kJ6_bitCount_0f7a4 lX7_39 rfl rfl (Nat.le_of_ble_eq_true rfl) (Nat.le_of_ble_eq_true rfl) (by omega) ?_
    refine W_J6_bitCount_0f7a4 (by omega)  h (fun r9 h => ?_)
    show n_T G d 0 0 mX7_addCrossing 12 [vR 203, vI x1, vI x2, vI x3, vI r1, vS 9, vS 9] [vI r9, vI r1] SH v Q
    refine U_iadd dX7_addCrossing_12 h.1 ?_
    replace h := h.2
    refine T_aload_n dX7_addCrossing_13 rfl ?_
    refine T_getI dX7_addCrossing_14 fX7_9 rfl SH_203 ?_
    refine U_icmp_gt (tgt := 21) dX7_addCrossing_17 (by decide) (fun hc => ?_) (fun hc => ?_)
    · replace h := h.1 hc
      refine T_iload_n dX7_addCrossing_21 rfl ?_
      refine U_if_eq (tgt := 29) dX7_addCrossing_22 (by decide) (fun hc => ?_) (fun hc => ?_)
      · replace h := h.1 hc
        refine T_aload_n dX7_addCrossing_29 rfl ?_
        refine T_iload dX7_addCrossing_30 rfl ?_
        refine U_putI dX7_addCrossing_32 fX7_9 rfl rfl SH_203 (fun v32 ev32 => ?_)
        replace h := h v32 ev32
        refine T_aload_n dX7_addCrossing_35 rfl ?_
        refine T_iload_n dX7_addCrossing_36 rfl ?_
        refine U_putI dX7_addCrossing_37 fX7_15 rfl rfl SH_203 (fun v37 ev37 => ?_)
        replace h := h v37 ev37
        exact T_vret dX7_addCrossing_40 rfl (hQ _ h)
      · replace h := h.2 hc
        refine T_iload_n dX7_addCrossing_25 rfl ?_
        refine U_if_gt (tgt := 41) dX7_addCrossing_26 (by decide) (fun hc => ?_) (fun hc => ?_)
        · replace h := h.1 hc
          refine T_iload_n dX7_addCrossing_41 rfl ?_
          refine U_callS (as := [vI x2]) (st := []) dX7_addCrossing_42 kX7_highestOf lX7_44 rfl rfl (Nat.le_of_ble_eq_true rfl) (Nat.le_of_ble_eq_true rfl) (by omega) ?_
          refine W_X7_highestOf (by omega)  h (fun r42 h => ?_)
          show n_T G d 0 0 mX7_addCrossing 45 [vR 203, vI x1, vI x2, vI x3, vI r1, vS 9, vS 9] [vI r42] SH v Q
          refine T_istore dX7_addCrossing_45 (by decide) rfl ?_
          refine T_iload_n dX7_addCrossing_47 rfl ?_
          refine T_iconst dX7_addCrossing_48 (by decide) ?_
          refine T_iload dX7_addCrossing_49 rfl ?_
          refine T_ishl dX7_addCrossing_51 ?_
          refine T_iconst dX7_addCrossing_52 (by decide) ?_
          refine T_ixor dX7_addCrossing_53 ?_
          refine T_iand dX7_addCrossing_54 ?_
          refine U_istore dX7_addCrossing_55 (by decide) rfl (fun l6 el6 => ?_)
          replace h := h l6 el6
          refine T_aload_n dX7_addCrossing_57 rfl ?_
          refine T_iload_n dX7_addCrossing_58 rfl ?_
          refine T_iload dX7_addCrossing_59 rfl ?_
          refine T_iload_n dX7_addCrossing_61 rfl ?_
          refine T_iconst dX7_addCrossing_62 (by decide) ?_
          refine U_isub dX7_addCrossing_63 h.1 ?_
          replace h := h.2
          refine U_callV (as := [vI x1, vI l6, vI (x3 - 1)]) (st := []) dX7_addCrossing_64 kX7_addCrossing lX7_35 SH_203 rfl rfl rfl rfl (Nat.le_of_ble_eq_true rfl) (Nat.le_of_ble_eq_true rfl) (by omega) ?_
          refine ih (by omega)  h (fun v64 h => ?_)
          show n_T G d 0 0 mX7_addCrossing 67 [vR 203, vI x1, vI x2, vI x3, vI r1, vI r42, vI l6] [] SH v64 Q
          refine T_aload_n dX7_addCrossing_67 rfl ?_
          refine T_iload_n dX7_addCrossing_68 rfl ?_
          refine T_iconst dX7_addCrossing_69 (by decide) ?_
          refine T_iload dX7_addCrossing_70 rfl ?_
          refine T_ishl dX7_addCrossing_72 ?_
          refine T_ior dX7_addCrossing_73 ?_
          refine T_iload dX7_addCrossing_74 rfl ?_
          refine T_aload_n dX7_addCrossing_76 rfl ?_
          refine T_getR (r := 204) dX7_addCrossing_77 fX7_18 rfl SH_203 rfl ?_
          refine T_iload dX7_addCrossing_80 rfl ?_
          refine T_iald dX7_addCrossing_82 SH_204 h.1 ?_
          replace h := h.2
          refine T_iand dX7_addCrossing_83 ?_
          refine T_iload_n dX7_addCrossing_84 rfl ?_
          refine T_iconst dX7_addCrossing_85 (by decide) ?_
          refine U_isub dX7_addCrossing_86 h.1 ?_
          replace h := h.2
          refine U_callV (as := [vI (i_or x1 (i_shl 1 r42)), vI (i_and l6 (v64 204 r42.toNat)), vI (x3 - 1)]) (st := []) dX7_addCrossing_87 kX7_addCrossing lX7_35 SH_203 rfl rfl rfl rfl (Nat.le_of_ble_eq_true rfl) (Nat.le_of_ble_eq_true rfl) (by omega) ?_
          refine ih (by omega)  h (fun v87 h => ?_)
          show n_T G d 0 0 mX7_addCrossing 90 [vR 203, vI x1, vI x2, vI x3, vI r1, vI r42, vI l6] [] SH v87 Q
          exact T_vret dX7_addCrossing_90 rfl (hQ _ h)
        · replace h := h.2 hc
          refine T_aload_n dX7_addCrossing_29 rfl ?_
          refine T_iload dX7_addCrossing_30 rfl ?_
          refine U_putI dX7_addCrossing_32 fX7_9 rfl rfl SH_203 (fun v32_1 ev32_1 => ?_)
          replace h := h v32_1 ev32_1
          refine T_aload_n dX7_addCrossing_35 rfl ?_
          refine T_iload_n dX7_addCrossing_36 rfl ?_
          refine U_putI dX7_addCrossing_37 fX7_15 rfl rfl SH_203 (fun v37_1 ev37_1 => ?_)
          replace h := h v37_1 ev37_1
          exact T_vret dX7_addCrossing_40 rfl (hQ _ h)
    · replace h := h.2 hc
      exact T_vret dX7_addCrossing_20 rfl (hQ _ h)

theorem W_X7_findCrossing {G : GT} {d : Nat} (hd : 68 ≤ d)    {v : VT} {q : VT → Prop} {Q : Option Vl → List Sh → VT → Prop} (h : P_X7_findCrossing  v q) (hQ : ∀ w, q w → Q none SH w) : n_T G d 0 0 mX7_findCrossing 0 [vR 203, vR 197, vS 9, vS 9] [] SH v Q := by
  unfold P_X7_findCrossing at h
  refine T_iconst dX7_findCrossing_0 (by decide) ?_
  refine T_istore_n dX7_findCrossing_1 (by decide) rfl ?_
  refine n_cut (h (fun (v66 : VT) => n_T G d 0 0 mX7_findCrossing 66 [vR 203, vR 197, vS 9, vS 9] [] SH v66 Q)) ?_ ?_
  · intro v66 h
    refine T_aload_n dX7_findCrossing_66 rfl ?_
    refine T_iconst dX7_findCrossing_67 (by decide) ?_
    refine U_putI dX7_findCrossing_68 fX7_9 rfl rfl SH_203 (fun v68 ev68 => ?_)
    replace h := h v68 ev68
    refine T_aload_n dX7_findCrossing_71 rfl ?_
    refine T_iconst dX7_findCrossing_72 (by decide) ?_
    refine U_putI dX7_findCrossing_73 fX7_15 rfl rfl SH_203 (fun v73 ev73 => ?_)
    replace h := h v73 ev73
    refine T_aload_n dX7_findCrossing_76 rfl ?_
    refine T_iconst dX7_findCrossing_77 (by decide) ?_
    refine T_aload_n dX7_findCrossing_78 rfl ?_
    refine T_getI dX7_findCrossing_79 fX7_22 rfl SH_197 ?_
    refine U_callSN (as := [vI (v73 197 6)]) (st := [vI 0, vR 203]) dX7_findCrossing_82 kX10_allBits lX7_31 rfl rfl (Nat.le_of_ble_eq_true rfl) (Nat.le_of_ble_eq_true rfl) (by omega) ?_
    refine W_X10_allBits (by omega)  h (fun r82 h => ?_)
    show n_T G d 0 0 mX7_findCrossing 85 [vR 203, vR 197, vS 9, vS 9] [vI r82, vI 0, vR 203] SH v73 Q
    refine T_aload_n dX7_findCrossing_85 rfl ?_
    refine T_getI dX7_findCrossing_86 fX7_22 rfl SH_197 ?_
    refine U_callV (as := [vI 0, vI r82, vI (v73 197 6)]) (st := []) dX7_findCrossing_89 kX7_addCrossing lX7_35 SH_203 rfl rfl rfl rfl (Nat.le_of_ble_eq_true rfl) (Nat.le_of_ble_eq_true rfl) (by omega) ?_
    refine W_X7_addCrossing 64 (by omega)  h (fun v89 h => ?_)
    show n_T G d 0 0 mX7_findCrossing 92 [vR 203, vR 197, vS 9, vS 9] [] SH v89 Q
    exact T_vret dX7_findCrossing_92 rfl (hQ _ h)
  · intro h
    refine T_drop (h (fun (i2 : Int) (v2 : VT) => n_T G d 0 0 mX7_findCrossing 2 [vR 203, vR 197, vI i2, vS 9] [] SH v2 Q) (fun i2 v2 h => ?_)) ⟨Or.inl rfl, Or.inl rfl, Or.inl rfl, Or.inr rfl, trivial⟩
    refine T_iload_n dX7_findCrossing_2 rfl ?_
    refine T_aload_n dX7_findCrossing_3 rfl ?_
    refine T_getI dX7_findCrossing_4 fX7_22 rfl SH_197 ?_
    refine U_icmp_ge (tgt := 66) dX7_findCrossing_7 (by decide) (fun hc => ?_) (fun hc => ?_)
    · replace h := h.1 hc
      exact T_drop h ⟨Or.inl rfl, Or.inl rfl, Or.inr rfl, Or.inr rfl, trivial⟩
    · replace h := h.2 hc
      refine T_aload_n dX7_findCrossing_10 rfl ?_
      refine T_getR (r := 204) dX7_findCrossing_11 fX7_18 rfl SH_203 rfl ?_
      refine T_iload_n dX7_findCrossing_14 rfl ?_
      refine T_iconst dX7_findCrossing_15 (by decide) ?_
      refine U_iast dX7_findCrossing_16 SH_204 h.1 (fun v16 ev16 => ?_)
      replace h := h.2 v16 ev16
      refine T_iconst dX7_findCrossing_17 (by decide) ?_
      refine T_istore_n dX7_findCrossing_18 (by decide) rfl ?_
      refine T_drop (h (fun (i3 : Int) (v19 : VT) => n_T G d 0 0 mX7_findCrossing 19 [vR 203, vR 197, vI i2, vI i3] [] SH v19 Q) (fun i3 v19 h => ?_)) ⟨Or.inl rfl, Or.inl rfl, Or.inl rfl, Or.inl rfl, trivial⟩
      refine T_iload_n dX7_findCrossing_19 rfl ?_
      refine T_aload_n dX7_findCrossing_20 rfl ?_
      refine T_getI dX7_findCrossing_21 fX7_22 rfl SH_197 ?_
      refine U_icmp_ge (tgt := 60) dX7_findCrossing_24 (by decide) (fun hc => ?_) (fun hc => ?_)
      · replace h := h.1 hc
        refine U_iinc dX7_findCrossing_60 rfl (by decide) rfl h.1 ?_
        replace h := h.2
        refine T_goto (tgt := 2) dX7_findCrossing_63 (by decide) ?_
        exact T_drop h ⟨Or.inl rfl, Or.inl rfl, Or.inl rfl, Or.inr rfl, trivial⟩
      · replace h := h.2 hc
        refine T_iload_n dX7_findCrossing_27 rfl ?_
        refine T_iload_n dX7_findCrossing_28 rfl ?_
        refine U_icmp_eq (tgt := 54) dX7_findCrossing_29 (by decide) (fun hc => ?_) (fun hc => ?_)
        · replace h := h.1 hc
          refine U_iinc dX7_findCrossing_54 rfl (by decide) rfl h.1 ?_
          replace h := h.2
          refine T_goto (tgt := 19) dX7_findCrossing_57 (by decide) ?_
          exact T_drop h ⟨Or.inl rfl, Or.inl rfl, Or.inl rfl, Or.inl rfl, trivial⟩
        · replace h := h.2 hc
          refine T_aload_n dX7_findCrossing_32 rfl ?_
          refine T_iload_n dX7_findCrossing_33 rfl ?_
          refine T_iload_n dX7_findCrossing_34 rfl ?_
          refine U_callV (as := [vI i2, vI i3]) (st := []) dX7_findCrossing_35 kX8_countPairs lX7_27 SH_197 rfl rfl rfl rfl (Nat.le_of_ble_eq_true rfl) (Nat.le_of_ble_eq_true rfl) (by omega) ?_
          refine W_X8_countPairs (by omega)  h (fun r35 h => ?_)
          show n_T G d 0 0 mX7_findCrossing 38 [vR 203, vR 197, vI i2, vI i3] [vI r35] SH v19 Q
          refine T_iconst dX7_findCrossing_38 (by decide) ?_
          refine U_icmp_ne (tgt := 54) dX7_findCrossing_39 (by decide) (fun hc => ?_) (fun hc => ?_)
          · replace h := h.1 hc
            refine U_iinc dX7_findCrossing_54 rfl (by decide) rfl h.1 ?_
            replace h := h.2
            refine T_goto (tgt := 19) dX7_findCrossing_57 (by decide) ?_
            exact T_drop h ⟨Or.inl rfl, Or.inl rfl, Or.inl rfl, Or.inl rfl, trivial⟩
          · replace h := h.2 hc
            refine T_aload_n dX7_findCrossing_42 rfl ?_
            refine T_getR (r := 204) dX7_findCrossing_43 fX7_18 rfl SH_203 rfl ?_
            refine T_iload_n dX7_findCrossing_46 rfl ?_
            refine T_dup2 dX7_findCrossing_47 rfl rfl ?_
            refine T_iald dX7_findCrossing_48 SH_204 h.1 ?_
            replace h := h.2
            refine T_iconst dX7_findCrossing_49 (by decide) ?_
            refine T_iload_n dX7_findCrossing_50 rfl ?_
            refine T_ishl dX7_findCrossing_51 ?_
            refine T_ior dX7_findCrossing_52 ?_
            refine U_iast dX7_findCrossing_53 SH_204 h.1 (fun v53 ev53 => ?_)
            replace h := h.2 v53 ev53
            refine U_iinc dX7_findCrossing_54 rfl (by decide) rfl h.1 ?_
            replace h := h.2
            refine T_goto (tgt := 19) dX7_findCrossing_57 (by decide) ?_
            exact T_drop h ⟨Or.inl rfl, Or.inl rfl, Or.inl rfl, Or.inl rfl, trivial⟩

theorem W_X8_doFit {G : GT} {d : Nat} (hd : 3 ≤ d) {x1 : Int} {x2 : Int}   {v : VT} {q : Int → Prop} {Q : Option Vl → List Sh → VT → Prop} (h : P_X8_doFit x1 x2 v q) (hQ : ∀ r, q r → Q (some (vI r)) SH v) : n_T G d 0 0 mX8_doFit 0 [vR 197, vI x1, vI x2, vS 9, vS 9] [] SH v Q := by
  unfold P_X8_doFit at h
  refine T_aload_n dX8_doFit_0 rfl ?_
  refine T_iload_n dX8_doFit_1 rfl ?_
  refine U_callV (as := [vI x1]) (st := []) dX8_doFit_2 kX8_halfOf lX8_106 SH_197 rfl rfl rfl rfl (Nat.le_of_ble_eq_true rfl) (Nat.le_of_ble_eq_true rfl) (by omega) ?_
  refine W_X8_halfOf (by omega)  h (fun r2 h => ?_)
  show n_T G d 0 0 mX8_doFit 5 [vR 197, vI x1, vI x2, vS 9, vS 9] [vI r2] SH v Q
  refine T_istore_n dX8_doFit_5 (by decide) rfl ?_
  refine T_aload_n dX8_doFit_6 rfl ?_
  refine T_iload_n dX8_doFit_7 rfl ?_
  refine U_callV (as := [vI x2]) (st := []) dX8_doFit_8 kX8_halfOf lX8_106 SH_197 rfl rfl rfl rfl (Nat.le_of_ble_eq_true rfl) (Nat.le_of_ble_eq_true rfl) (by omega) ?_
  refine W_X8_halfOf (by omega)  h (fun r8 h => ?_)
  show n_T G d 0 0 mX8_doFit 11 [vR 197, vI x1, vI x2, vI r2, vS 9] [vI r8] SH v Q
  refine T_istore dX8_doFit_11 (by decide) rfl ?_
  refine T_iload_n dX8_doFit_13 rfl ?_
  refine T_iload dX8_doFit_14 rfl ?_
  refine T_ior dX8_doFit_16 ?_
  refine T_aload_n dX8_doFit_17 rfl ?_
  refine T_getI dX8_doFit_18 fX8_28 rfl SH_197 ?_
  refine U_callSN (as := [vI (v 197 5)]) (st := [vI (i_or r2 r8)]) dX8_doFit_21 kX10_allBits lX8_97 rfl rfl (Nat.le_of_ble_eq_true rfl) (Nat.le_of_ble_eq_true rfl) (by omega) ?_
  refine W_X10_allBits (by omega)  h (fun r21 h => ?_)
  show n_T G d 0 0 mX8_doFit 24 [vR 197, vI x1, vI x2, vI r2, vI r8] [vI r21, vI (i_or r2 r8)] SH v Q
  refine U_icmp_ne (tgt := 38) dX8_doFit_24 (by decide) (fun hc => ?_) (fun hc => ?_)
  · replace h := h.1 hc
    refine T_iconst dX8_doFit_38 (by decide) ?_
    exact T_zret dX8_doFit_39 rfl (by decide) (hQ _ h)
  · replace h := h.2 hc
    refine T_iload_n dX8_doFit_27 rfl ?_
    refine T_iload dX8_doFit_28 rfl ?_
    refine T_iand dX8_doFit_30 ?_
    refine U_if_eq (tgt := 38) dX8_doFit_31 (by decide) (fun hc => ?_) (fun hc => ?_)
    · replace h := h.1 hc
      refine T_iconst dX8_doFit_38 (by decide) ?_
      exact T_zret dX8_doFit_39 rfl (by decide) (hQ _ h)
    · replace h := h.2 hc
      refine T_iconst dX8_doFit_34 (by decide) ?_
      refine T_goto (tgt := 39) dX8_doFit_35 (by decide) ?_
      exact T_zret dX8_doFit_39 rfl (by decide) (hQ _ h)

theorem W_X7_addPair {G : GT} (n : Nat) : ∀ {d : Nat} (hd : 7 + n ≤ d) {x1 : Int} {x2 : Int} {x3 : Int}   {v : VT} {q : VT → Prop} {Q : Option Vl → List Sh → VT → Prop} (h : P_X7_addPair n x1 x2 x3 v q) (hQ : ∀ w, q w → Q none SH w), n_T G d 0 0 mX7_addPair 0 [vR 203, vI x1, vI x2, vI x3, vS 9, vS 9, vS 9, vS 9, vS 9] [] SH v Q := by
  induction n with
  | zero => intro d hd x1 x2 x3 v q Q h; exact h.elim
  | succ n ih =>
    intro d hd x1 x2 x3 v q Q h hQ
    refine T_aload_n dX7_addPair_0 rfl ?_
    refine T_aload_n dX7_addPair_1 rfl ?_
    refine T_getI dX7_addPair_2 fX7_9 rfl SH_203 ?_
    refine T_iload_n dX7_addPair_5 rfl ?_
    refine U_max dX7_addPair_6 lX7_57 (by omega) (Nat.le_of_ble_eq_true rfl) ?_
    refine U_putI dX7_addPair_9 fX7_9 rfl rfl SH_203 (fun v9 ev9 => ?_)
    replace h := h v9 ev9
    refine T_iconst dX7_addPair_12 (by decide) ?_
    refine T_istore dX7_addPair_13 (by decide) rfl ?_
    refine T_iload_n dX7_addPair_15 rfl ?_
    refine T_istore dX7_addPair_16 (by decide) rfl ?_
    refine T_iconst dX7_addPair_18 (by decide) ?_
    refine T_istore dX7_addPair_19 (by decide) rfl ?_
    refine T_iconst dX7_addPair_21 (by decide) ?_
    refine T_istore dX7_addPair_22 (by decide) rfl ?_
    refine n_cut (h (fun (i4 : Int) (i6 : Int) => n_T G d 0 0 mX7_addPair 86 [vR 203, vI x1, vI x2, vI x3, vI i4, vS 9, vI i6, vS 9, vS 9] [] SH v9 Q)) ?_ ?_
    · intro i4 i6 h
      refine T_iload dX7_addPair_86 rfl ?_
      refine T_iconst dX7_addPair_88 (by decide) ?_
      refine U_icmp_eq (tgt := 98) dX7_addPair_89 (by decide) (fun hc => ?_) (fun hc => ?_)
      · replace h := h.1 hc
        exact T_vret dX7_addPair_98 rfl (hQ _ h)
      · replace h := h.2 hc
        refine T_iload_n dX7_addPair_92 rfl ?_
        refine T_bipush dX7_addPair_93 (by decide) ?_
        refine U_icmp_le (tgt := 99) dX7_addPair_95 (by decide) (fun hc => ?_) (fun hc => ?_)
        · replace h := h.1 hc
          refine T_iconst dX7_addPair_99 (by decide) ?_
          refine T_istore dX7_addPair_100 (by decide) rfl ?_
          refine T_drop (h (fun (i7 : Int) (v102 : VT) => n_T G d 0 0 mX7_addPair 102 [vR 203, vI x1, vI x2, vI x3, vI i4, vS 9, vI i6, vI i7, vS 9] [] SH v102 Q) (fun i7 v102 h => ?_)) ⟨Or.inl rfl, Or.inl rfl, Or.inl rfl, Or.inl rfl, Or.inl rfl, Or.inr rfl, Or.inl rfl, Or.inl rfl, Or.inr rfl, trivial⟩
          refine T_iload dX7_addPair_102 rfl ?_
          refine T_iload_n dX7_addPair_104 rfl ?_
          refine U_icmp_ge (tgt := 167) dX7_addPair_105 (by decide) (fun hc => ?_) (fun hc => ?_)
          · replace h := h.1 hc
            exact T_vret dX7_addPair_167 rfl (hQ _ h)
          · replace h := h.2 hc
            refine T_iload_n dX7_addPair_108 rfl ?_
            refine T_iload dX7_addPair_109 rfl ?_
            refine T_iconst dX7_addPair_111 (by decide) ?_
            refine T_idiv dX7_addPair_112 (by decide) ?_
            refine U_iadd dX7_addPair_113 h.1 ?_
            replace h := h.2
            refine T_aload_n dX7_addPair_114 rfl ?_
            refine T_getI dX7_addPair_115 fX7_9 rfl SH_203 ?_
            refine U_icmp_le (tgt := 167) dX7_addPair_118 (by decide) (fun hc => ?_) (fun hc => ?_)
            · replace h := h.1 hc
              exact T_vret dX7_addPair_167 rfl (hQ _ h)
            · replace h := h.2 hc
              refine T_aload_n dX7_addPair_121 rfl ?_
              refine T_getR (r := 204) dX7_addPair_122 fX7_18 rfl SH_203 rfl ?_
              refine T_iload dX7_addPair_125 rfl ?_
              refine T_iald dX7_addPair_127 SH_204 h.1 ?_
              replace h := h.2
              refine T_iload_n dX7_addPair_128 rfl ?_
              refine T_iand dX7_addPair_129 ?_
              refine T_iload dX7_addPair_130 rfl ?_
              refine U_callSN (as := [vI (i_and (v102 204 i4.toNat) x1), vI i7]) (st := []) dX7_addPair_132 kX10_hasBit lX7_47 rfl rfl (Nat.le_of_ble_eq_true rfl) (Nat.le_of_ble_eq_true rfl) (by omega) ?_
              refine W_X10_hasBit (by omega)  h (fun r132 h => ?_)
              show n_T G d 0 0 mX7_addPair 135 [vR 203, vI x1, vI x2, vI x3, vI i4, vS 9, vI i6, vI i7, vS 9] [vI r132] SH v102 Q
              refine U_if_eq (tgt := 161) dX7_addPair_135 (by decide) (fun hc => ?_) (fun hc => ?_)
              · replace h := h.1 hc
                refine U_iinc dX7_addPair_161 rfl (by decide) rfl h.1 ?_
                replace h := h.2
                refine T_goto (tgt := 102) dX7_addPair_164 (by decide) ?_
                exact T_drop h ⟨Or.inl rfl, Or.inl rfl, Or.inl rfl, Or.inl rfl, Or.inl rfl, Or.inr rfl, Or.inl rfl, Or.inl rfl, Or.inr rfl, trivial⟩
              · replace h := h.2 hc
                refine T_aload_n dX7_addPair_138 rfl ?_
                refine T_iload_n dX7_addPair_139 rfl ?_
                refine T_iconst dX7_addPair_140 (by decide) ?_
                refine T_iload dX7_addPair_141 rfl ?_
                refine T_ishl dX7_addPair_143 ?_
                refine T_iconst dX7_addPair_144 (by decide) ?_
                refine T_ixor dX7_addPair_145 ?_
                refine T_iand dX7_addPair_146 ?_
                refine T_iconst dX7_addPair_147 (by decide) ?_
                refine T_iload dX7_addPair_148 rfl ?_
                refine T_ishl dX7_addPair_150 ?_
                refine T_iconst dX7_addPair_151 (by decide) ?_
                refine T_ixor dX7_addPair_152 ?_
                refine T_iand dX7_addPair_153 ?_
                refine T_iload_n dX7_addPair_154 rfl ?_
                refine T_iconst dX7_addPair_155 (by decide) ?_
                refine U_iadd dX7_addPair_156 h.1 ?_
                replace h := h.2
                refine T_iload_n dX7_addPair_157 rfl ?_
                refine U_callV (as := [vI (i_and (i_and x1 (i_xor (i_shl 1 i4) (-1))) (i_xor (i_shl 1 i7) (-1))), vI (x2 + 1), vI x3]) (st := []) dX7_addPair_158 kX7_addPair lX7_54 SH_203 rfl rfl rfl rfl (Nat.le_of_ble_eq_true rfl) (Nat.le_of_ble_eq_true rfl) (by omega) ?_
                refine ih (by omega)  h (fun v158 h => ?_)
                show n_T G d 0 0 mX7_addPair 161 [vR 203, vI x1, vI x2, vI x3, vI i4, vS 9, vI i6, vI i7, vS 9] [] SH v158 Q
                refine U_iinc dX7_addPair_161 rfl (by decide) rfl h.1 ?_
                replace h := h.2
                refine T_goto (tgt := 102) dX7_addPair_164 (by decide) ?_
                exact T_drop h ⟨Or.inl rfl, Or.inl rfl, Or.inl rfl, Or.inl rfl, Or.inl rfl, Or.inr rfl, Or.inl rfl, Or.inl rfl, Or.inr rfl, trivial⟩
        · replace h := h.2 hc
          exact T_vret dX7_addPair_98 rfl (hQ _ h)
    · intro h
      refine T_drop (h (fun (i4_1 : Int) (i5 : Int) (i6_1 : Int) (i7_1 : Int) => n_T G d 0 0 mX7_addPair 24 [vR 203, vI x1, vI x2, vI x3, vI i4_1, vI i5, vI i6_1, vI i7_1, vS 9] [] SH v9 Q) (fun i4_1 i5 i6_1 i7_1 h => ?_)) ⟨Or.inl rfl, Or.inl rfl, Or.inl rfl, Or.inl rfl, Or.inl rfl, Or.inl rfl, Or.inl rfl, Or.inl rfl, Or.inr rfl, trivial⟩
      refine T_iload dX7_addPair_24 rfl ?_
      refine T_iload_n dX7_addPair_26 rfl ?_
      refine U_icmp_ge (tgt := 86) dX7_addPair_27 (by decide) (fun hc => ?_) (fun hc => ?_)
      · replace h := h.1 hc
        exact T_drop h ⟨Or.inl rfl, Or.inl rfl, Or.inl rfl, Or.inl rfl, Or.inl rfl, Or.inr rfl, Or.inl rfl, Or.inr rfl, Or.inr rfl, trivial⟩
      · replace h := h.2 hc
        refine T_iload_n dX7_addPair_30 rfl ?_
        refine T_iload dX7_addPair_31 rfl ?_
        refine U_callSN (as := [vI x1, vI i7_1]) (st := []) dX7_addPair_33 kX10_hasBit lX7_47 rfl rfl (Nat.le_of_ble_eq_true rfl) (Nat.le_of_ble_eq_true rfl) (by omega) ?_
        refine W_X10_hasBit (by omega)  h (fun r33 h => ?_)
        show n_T G d 0 0 mX7_addPair 36 [vR 203, vI x1, vI x2, vI x3, vI i4_1, vI i5, vI i6_1, vI i7_1, vS 9] [vI r33] SH v9 Q
        refine n_cut (h (fun (s0 : Int) => n_T G d 0 0 mX7_addPair 55 [vR 203, vI x1, vI x2, vI x3, vI i4_1, vI i5, vI i6_1, vI i7_1, vS 9] [vI s0] SH v9 Q)) ?_ ?_
        · intro s0 h
          refine T_istore dX7_addPair_55 (by decide) rfl ?_
          refine T_iload dX7_addPair_57 rfl ?_
          refine U_if_le (tgt := 80) dX7_addPair_59 (by decide) (fun hc => ?_) (fun hc => ?_)
          · replace h := h.1 hc
            refine U_iinc dX7_addPair_80 rfl (by decide) rfl h.1 ?_
            replace h := h.2
            refine T_goto (tgt := 24) dX7_addPair_83 (by decide) ?_
            exact T_drop h ⟨Or.inl rfl, Or.inl rfl, Or.inl rfl, Or.inl rfl, Or.inl rfl, Or.inl rfl, Or.inl rfl, Or.inl rfl, Or.inr rfl, trivial⟩
          · replace h := h.2 hc
            refine U_iinc dX7_addPair_62 rfl (by decide) rfl h.1 ?_
            replace h := h.2
            refine T_iload dX7_addPair_65 rfl ?_
            refine T_iload dX7_addPair_67 rfl ?_
            refine U_icmp_ge (tgt := 80) dX7_addPair_69 (by decide) (fun hc => ?_) (fun hc => ?_)
            · replace h := h.1 hc
              refine U_iinc dX7_addPair_80 rfl (by decide) rfl h.1 ?_
              replace h := h.2
              refine T_goto (tgt := 24) dX7_addPair_83 (by decide) ?_
              exact T_drop h ⟨Or.inl rfl, Or.inl rfl, Or.inl rfl, Or.inl rfl, Or.inl rfl, Or.inl rfl, Or.inl rfl, Or.inl rfl, Or.inr rfl, trivial⟩
            · replace h := h.2 hc
              refine T_iload dX7_addPair_72 rfl ?_
              refine T_istore dX7_addPair_74 (by decide) rfl ?_
              refine T_iload dX7_addPair_76 rfl ?_
              refine T_istore dX7_addPair_78 (by decide) rfl ?_
              refine U_iinc dX7_addPair_80 rfl (by decide) rfl h.1 ?_
              replace h := h.2
              refine T_goto (tgt := 24) dX7_addPair_83 (by decide) ?_
              exact T_drop h ⟨Or.inl rfl, Or.inl rfl, Or.inl rfl, Or.inl rfl, Or.inl rfl, Or.inl rfl, Or.inl rfl, Or.inl rfl, Or.inr rfl, trivial⟩
        · intro h
          refine U_if_eq (tgt := 54) dX7_addPair_36 (by decide) (fun hc => ?_) (fun hc => ?_)
          · replace h := h.1 hc
            refine T_iconst dX7_addPair_54 (by decide) ?_
            exact T_drop h ⟨Or.inl rfl, Or.inl rfl, Or.inl rfl, Or.inl rfl, Or.inl rfl, Or.inl rfl, Or.inl rfl, Or.inl rfl, Or.inr rfl, trivial⟩
          · replace h := h.2 hc
            refine T_aload_n dX7_addPair_39 rfl ?_
            refine T_getR (r := 204) dX7_addPair_40 fX7_18 rfl SH_203 rfl ?_
            refine T_iload dX7_addPair_43 rfl ?_
            refine T_iald dX7_addPair_45 SH_204 h.1 ?_
            replace h := h.2
            refine T_iload_n dX7_addPair_46 rfl ?_
            refine T_iand dX7_addPair_47 ?_
            refine U_callS (as := [vI (i_and (v9 204 i7_1.toNat) x1)]) (st := []) dX7_addPair_48 kJ6_bitCount_0f7a4 lX7_39 rfl rfl (Nat.le_of_ble_eq_true rfl) (Nat.le_of_ble_eq_true rfl) (by omega) ?_
            refine W_J6_bitCount_0f7a4 (by omega)  h (fun r48 h => ?_)
            show n_T G d 0 0 mX7_addPair 51 [vR 203, vI x1, vI x2, vI x3, vI i4_1, vI i5, vI i6_1, vI i7_1, vS 9] [vI r48] SH v9 Q
            refine T_goto (tgt := 55) dX7_addPair_51 (by decide) ?_
            exact T_drop h ⟨Or.inl rfl, Or.inl rfl, Or.inl rfl, Or.inl rfl, Or.inl rfl, Or.inl rfl, Or.inl rfl, Or.inl rfl, Or.inr rfl, trivial⟩

theorem W_X7_findPairs {G : GT} {d : Nat} (hd : 20 ≤ d)    {v : VT} {q : VT → Prop} {Q : Option Vl → List Sh → VT → Prop} (h : P_X7_findPairs  v q) (hQ : ∀ w, q w → Q none SH w) : n_T G d 0 0 mX7_findPairs 0 [vR 203, vR 197, vS 9, vS 9, vS 9] [] SH v Q := by
  unfold P_X7_findPairs at h
  refine T_iconst dX7_findPairs_0 (by decide) ?_
  refine T_aload_n dX7_findPairs_1 rfl ?_
  refine T_getI dX7_findPairs_2 fX7_22 rfl SH_197 ?_
  refine U_imul dX7_findPairs_5 h.1 ?_
  replace h := h.2
  refine U_istore_n dX7_findPairs_6 (by decide) rfl (fun l2 el2 => ?_)
  replace h := h l2 el2
  refine T_iconst dX7_findPairs_7 (by decide) ?_
  refine T_istore_n dX7_findPairs_8 (by decide) rfl ?_
  refine n_cut (h (fun (v71 : VT) => n_T G d 0 0 mX7_findPairs 71 [vR 203, vS 9, vI l2, vS 9, vS 9] [] SH v71 Q)) ?_ ?_
  · intro v71 h
    refine T_aload_n dX7_findPairs_71 rfl ?_
    refine T_iconst dX7_findPairs_72 (by decide) ?_
    refine U_putI dX7_findPairs_73 fX7_9 rfl rfl SH_203 (fun v73 ev73 => ?_)
    replace h := h v73 ev73
    refine T_aload_n dX7_findPairs_76 rfl ?_
    refine T_iload_n dX7_findPairs_77 rfl ?_
    refine U_callSN (as := [vI l2]) (st := [vR 203]) dX7_findPairs_78 kX10_allBits lX7_31 rfl rfl (Nat.le_of_ble_eq_true rfl) (Nat.le_of_ble_eq_true rfl) (by omega) ?_
    refine W_X10_allBits (by omega)  h (fun r78 h => ?_)
    show n_T G d 0 0 mX7_findPairs 81 [vR 203, vS 9, vI l2, vS 9, vS 9] [vI r78, vR 203] SH v73 Q
    refine T_iconst dX7_findPairs_81 (by decide) ?_
    refine T_iload_n dX7_findPairs_82 rfl ?_
    refine U_callV (as := [vI r78, vI 0, vI l2]) (st := []) dX7_findPairs_83 kX7_addPair lX7_54 SH_203 rfl rfl rfl rfl (Nat.le_of_ble_eq_true rfl) (Nat.le_of_ble_eq_true rfl) (by omega) ?_
    refine W_X7_addPair 12 (by omega)  h (fun v83 h => ?_)
    show n_T G d 0 0 mX7_findPairs 86 [vR 203, vS 9, vI l2, vS 9, vS 9] [] SH v83 Q
    exact T_vret dX7_findPairs_86 rfl (hQ _ h)
  · intro h
    refine T_drop (h (fun (i3 : Int) (v9 : VT) => n_T G d 0 0 mX7_findPairs 9 [vR 203, vR 197, vI l2, vI i3, vS 9] [] SH v9 Q) (fun i3 v9 h => ?_)) ⟨Or.inl rfl, Or.inl rfl, Or.inl rfl, Or.inl rfl, Or.inr rfl, trivial⟩
    refine T_iload_n dX7_findPairs_9 rfl ?_
    refine T_iload_n dX7_findPairs_10 rfl ?_
    refine U_icmp_ge (tgt := 71) dX7_findPairs_11 (by decide) (fun hc => ?_) (fun hc => ?_)
    · replace h := h.1 hc
      exact T_drop h ⟨Or.inl rfl, Or.inr rfl, Or.inl rfl, Or.inr rfl, Or.inr rfl, trivial⟩
    · replace h := h.2 hc
      refine T_aload_n dX7_findPairs_14 rfl ?_
      refine T_getR (r := 204) dX7_findPairs_15 fX7_18 rfl SH_203 rfl ?_
      refine T_iload_n dX7_findPairs_18 rfl ?_
      refine T_iconst dX7_findPairs_19 (by decide) ?_
      refine U_iast dX7_findPairs_20 SH_204 h.1 (fun v20 ev20 => ?_)
      replace h := h.2 v20 ev20
      refine T_iconst dX7_findPairs_21 (by decide) ?_
      refine T_istore dX7_findPairs_22 (by decide) rfl ?_
      refine T_drop (h (fun (i4 : Int) (v24 : VT) => n_T G d 0 0 mX7_findPairs 24 [vR 203, vR 197, vI l2, vI i3, vI i4] [] SH v24 Q) (fun i4 v24 h => ?_)) ⟨Or.inl rfl, Or.inl rfl, Or.inl rfl, Or.inl rfl, Or.inl rfl, trivial⟩
      refine T_iload dX7_findPairs_24 rfl ?_
      refine T_iload_n dX7_findPairs_26 rfl ?_
      refine U_icmp_ge (tgt := 65) dX7_findPairs_27 (by decide) (fun hc => ?_) (fun hc => ?_)
      · replace h := h.1 hc
        refine U_iinc dX7_findPairs_65 rfl (by decide) rfl h.1 ?_
        replace h := h.2
        refine T_goto (tgt := 9) dX7_findPairs_68 (by decide) ?_
        exact T_drop h ⟨Or.inl rfl, Or.inl rfl, Or.inl rfl, Or.inl rfl, Or.inr rfl, trivial⟩
      · replace h := h.2 hc
        refine T_iload dX7_findPairs_30 rfl ?_
        refine T_iload_n dX7_findPairs_32 rfl ?_
        refine U_icmp_eq (tgt := 59) dX7_findPairs_33 (by decide) (fun hc => ?_) (fun hc => ?_)
        · replace h := h.1 hc
          refine U_iinc dX7_findPairs_59 rfl (by decide) rfl h.1 ?_
          replace h := h.2
          refine T_goto (tgt := 24) dX7_findPairs_62 (by decide) ?_
          exact T_drop h ⟨Or.inl rfl, Or.inl rfl, Or.inl rfl, Or.inl rfl, Or.inl rfl, trivial⟩
        · replace h := h.2 hc
          refine T_aload_n dX7_findPairs_36 rfl ?_
          refine T_iload_n dX7_findPairs_37 rfl ?_
          refine T_iload dX7_findPairs_38 rfl ?_
          refine U_callV (as := [vI i3, vI i4]) (st := []) dX7_findPairs_40 kX8_doFit lX7_51 SH_197 rfl rfl rfl rfl (Nat.le_of_ble_eq_true rfl) (Nat.le_of_ble_eq_true rfl) (by omega) ?_
          refine W_X8_doFit (by omega)  h (fun r40 h => ?_)
          show n_T G d 0 0 mX7_findPairs 43 [vR 203, vR 197, vI l2, vI i3, vI i4] [vI r40] SH v24 Q
          refine U_if_eq (tgt := 59) dX7_findPairs_43 (by decide) (fun hc => ?_) (fun hc => ?_)
          · replace h := h.1 hc
            refine U_iinc dX7_findPairs_59 rfl (by decide) rfl h.1 ?_
            replace h := h.2
            refine T_goto (tgt := 24) dX7_findPairs_62 (by decide) ?_
            exact T_drop h ⟨Or.inl rfl, Or.inl rfl, Or.inl rfl, Or.inl rfl, Or.inl rfl, trivial⟩
          · replace h := h.2 hc
            refine T_aload_n dX7_findPairs_46 rfl ?_
            refine T_getR (r := 204) dX7_findPairs_47 fX7_18 rfl SH_203 rfl ?_
            refine T_iload_n dX7_findPairs_50 rfl ?_
            refine T_dup2 dX7_findPairs_51 rfl rfl ?_
            refine T_iald dX7_findPairs_52 SH_204 h.1 ?_
            replace h := h.2
            refine T_iconst dX7_findPairs_53 (by decide) ?_
            refine T_iload dX7_findPairs_54 rfl ?_
            refine T_ishl dX7_findPairs_56 ?_
            refine T_ior dX7_findPairs_57 ?_
            refine U_iast dX7_findPairs_58 SH_204 h.1 (fun v58 ev58 => ?_)
            replace h := h.2 v58 ev58
            refine U_iinc dX7_findPairs_59 rfl (by decide) rfl h.1 ?_
            replace h := h.2
            refine T_goto (tgt := 24) dX7_findPairs_62 (by decide) ?_
            exact T_drop h ⟨Or.inl rfl, Or.inl rfl, Or.inl rfl, Or.inl rfl, Or.inl rfl, trivial⟩

theorem W_X8_tell {G : GT} {d : Nat} (hd : 1 ≤ d) {x1 : Int} {x2 : Int} {x3 : Int}   {v : VT} {q : VT → Prop} {Q : Option Vl → List Sh → VT → Prop} (h : P_X8_tell x1 x2 x3 v q) (hQ : ∀ w, q w → Q none SH w) : n_T G d 0 0 mX8_tell 0 [vR 197, vI x1, vI x2, vI x3] [] SH v Q := by
  unfold P_X8_tell at h
  refine T_aload_n dX8_tell_0 rfl ?_
  refine T_iload_n dX8_tell_1 rfl ?_
  refine U_putI dX8_tell_2 fX8_18 rfl rfl SH_197 (fun v2 ev2 => ?_)
  replace h := h v2 ev2
  refine T_aload_n dX8_tell_5 rfl ?_
  refine T_iload_n dX8_tell_6 rfl ?_
  refine U_putI dX8_tell_7 fX8_22 rfl rfl SH_197 (fun v7 ev7 => ?_)
  replace h := h v7 ev7
  refine T_aload_n dX8_tell_10 rfl ?_
  refine T_iload_n dX8_tell_11 rfl ?_
  refine U_putI dX8_tell_12 fX8_25 rfl rfl SH_197 (fun v12 ev12 => ?_)
  replace h := h v12 ev12
  exact T_vret dX8_tell_15 rfl (hQ _ h)

theorem W_X8_findApart {G : GT} {d : Nat} (hd : 2 ≤ d)    {v : VT} {q : VT → Prop} {Q : Option Vl → List Sh → VT → Prop} (h : P_X8_findApart  v q) (hQ : ∀ w, q w → Q none SH w) : n_T G d 0 0 mX8_findApart 0 [vR 197, vR 138, vS 9, vS 9] [] SH v Q := by
  unfold P_X8_findApart at h
  refine T_iconst dX8_findApart_0 (by decide) ?_
  refine T_istore_n dX8_findApart_1 (by decide) rfl ?_
  refine T_drop (h (fun (i2 : Int) (v2 : VT) => n_T G d 0 0 mX8_findApart 2 [vR 197, vR 138, vI i2, vS 9] [] SH v2 Q) (fun i2 v2 h => ?_)) ⟨Or.inl rfl, Or.inl rfl, Or.inl rfl, Or.inr rfl, trivial⟩
  refine T_aload_n dX8_findApart_2 rfl ?_
  refine T_getI dX8_findApart_3 fX8_18 rfl SH_197 ?_
  refine U_if_ne (tgt := 67) dX8_findApart_6 (by decide) (fun hc => ?_) (fun hc => ?_)
  · replace h := h.1 hc
    exact T_vret dX8_findApart_67 rfl (hQ _ h)
  · replace h := h.2 hc
    refine T_iload_n dX8_findApart_9 rfl ?_
    refine T_aload_n dX8_findApart_10 rfl ?_
    refine T_getI dX8_findApart_11 fX8_28 rfl SH_197 ?_
    refine U_icmp_ge (tgt := 67) dX8_findApart_14 (by decide) (fun hc => ?_) (fun hc => ?_)
    · replace h := h.1 hc
      exact T_vret dX8_findApart_67 rfl (hQ _ h)
    · replace h := h.2 hc
      refine T_iload_n dX8_findApart_17 rfl ?_
      refine T_iconst dX8_findApart_18 (by decide) ?_
      refine U_iadd dX8_findApart_19 h.1 ?_
      replace h := h.2
      refine T_istore_n dX8_findApart_20 (by decide) rfl ?_
      refine T_drop (h (fun (i3 : Int) (v21 : VT) => n_T G d 0 0 mX8_findApart 21 [vR 197, vR 138, vI i2, vI i3] [] SH v21 Q) (fun i3 v21 h => ?_)) ⟨Or.inl rfl, Or.inl rfl, Or.inl rfl, Or.inl rfl, trivial⟩
      refine T_aload_n dX8_findApart_21 rfl ?_
      refine T_getI dX8_findApart_22 fX8_18 rfl SH_197 ?_
      refine U_if_ne (tgt := 61) dX8_findApart_25 (by decide) (fun hc => ?_) (fun hc => ?_)
      · replace h := h.1 hc
        refine U_iinc dX8_findApart_61 rfl (by decide) rfl h.1 ?_
        replace h := h.2
        refine T_goto (tgt := 2) dX8_findApart_64 (by decide) ?_
        exact T_drop h ⟨Or.inl rfl, Or.inl rfl, Or.inl rfl, Or.inr rfl, trivial⟩
      · replace h := h.2 hc
        refine T_iload_n dX8_findApart_28 rfl ?_
        refine T_aload_n dX8_findApart_29 rfl ?_
        refine T_getI dX8_findApart_30 fX8_28 rfl SH_197 ?_
        refine U_icmp_ge (tgt := 61) dX8_findApart_33 (by decide) (fun hc => ?_) (fun hc => ?_)
        · replace h := h.1 hc
          refine U_iinc dX8_findApart_61 rfl (by decide) rfl h.1 ?_
          replace h := h.2
          refine T_goto (tgt := 2) dX8_findApart_64 (by decide) ?_
          exact T_drop h ⟨Or.inl rfl, Or.inl rfl, Or.inl rfl, Or.inr rfl, trivial⟩
        · replace h := h.2 hc
          refine T_aload_n dX8_findApart_36 rfl ?_
          refine T_getR (r := 140) dX8_findApart_37 fX8_53 rfl SH_138 rfl ?_
          refine T_iload_n dX8_findApart_40 rfl ?_
          have hw41 := row_141 h.1
          refine T_aald3 dX8_findApart_41 SH_140 h.1 (rowq_141 h.1) ?_
          replace h := h.2
          refine T_iload_n dX8_findApart_42 rfl ?_
          refine T_iald dX8_findApart_43 hw41 h.1 ?_
          replace h := h.2
          refine T_iconst dX8_findApart_44 (by decide) ?_
          refine U_icmp_ne (tgt := 55) dX8_findApart_45 (by decide) (fun hc => ?_) (fun hc => ?_)
          · replace h := h.1 hc
            refine U_iinc dX8_findApart_55 rfl (by decide) rfl h.1 ?_
            replace h := h.2
            refine T_goto (tgt := 21) dX8_findApart_58 (by decide) ?_
            exact T_drop h ⟨Or.inl rfl, Or.inl rfl, Or.inl rfl, Or.inl rfl, trivial⟩
          · replace h := h.2 hc
            refine T_aload_n dX8_findApart_48 rfl ?_
            refine T_iconst dX8_findApart_49 (by decide) ?_
            refine T_iload_n dX8_findApart_50 rfl ?_
            refine T_iload_n dX8_findApart_51 rfl ?_
            refine U_callV (as := [vI 1, vI i2, vI i3]) (st := []) dX8_findApart_52 kX8_tell lX8_83 SH_197 rfl rfl rfl rfl (Nat.le_of_ble_eq_true rfl) (Nat.le_of_ble_eq_true rfl) (by omega) ?_
            refine W_X8_tell (by omega)  h (fun v52 h => ?_)
            show n_T G d 0 0 mX8_findApart 55 [vR 197, vR 138, vI i2, vI i3] [] SH v52 Q
            refine U_iinc dX8_findApart_55 rfl (by decide) rfl h.1 ?_
            replace h := h.2
            refine T_goto (tgt := 21) dX8_findApart_58 (by decide) ?_
            exact T_drop h ⟨Or.inl rfl, Or.inl rfl, Or.inl rfl, Or.inl rfl, trivial⟩

theorem W_X8_findEquallyFar {G : GT} {d : Nat} (hd : 2 ≤ d)    {v : VT} {q : VT → Prop} {Q : Option Vl → List Sh → VT → Prop} (h : P_X8_findEquallyFar  v q) (hQ : ∀ w, q w → Q none SH w) : n_T G d 0 0 mX8_findEquallyFar 0 [vR 197, vR 10, vR 138, vS 9, vS 9, vS 9, vS 9] [] SH v Q := by
  unfold P_X8_findEquallyFar at h
  refine T_iconst dX8_findEquallyFar_0 (by decide) ?_
  refine T_istore_n dX8_findEquallyFar_1 (by decide) rfl ?_
  refine T_drop (h (fun (i3 : Int) (v2 : VT) => n_T G d 0 0 mX8_findEquallyFar 2 [vR 197, vR 10, vR 138, vI i3, vS 9, vS 9, vS 9] [] SH v2 Q) (fun i3 v2 h => ?_)) ⟨Or.inl rfl, Or.inl rfl, Or.inl rfl, Or.inl rfl, Or.inr rfl, Or.inr rfl, Or.inr rfl, trivial⟩
  refine T_aload_n dX8_findEquallyFar_2 rfl ?_
  refine T_getI dX8_findEquallyFar_3 fX8_18 rfl SH_197 ?_
  refine U_if_ne (tgt := 95) dX8_findEquallyFar_6 (by decide) (fun hc => ?_) (fun hc => ?_)
  · replace h := h.1 hc
    exact T_vret dX8_findEquallyFar_95 rfl (hQ _ h)
  · replace h := h.2 hc
    refine T_iload_n dX8_findEquallyFar_9 rfl ?_
    refine T_aload_n dX8_findEquallyFar_10 rfl ?_
    refine T_getI dX8_findEquallyFar_11 fX8_87 rfl SH_10 ?_
    refine U_icmp_ge (tgt := 95) dX8_findEquallyFar_14 (by decide) (fun hc => ?_) (fun hc => ?_)
    · replace h := h.1 hc
      exact T_vret dX8_findEquallyFar_95 rfl (hQ _ h)
    · replace h := h.2 hc
      refine T_aload_n dX8_findEquallyFar_17 rfl ?_
      refine T_getR (r := 140) dX8_findEquallyFar_18 fX8_53 rfl SH_138 rfl ?_
      refine T_aload_n dX8_findEquallyFar_21 rfl ?_
      refine T_getR (r := 12) dX8_findEquallyFar_22 fX8_59 rfl SH_10 rfl ?_
      refine T_iload_n dX8_findEquallyFar_25 rfl ?_
      refine T_iald dX8_findEquallyFar_26 SH_12 h.1 ?_
      replace h := h.2
      have hw27 := row_141 h.1
      refine T_aald3 dX8_findEquallyFar_27 SH_140 h.1 (rowq_141 h.1) ?_
      replace h := h.2
      refine T_astore dX8_findEquallyFar_28 (by decide) rfl ?_
      refine T_aload_n dX8_findEquallyFar_30 rfl ?_
      refine T_getR (r := 140) dX8_findEquallyFar_31 fX8_53 rfl SH_138 rfl ?_
      refine T_aload_n dX8_findEquallyFar_34 rfl ?_
      refine T_getR (r := 13) dX8_findEquallyFar_35 fX8_65 rfl SH_10 rfl ?_
      refine T_iload_n dX8_findEquallyFar_38 rfl ?_
      refine T_iald dX8_findEquallyFar_39 SH_13 h.1 ?_
      replace h := h.2
      have hw40 := row_141 h.1
      refine T_aald3 dX8_findEquallyFar_40 SH_140 h.1 (rowq_141 h.1) ?_
      replace h := h.2
      refine T_astore dX8_findEquallyFar_41 (by decide) rfl ?_
      refine T_iconst dX8_findEquallyFar_43 (by decide) ?_
      refine T_istore dX8_findEquallyFar_44 (by decide) rfl ?_
      refine T_drop (h (fun (i6 : Int) (v46 : VT) => n_T G d 0 0 mX8_findEquallyFar 46 [vR 197, vR 10, vR 138, vI i3, vR (141 + (v2 12 i3.toNat).toNat), vR (141 + (v2 13 i3.toNat).toNat), vI i6] [] SH v46 Q) (fun i6 v46 h => ?_)) ⟨Or.inl rfl, Or.inl rfl, Or.inl rfl, Or.inl rfl, Or.inl rfl, Or.inl rfl, Or.inl rfl, trivial⟩
      refine T_aload_n dX8_findEquallyFar_46 rfl ?_
      refine T_getI dX8_findEquallyFar_47 fX8_18 rfl SH_197 ?_
      refine U_if_ne (tgt := 89) dX8_findEquallyFar_50 (by decide) (fun hc => ?_) (fun hc => ?_)
      · replace h := h.1 hc
        refine U_iinc dX8_findEquallyFar_89 rfl (by decide) rfl h.1 ?_
        replace h := h.2
        refine T_goto (tgt := 2) dX8_findEquallyFar_92 (by decide) ?_
        exact T_drop h ⟨Or.inl rfl, Or.inl rfl, Or.inl rfl, Or.inl rfl, Or.inr rfl, Or.inr rfl, Or.inr rfl, trivial⟩
      · replace h := h.2 hc
        refine T_iload dX8_findEquallyFar_53 rfl ?_
        refine T_aload_n dX8_findEquallyFar_55 rfl ?_
        refine T_getI dX8_findEquallyFar_56 fX8_28 rfl SH_197 ?_
        refine U_icmp_ge (tgt := 89) dX8_findEquallyFar_59 (by decide) (fun hc => ?_) (fun hc => ?_)
        · replace h := h.1 hc
          refine U_iinc dX8_findEquallyFar_89 rfl (by decide) rfl h.1 ?_
          replace h := h.2
          refine T_goto (tgt := 2) dX8_findEquallyFar_92 (by decide) ?_
          exact T_drop h ⟨Or.inl rfl, Or.inl rfl, Or.inl rfl, Or.inl rfl, Or.inr rfl, Or.inr rfl, Or.inr rfl, trivial⟩
        · replace h := h.2 hc
          refine T_aload dX8_findEquallyFar_62 rfl ?_
          refine T_iload dX8_findEquallyFar_64 rfl ?_
          refine T_iald dX8_findEquallyFar_66 hw27 h.1 ?_
          replace h := h.2
          refine T_aload dX8_findEquallyFar_67 rfl ?_
          refine T_iload dX8_findEquallyFar_69 rfl ?_
          refine T_iald dX8_findEquallyFar_71 hw40 h.1 ?_
          replace h := h.2
          refine U_icmp_ne (tgt := 83) dX8_findEquallyFar_72 (by decide) (fun hc => ?_) (fun hc => ?_)
          · replace h := h.1 hc
            refine U_iinc dX8_findEquallyFar_83 rfl (by decide) rfl h.1 ?_
            replace h := h.2
            refine T_goto (tgt := 46) dX8_findEquallyFar_86 (by decide) ?_
            exact T_drop h ⟨Or.inl rfl, Or.inl rfl, Or.inl rfl, Or.inl rfl, Or.inl rfl, Or.inl rfl, Or.inl rfl, trivial⟩
          · replace h := h.2 hc
            refine T_aload_n dX8_findEquallyFar_75 rfl ?_
            refine T_iconst dX8_findEquallyFar_76 (by decide) ?_
            refine T_iload_n dX8_findEquallyFar_77 rfl ?_
            refine T_iload dX8_findEquallyFar_78 rfl ?_
            refine U_callV (as := [vI 2, vI i3, vI i6]) (st := []) dX8_findEquallyFar_80 kX8_tell lX8_83 SH_197 rfl rfl rfl rfl (Nat.le_of_ble_eq_true rfl) (Nat.le_of_ble_eq_true rfl) (by omega) ?_
            refine W_X8_tell (by omega)  h (fun v80 h => ?_)
            show n_T G d 0 0 mX8_findEquallyFar 83 [vR 197, vR 10, vR 138, vI i3, vR (141 + (v2 12 i3.toNat).toNat), vR (141 + (v2 13 i3.toNat).toNat), vI i6] [] SH v80 Q
            refine U_iinc dX8_findEquallyFar_83 rfl (by decide) rfl h.1 ?_
            replace h := h.2
            refine T_goto (tgt := 46) dX8_findEquallyFar_86 (by decide) ?_
            exact T_drop h ⟨Or.inl rfl, Or.inl rfl, Or.inl rfl, Or.inl rfl, Or.inl rfl, Or.inl rfl, Or.inl rfl, trivial⟩

theorem W_X8_findNotAlike {G : GT} {d : Nat} (hd : 2 ≤ d)    {v : VT} {q : VT → Prop} {Q : Option Vl → List Sh → VT → Prop} (h : P_X8_findNotAlike  v q) (hQ : ∀ w, q w → Q none SH w) : n_T G d 0 0 mX8_findNotAlike 0 [vR 197, vR 10, vR 138, vR 191, vS 9, vS 9] [] SH v Q := by
  unfold P_X8_findNotAlike at h
  refine T_iconst dX8_findNotAlike_0 (by decide) ?_
  refine T_istore dX8_findNotAlike_1 (by decide) rfl ?_
  refine T_drop (h (fun (i4 : Int) (v3 : VT) => n_T G d 0 0 mX8_findNotAlike 3 [vR 197, vR 10, vR 138, vR 191, vI i4, vS 9] [] SH v3 Q) (fun i4 v3 h => ?_)) ⟨Or.inl rfl, Or.inl rfl, Or.inl rfl, Or.inl rfl, Or.inl rfl, Or.inr rfl, trivial⟩
  refine T_aload_n dX8_findNotAlike_3 rfl ?_
  refine T_getI dX8_findNotAlike_4 fX8_18 rfl SH_197 ?_
  refine U_if_ne (tgt := 91) dX8_findNotAlike_7 (by decide) (fun hc => ?_) (fun hc => ?_)
  · replace h := h.1 hc
    exact T_vret dX8_findNotAlike_91 rfl (hQ _ h)
  · replace h := h.2 hc
    refine T_iload dX8_findNotAlike_10 rfl ?_
    refine T_aload_n dX8_findNotAlike_12 rfl ?_
    refine T_getI dX8_findNotAlike_13 fX8_87 rfl SH_10 ?_
    refine U_icmp_ge (tgt := 91) dX8_findNotAlike_16 (by decide) (fun hc => ?_) (fun hc => ?_)
    · replace h := h.1 hc
      exact T_vret dX8_findNotAlike_91 rfl (hQ _ h)
    · replace h := h.2 hc
      refine T_iload dX8_findNotAlike_19 rfl ?_
      refine T_iconst dX8_findNotAlike_21 (by decide) ?_
      refine U_iadd dX8_findNotAlike_22 h.1 ?_
      replace h := h.2
      refine T_istore dX8_findNotAlike_23 (by decide) rfl ?_
      refine T_drop (h (fun (i5 : Int) (v25 : VT) => n_T G d 0 0 mX8_findNotAlike 25 [vR 197, vR 10, vR 138, vR 191, vI i4, vI i5] [] SH v25 Q) (fun i5 v25 h => ?_)) ⟨Or.inl rfl, Or.inl rfl, Or.inl rfl, Or.inl rfl, Or.inl rfl, Or.inl rfl, trivial⟩
      refine T_aload_n dX8_findNotAlike_25 rfl ?_
      refine T_getI dX8_findNotAlike_26 fX8_18 rfl SH_197 ?_
      refine U_if_ne (tgt := 85) dX8_findNotAlike_29 (by decide) (fun hc => ?_) (fun hc => ?_)
      · replace h := h.1 hc
        refine U_iinc dX8_findNotAlike_85 rfl (by decide) rfl h.1 ?_
        replace h := h.2
        refine T_goto (tgt := 3) dX8_findNotAlike_88 (by decide) ?_
        exact T_drop h ⟨Or.inl rfl, Or.inl rfl, Or.inl rfl, Or.inl rfl, Or.inl rfl, Or.inr rfl, trivial⟩
      · replace h := h.2 hc
        refine T_iload dX8_findNotAlike_32 rfl ?_
        refine T_aload_n dX8_findNotAlike_34 rfl ?_
        refine T_getI dX8_findNotAlike_35 fX8_87 rfl SH_10 ?_
        refine U_icmp_ge (tgt := 85) dX8_findNotAlike_38 (by decide) (fun hc => ?_) (fun hc => ?_)
        · replace h := h.1 hc
          refine U_iinc dX8_findNotAlike_85 rfl (by decide) rfl h.1 ?_
          replace h := h.2
          refine T_goto (tgt := 3) dX8_findNotAlike_88 (by decide) ?_
          exact T_drop h ⟨Or.inl rfl, Or.inl rfl, Or.inl rfl, Or.inl rfl, Or.inl rfl, Or.inr rfl, trivial⟩
        · replace h := h.2 hc
          refine T_aload_n dX8_findNotAlike_41 rfl ?_
          refine T_getR (r := 192) dX8_findNotAlike_42 fX8_90 rfl SH_191 rfl ?_
          refine T_iload dX8_findNotAlike_45 rfl ?_
          refine T_iald dX8_findNotAlike_47 SH_192 h.1 ?_
          replace h := h.2
          refine T_aload_n dX8_findNotAlike_48 rfl ?_
          refine T_getR (r := 192) dX8_findNotAlike_49 fX8_90 rfl SH_191 rfl ?_
          refine T_iload dX8_findNotAlike_52 rfl ?_
          refine T_iald dX8_findNotAlike_54 SH_192 h.1 ?_
          replace h := h.2
          refine U_icmp_ne (tgt := 79) dX8_findNotAlike_55 (by decide) (fun hc => ?_) (fun hc => ?_)
          · replace h := h.1 hc
            refine U_iinc dX8_findNotAlike_79 rfl (by decide) rfl h.1 ?_
            replace h := h.2
            refine T_goto (tgt := 25) dX8_findNotAlike_82 (by decide) ?_
            exact T_drop h ⟨Or.inl rfl, Or.inl rfl, Or.inl rfl, Or.inl rfl, Or.inl rfl, Or.inl rfl, trivial⟩
          · replace h := h.2 hc
            refine T_aload_n dX8_findNotAlike_58 rfl ?_
            refine T_aload_n dX8_findNotAlike_59 rfl ?_
            refine T_iload dX8_findNotAlike_60 rfl ?_
            refine T_iload dX8_findNotAlike_62 rfl ?_
            refine U_callV (as := [vR 10, vI i4, vI i5]) (st := []) dX8_findNotAlike_64 kX2_areAlike lX8_93 SH_138 rfl rfl rfl rfl (Nat.le_of_ble_eq_true rfl) (Nat.le_of_ble_eq_true rfl) (by omega) ?_
            refine W_X2_areAlike (by omega)  h (fun r64 h => ?_)
            show n_T G d 0 0 mX8_findNotAlike 67 [vR 197, vR 10, vR 138, vR 191, vI i4, vI i5] [vI r64] SH v25 Q
            refine U_if_ne (tgt := 79) dX8_findNotAlike_67 (by decide) (fun hc => ?_) (fun hc => ?_)
            · replace h := h.1 hc
              refine U_iinc dX8_findNotAlike_79 rfl (by decide) rfl h.1 ?_
              replace h := h.2
              refine T_goto (tgt := 25) dX8_findNotAlike_82 (by decide) ?_
              exact T_drop h ⟨Or.inl rfl, Or.inl rfl, Or.inl rfl, Or.inl rfl, Or.inl rfl, Or.inl rfl, trivial⟩
            · replace h := h.2 hc
              refine T_aload_n dX8_findNotAlike_70 rfl ?_
              refine T_iconst dX8_findNotAlike_71 (by decide) ?_
              refine T_iload dX8_findNotAlike_72 rfl ?_
              refine T_iload dX8_findNotAlike_74 rfl ?_
              refine U_callV (as := [vI 3, vI i4, vI i5]) (st := []) dX8_findNotAlike_76 kX8_tell lX8_83 SH_197 rfl rfl rfl rfl (Nat.le_of_ble_eq_true rfl) (Nat.le_of_ble_eq_true rfl) (by omega) ?_
              refine W_X8_tell (by omega)  h (fun v76 h => ?_)
              show n_T G d 0 0 mX8_findNotAlike 79 [vR 197, vR 10, vR 138, vR 191, vI i4, vI i5] [] SH v76 Q
              refine U_iinc dX8_findNotAlike_79 rfl (by decide) rfl h.1 ?_
              replace h := h.2
              refine T_goto (tgt := 25) dX8_findNotAlike_82 (by decide) ?_
              exact T_drop h ⟨Or.inl rfl, Or.inl rfl, Or.inl rfl, Or.inl rfl, Or.inl rfl, Or.inl rfl, trivial⟩

theorem W_X8_findReason {G : GT} {d : Nat} (hd : 3 ≤ d)    {v : VT} {q : VT → Prop} {Q : Option Vl → List Sh → VT → Prop} (h : P_X8_findReason  v q) (hQ : ∀ w, q w → Q none SH w) : n_T G d 0 0 mX8_findReason 0 [vR 197, vR 10, vR 138, vR 191] [] SH v Q := by
  unfold P_X8_findReason at h
  refine T_aload_n dX8_findReason_0 rfl ?_
  refine T_iconst dX8_findReason_1 (by decide) ?_
  refine U_putI dX8_findReason_2 fX8_18 rfl rfl SH_197 (fun v2 ev2 => ?_)
  replace h := h v2 ev2
  refine T_aload_n dX8_findReason_5 rfl ?_
  refine T_iconst dX8_findReason_6 (by decide) ?_
  refine U_putI dX8_findReason_7 fX8_22 rfl rfl SH_197 (fun v7 ev7 => ?_)
  replace h := h v7 ev7
  refine T_aload_n dX8_findReason_10 rfl ?_
  refine T_iconst dX8_findReason_11 (by decide) ?_
  refine U_putI dX8_findReason_12 fX8_25 rfl rfl SH_197 (fun v12 ev12 => ?_)
  replace h := h v12 ev12
  refine T_aload_n dX8_findReason_15 rfl ?_
  refine T_aload_n dX8_findReason_16 rfl ?_
  refine U_callV (as := [vR 138]) (st := []) dX8_findReason_17 kX8_findApart lX8_72 SH_197 rfl rfl rfl rfl (Nat.le_of_ble_eq_true rfl) (Nat.le_of_ble_eq_true rfl) (by omega) ?_
  refine W_X8_findApart (by omega)  h (fun v17 h => ?_)
  show n_T G d 0 0 mX8_findReason 20 [vR 197, vR 10, vR 138, vR 191] [] SH v17 Q
  refine T_aload_n dX8_findReason_20 rfl ?_
  refine T_getI dX8_findReason_21 fX8_18 rfl SH_197 ?_
  refine U_if_ne (tgt := 33) dX8_findReason_24 (by decide) (fun hc => ?_) (fun hc => ?_)
  · replace h := h.1 hc
    refine T_aload_n dX8_findReason_33 rfl ?_
    refine T_getI dX8_findReason_34 fX8_18 rfl SH_197 ?_
    refine U_if_ne (tgt := 47) dX8_findReason_37 (by decide) (fun hc => ?_) (fun hc => ?_)
    · replace h := h.1 hc
      exact T_vret dX8_findReason_47 rfl (hQ _ h)
    · replace h := h.2 hc
      refine T_aload_n dX8_findReason_40 rfl ?_
      refine T_aload_n dX8_findReason_41 rfl ?_
      refine T_aload_n dX8_findReason_42 rfl ?_
      refine T_aload_n dX8_findReason_43 rfl ?_
      refine U_callV (as := [vR 10, vR 138, vR 191]) (st := []) dX8_findReason_44 kX8_findNotAlike lX8_80 SH_197 rfl rfl rfl rfl (Nat.le_of_ble_eq_true rfl) (Nat.le_of_ble_eq_true rfl) (by omega) ?_
      refine W_X8_findNotAlike (by omega)  h (fun v44 h => ?_)
      show n_T G d 0 0 mX8_findReason 47 [vR 197, vR 10, vR 138, vR 191] [] SH v44 Q
      exact T_vret dX8_findReason_47 rfl (hQ _ h)
  · replace h := h.2 hc
    refine T_aload_n dX8_findReason_27 rfl ?_
    refine T_aload_n dX8_findReason_28 rfl ?_
    refine T_aload_n dX8_findReason_29 rfl ?_
    refine U_callV (as := [vR 10, vR 138]) (st := []) dX8_findReason_30 kX8_findEquallyFar lX8_76 SH_197 rfl rfl rfl rfl (Nat.le_of_ble_eq_true rfl) (Nat.le_of_ble_eq_true rfl) (by omega) ?_
    refine W_X8_findEquallyFar (by omega)  h (fun v30 h => ?_)
    show n_T G d 0 0 mX8_findReason 33 [vR 197, vR 10, vR 138, vR 191] [] SH v30 Q
    refine T_aload_n dX8_findReason_33 rfl ?_
    refine T_getI dX8_findReason_34 fX8_18 rfl SH_197 ?_
    refine U_if_ne (tgt := 47) dX8_findReason_37 (by decide) (fun hc => ?_) (fun hc => ?_)
    · replace h := h.1 hc
      exact T_vret dX8_findReason_47 rfl (hQ _ h)
    · replace h := h.2 hc
      refine T_aload_n dX8_findReason_40 rfl ?_
      refine T_aload_n dX8_findReason_41 rfl ?_
      refine T_aload_n dX8_findReason_42 rfl ?_
      refine T_aload_n dX8_findReason_43 rfl ?_
      refine U_callV (as := [vR 10, vR 138, vR 191]) (st := []) dX8_findReason_44 kX8_findNotAlike lX8_80 SH_197 rfl rfl rfl rfl (Nat.le_of_ble_eq_true rfl) (Nat.le_of_ble_eq_true rfl) (by omega) ?_
      refine W_X8_findNotAlike (by omega)  h (fun v44_1 h => ?_)
      show n_T G d 0 0 mX8_findReason 47 [vR 197, vR 10, vR 138, vR 191] [] SH v44_1 Q
      exact T_vret dX8_findReason_47 rfl (hQ _ h)

theorem W_X8_part {G : GT} {d : Nat} (hd : 1 ≤ d) {x1 : Int} {a2 : Nat} {a3 : Nat} (ha2 : SH[a2]? = some (.inr (0, 24, []))) (ha3 : SH[a3]? = some (.inr (0, 24, [])))  {v : VT} {q : VT → Prop} {Q : Option Vl → List Sh → VT → Prop} (h : P_X8_part x1 a2 a3 v q) (hQ : ∀ w, q w → Q none SH w) : n_T G d 0 0 mX8_part 0 [vR 197, vI x1, vR a2, vR a3, vS 9] [] SH v Q := by
  unfold P_X8_part at h
  refine T_aload_n dX8_part_0 rfl ?_
  refine T_getR (r := 199) dX8_part_1 fX8_38 rfl SH_197 rfl ?_
  refine T_iload_n dX8_part_4 rfl ?_
  refine T_iconst dX8_part_5 (by decide) ?_
  refine U_iast dX8_part_6 SH_199 h.1 (fun v6 ev6 => ?_)
  replace h := h.2 v6 ev6
  refine T_iconst dX8_part_7 (by decide) ?_
  refine T_istore dX8_part_8 (by decide) rfl ?_
  refine T_drop (h (fun (i4 : Int) (v10 : VT) => n_T G d 0 0 mX8_part 10 [vR 197, vI x1, vR a2, vR a3, vI i4] [] SH v10 Q) (fun i4 v10 h => ?_)) ⟨Or.inl rfl, Or.inl rfl, Or.inl rfl, Or.inl rfl, Or.inl rfl, trivial⟩
  refine T_iload dX8_part_10 rfl ?_
  refine T_aload_n dX8_part_12 rfl ?_
  refine T_getI dX8_part_13 fX8_28 rfl SH_197 ?_
  refine U_icmp_ge (tgt := 62) dX8_part_16 (by decide) (fun hc => ?_) (fun hc => ?_)
  · replace h := h.1 hc
    exact T_vret dX8_part_62 rfl (hQ _ h)
  · replace h := h.2 hc
    refine T_aload_n dX8_part_19 rfl ?_
    refine T_iload dX8_part_20 rfl ?_
    refine T_iald dX8_part_22 ha2 h.1 ?_
    replace h := h.2
    refine T_aload_n dX8_part_23 rfl ?_
    refine T_iload dX8_part_24 rfl ?_
    refine T_iald dX8_part_26 ha3 h.1 ?_
    replace h := h.2
    refine U_icmp_lt (tgt := 56) dX8_part_27 (by decide) (fun hc => ?_) (fun hc => ?_)
    · replace h := h.1 hc
      refine U_iinc dX8_part_56 rfl (by decide) rfl h.1 ?_
      replace h := h.2
      refine T_goto (tgt := 10) dX8_part_59 (by decide) ?_
      exact T_drop h ⟨Or.inl rfl, Or.inl rfl, Or.inl rfl, Or.inl rfl, Or.inl rfl, trivial⟩
    · replace h := h.2 hc
      refine T_aload_n dX8_part_30 rfl ?_
      refine T_getR (r := 199) dX8_part_31 fX8_38 rfl SH_197 rfl ?_
      refine T_iload_n dX8_part_34 rfl ?_
      refine T_dup2 dX8_part_35 rfl rfl ?_
      refine T_iald dX8_part_36 SH_199 h.1 ?_
      replace h := h.2
      refine T_iconst dX8_part_37 (by decide) ?_
      refine T_iload dX8_part_38 rfl ?_
      refine T_ishl dX8_part_40 ?_
      refine T_ior dX8_part_41 ?_
      refine U_iast dX8_part_42 SH_199 h.1 (fun v42 ev42 => ?_)
      replace h := h.2 v42 ev42
      refine T_aload_n dX8_part_43 rfl ?_
      refine T_getR (r := 198) dX8_part_44 fX8_34 rfl SH_197 rfl ?_
      refine T_iload dX8_part_47 rfl ?_
      refine T_dup2 dX8_part_49 rfl rfl ?_
      refine T_iald dX8_part_50 SH_198 h.1 ?_
      replace h := h.2
      refine T_iconst dX8_part_51 (by decide) ?_
      refine T_iload_n dX8_part_52 rfl ?_
      refine T_ishl dX8_part_53 ?_
      refine T_ior dX8_part_54 ?_
      refine U_iast dX8_part_55 SH_198 h.1 (fun v55 ev55 => ?_)
      replace h := h.2 v55 ev55
      refine U_iinc dX8_part_56 rfl (by decide) rfl h.1 ?_
      replace h := h.2
      refine T_goto (tgt := 10) dX8_part_59 (by decide) ?_
      exact T_drop h ⟨Or.inl rfl, Or.inl rfl, Or.inl rfl, Or.inl rfl, Or.inl rfl, trivial⟩

theorem W_X8_settle {G : GT} {d : Nat} (hd : 4 ≤ d)    {v : VT} {q : VT → Prop} {Q : Option Vl → List Sh → VT → Prop} (h : P_X8_settle  v q) (hQ : ∀ w, q w → Q none SH w) : n_T G d 0 0 mX8_settle 0 [vR 197, vR 10, vR 138, vR 191, vS 9] [] SH v Q := by
  unfold P_X8_settle at h
  refine T_aload_n dX8_settle_0 rfl ?_
  refine T_aload_n dX8_settle_1 rfl ?_
  refine T_getI dX8_settle_2 fX8_41 rfl SH_10 ?_
  refine U_putI dX8_settle_5 fX8_28 rfl rfl SH_197 (fun v5 ev5 => ?_)
  replace h := h v5 ev5
  refine T_aload_n dX8_settle_8 rfl ?_
  refine T_aload_n dX8_settle_9 rfl ?_
  refine T_aload_n dX8_settle_10 rfl ?_
  refine T_aload_n dX8_settle_11 rfl ?_
  refine U_callV (as := [vR 10, vR 138, vR 191]) (st := []) dX8_settle_12 kX8_findReason lX8_44 SH_197 rfl rfl rfl rfl (Nat.le_of_ble_eq_true rfl) (Nat.le_of_ble_eq_true rfl) (by omega) ?_
  refine W_X8_findReason (by omega)  h (fun v12 h => ?_)
  show n_T G d 0 0 mX8_settle 15 [vR 197, vR 10, vR 138, vR 191, vS 9] [] SH v12 Q
  refine T_aload_n dX8_settle_15 rfl ?_
  refine T_aload_n dX8_settle_16 rfl ?_
  refine T_getI dX8_settle_17 fX8_18 rfl SH_197 ?_
  refine n_cut (h (fun (s0 : Int) => n_T G d 0 0 mX8_settle 35 [vR 197, vR 10, vR 138, vR 191, vS 9] [vI s0, vR 197] SH v12 Q)) ?_ ?_
  · intro s0 h
    refine U_putZ dX8_settle_35 fX8_15 rfl rfl SH_197 h.1 (fun v35 ev35 => ?_)
    replace h := h.2 v35 ev35
    refine T_aload_n dX8_settle_38 rfl ?_
    refine T_aload_n dX8_settle_39 rfl ?_
    refine T_getI dX8_settle_40 fX8_15 rfl SH_197 ?_
    refine n_cut (h (fun (s0_1 : Int) => n_T G d 0 0 mX8_settle 54 [vR 197, vR 10, vR 138, vR 191, vS 9] [vI s0_1, vR 197] SH v35 Q)) ?_ ?_
    · intro s0_1 h
      refine U_putI dX8_settle_54 fX8_31 rfl rfl SH_197 (fun v54 ev54 => ?_)
      replace h := h v54 ev54
      refine T_iconst dX8_settle_57 (by decide) ?_
      refine T_istore dX8_settle_58 (by decide) rfl ?_
      refine n_cut (h (fun (v83 : VT) => n_T G d 0 0 mX8_settle 83 [vR 197, vR 10, vR 138, vR 191, vS 9] [] SH v83 Q)) ?_ ?_
      · intro v83 h
        refine T_iconst dX8_settle_83 (by decide) ?_
        refine T_istore dX8_settle_84 (by decide) rfl ?_
        refine T_drop (h (fun (i4 : Int) (v86 : VT) => n_T G d 0 0 mX8_settle 86 [vR 197, vR 10, vR 138, vR 191, vI i4] [] SH v86 Q) (fun i4 v86 h => ?_)) ⟨Or.inl rfl, Or.inl rfl, Or.inl rfl, Or.inl rfl, Or.inl rfl, trivial⟩
        refine T_iload dX8_settle_86 rfl ?_
        refine T_aload_n dX8_settle_88 rfl ?_
        refine T_getI dX8_settle_89 fX8_31 rfl SH_197 ?_
        refine U_icmp_ge (tgt := 141) dX8_settle_92 (by decide) (fun hc => ?_) (fun hc => ?_)
        · replace h := h.1 hc
          refine T_aload_n dX8_settle_141 rfl ?_
          refine T_iconst dX8_settle_142 (by decide) ?_
          refine U_putZ dX8_settle_143 fX8_9 rfl rfl SH_197 (by decide) (fun v143 ev143 => ?_)
          replace h := h v143 ev143
          exact T_vret dX8_settle_146 rfl (hQ _ h)
        · replace h := h.2 hc
          refine T_aload_n dX8_settle_95 rfl ?_
          refine T_iload dX8_settle_96 rfl ?_
          refine T_aload_n dX8_settle_98 rfl ?_
          refine T_getR (r := 140) dX8_settle_99 fX8_53 rfl SH_138 rfl ?_
          refine T_aload_n dX8_settle_102 rfl ?_
          refine T_getR (r := 12) dX8_settle_103 fX8_59 rfl SH_10 rfl ?_
          refine T_aload_n dX8_settle_106 rfl ?_
          refine T_getR (r := 194) dX8_settle_107 fX8_62 rfl SH_191 rfl ?_
          refine T_iload dX8_settle_110 rfl ?_
          refine T_iald dX8_settle_112 SH_194 h.1 ?_
          replace h := h.2
          refine T_iald dX8_settle_113 SH_12 h.1 ?_
          replace h := h.2
          have hw114 := row_141 h.1
          refine T_aald3 dX8_settle_114 SH_140 h.1 (rowq_141 h.1) ?_
          replace h := h.2
          refine T_aload_n dX8_settle_115 rfl ?_
          refine T_getR (r := 140) dX8_settle_116 fX8_53 rfl SH_138 rfl ?_
          refine T_aload_n dX8_settle_119 rfl ?_
          refine T_getR (r := 13) dX8_settle_120 fX8_65 rfl SH_10 rfl ?_
          refine T_aload_n dX8_settle_123 rfl ?_
          refine T_getR (r := 194) dX8_settle_124 fX8_62 rfl SH_191 rfl ?_
          refine T_iload dX8_settle_127 rfl ?_
          refine T_iald dX8_settle_129 SH_194 h.1 ?_
          replace h := h.2
          refine T_iald dX8_settle_130 SH_13 h.1 ?_
          replace h := h.2
          have hw131 := row_141 h.1
          refine T_aald3 dX8_settle_131 SH_140 h.1 (rowq_141 h.1) ?_
          replace h := h.2
          refine U_callV (as := [vI i4, vR (141 + (v86 12 (v86 194 i4.toNat).toNat).toNat), vR (141 + (v86 13 (v86 194 i4.toNat).toNat).toNat)]) (st := []) dX8_settle_132 kX8_part lX8_68 SH_197 rfl rfl rfl rfl (Nat.le_of_ble_eq_true rfl) (Nat.le_of_ble_eq_true rfl) (by omega) ?_
          refine W_X8_part (by omega) hw114 hw131 h (fun v132 h => ?_)
          show n_T G d 0 0 mX8_settle 135 [vR 197, vR 10, vR 138, vR 191, vI i4] [] SH v132 Q
          refine U_iinc dX8_settle_135 rfl (by decide) rfl h.1 ?_
          replace h := h.2
          refine T_goto (tgt := 86) dX8_settle_138 (by decide) ?_
          exact T_drop h ⟨Or.inl rfl, Or.inl rfl, Or.inl rfl, Or.inl rfl, Or.inl rfl, trivial⟩
      · intro h
        refine T_drop (h (fun (i4_1 : Int) (v60 : VT) => n_T G d 0 0 mX8_settle 60 [vR 197, vR 10, vR 138, vR 191, vI i4_1] [] SH v60 Q) (fun i4_1 v60 h => ?_)) ⟨Or.inl rfl, Or.inl rfl, Or.inl rfl, Or.inl rfl, Or.inl rfl, trivial⟩
        refine T_iload dX8_settle_60 rfl ?_
        refine T_aload_n dX8_settle_62 rfl ?_
        refine T_getI dX8_settle_63 fX8_28 rfl SH_197 ?_
        refine U_icmp_ge (tgt := 83) dX8_settle_66 (by decide) (fun hc => ?_) (fun hc => ?_)
        · replace h := h.1 hc
          exact T_drop h ⟨Or.inl rfl, Or.inl rfl, Or.inl rfl, Or.inl rfl, Or.inr rfl, trivial⟩
        · replace h := h.2 hc
          refine T_aload_n dX8_settle_69 rfl ?_
          refine T_getR (r := 198) dX8_settle_70 fX8_34 rfl SH_197 rfl ?_
          refine T_iload dX8_settle_73 rfl ?_
          refine T_iconst dX8_settle_75 (by decide) ?_
          refine U_iast dX8_settle_76 SH_198 h.1 (fun v76 ev76 => ?_)
          replace h := h.2 v76 ev76
          refine U_iinc dX8_settle_77 rfl (by decide) rfl h.1 ?_
          replace h := h.2
          refine T_goto (tgt := 60) dX8_settle_80 (by decide) ?_
          exact T_drop h ⟨Or.inl rfl, Or.inl rfl, Or.inl rfl, Or.inl rfl, Or.inl rfl, trivial⟩
    · intro h
      refine U_if_eq (tgt := 53) dX8_settle_43 (by decide) (fun hc => ?_) (fun hc => ?_)
      · replace h := h.1 hc
        refine T_iconst dX8_settle_53 (by decide) ?_
        exact T_drop h ⟨Or.inl rfl, Or.inl rfl, Or.inl rfl, Or.inl rfl, Or.inr rfl, trivial⟩
      · replace h := h.2 hc
        refine T_aload_n dX8_settle_46 rfl ?_
        refine T_getI dX8_settle_47 fX8_48 rfl SH_191 ?_
        refine T_goto (tgt := 54) dX8_settle_50 (by decide) ?_
        exact T_drop h ⟨Or.inl rfl, Or.inl rfl, Or.inl rfl, Or.inl rfl, Or.inr rfl, trivial⟩
  · intro h
    refine n_cut (h (n_T G d 0 0 mX8_settle 34 [vR 197, vR 10, vR 138, vR 191, vS 9] [vR 197] SH v12 Q)) ?_ ?_
    · intro h
      refine T_iconst dX8_settle_34 (by decide) ?_
      exact T_drop h ⟨Or.inl rfl, Or.inl rfl, Or.inl rfl, Or.inl rfl, Or.inr rfl, trivial⟩
    · intro h
      refine U_if_ne (tgt := 34) dX8_settle_20 (by decide) (fun hc => ?_) (fun hc => ?_)
      · replace h := h.1 hc
        exact T_drop h ⟨Or.inl rfl, Or.inl rfl, Or.inl rfl, Or.inl rfl, Or.inr rfl, trivial⟩
      · replace h := h.2 hc
        refine T_aload_n dX8_settle_23 rfl ?_
        refine T_getI dX8_settle_24 fX8_28 rfl SH_197 ?_
        refine U_if_le (tgt := 34) dX8_settle_27 (by decide) (fun hc => ?_) (fun hc => ?_)
        · replace h := h.1 hc
          exact T_drop h ⟨Or.inl rfl, Or.inl rfl, Or.inl rfl, Or.inl rfl, Or.inr rfl, trivial⟩
        · replace h := h.2 hc
          refine T_iconst dX8_settle_30 (by decide) ?_
          refine T_goto (tgt := 35) dX8_settle_31 (by decide) ?_
          exact T_drop h ⟨Or.inl rfl, Or.inl rfl, Or.inl rfl, Or.inl rfl, Or.inr rfl, trivial⟩

theorem W_X8_nodeAt {G : GT} {d : Nat} (hd : 1 ≤ d) {x1 : Int}   {v : VT} {q : Int → Prop} {Q : Option Vl → List Sh → VT → Prop} (h : P_X8_nodeAt x1 v q) (hQ : ∀ r, q r → Q (some (vI r)) SH v) : n_T G d 0 0 mX8_nodeAt 0 [vR 197, vI x1, vS 9] [] SH v Q := by
  unfold P_X8_nodeAt at h
  refine T_iconst dX8_nodeAt_0 (by decide) ?_
  refine T_istore_n dX8_nodeAt_1 (by decide) rfl ?_
  refine T_drop (h (fun (i2 : Int) => n_T G d 0 0 mX8_nodeAt 2 [vR 197, vI x1, vI i2] [] SH v Q) (fun i2 h => ?_)) ⟨Or.inl rfl, Or.inl rfl, Or.inl rfl, trivial⟩
  refine T_iload_n dX8_nodeAt_2 rfl ?_
  refine T_aload_n dX8_nodeAt_3 rfl ?_
  refine T_getI dX8_nodeAt_4 fX8_28 rfl SH_197 ?_
  refine U_icmp_ge (tgt := 28) dX8_nodeAt_7 (by decide) (fun hc => ?_) (fun hc => ?_)
  · replace h := h.1 hc
    refine T_iconst dX8_nodeAt_28 (by decide) ?_
    exact T_iret dX8_nodeAt_29 rfl (hQ _ h)
  · replace h := h.2 hc
    refine T_aload_n dX8_nodeAt_10 rfl ?_
    refine T_getR (r := 198) dX8_nodeAt_11 fX8_34 rfl SH_197 rfl ?_
    refine T_iload_n dX8_nodeAt_14 rfl ?_
    refine T_iald dX8_nodeAt_15 SH_198 h.1 ?_
    replace h := h.2
    refine T_iload_n dX8_nodeAt_16 rfl ?_
    refine U_icmp_ne (tgt := 22) dX8_nodeAt_17 (by decide) (fun hc => ?_) (fun hc => ?_)
    · replace h := h.1 hc
      refine U_iinc dX8_nodeAt_22 rfl (by decide) rfl h.1 ?_
      replace h := h.2
      refine T_goto (tgt := 2) dX8_nodeAt_25 (by decide) ?_
      exact T_drop h ⟨Or.inl rfl, Or.inl rfl, Or.inl rfl, trivial⟩
    · replace h := h.2 hc
      refine T_iload_n dX8_nodeAt_20 rfl ?_
      exact T_iret dX8_nodeAt_21 rfl (hQ _ h)

theorem W_X8_costOf {G : GT} {d : Nat} (hd : 2 ≤ d) {x1 : Int}   {v : VT} {q : Int → Prop} {Q : Option Vl → List Sh → VT → Prop} (h : P_X8_costOf x1 v q) (hQ : ∀ r, q r → Q (some (vI r)) SH v) : n_T G d 0 0 mX8_costOf 0 [vR 197, vI x1, vS 9] [] SH v Q := by
  unfold P_X8_costOf at h
  refine T_aload_n dX8_costOf_0 rfl ?_
  refine T_getR (r := 199) dX8_costOf_1 fX8_38 rfl SH_197 rfl ?_
  refine T_iload_n dX8_costOf_4 rfl ?_
  refine T_iald dX8_costOf_5 SH_199 h.1 ?_
  replace h := h.2
  refine U_callS (as := [vI (v 199 x1.toNat)]) (st := []) dX8_costOf_6 kJ6_bitCount_0f7a4 lX8_101 rfl rfl (Nat.le_of_ble_eq_true rfl) (Nat.le_of_ble_eq_true rfl) (by omega) ?_
  refine W_J6_bitCount_0f7a4 (by omega)  h (fun r6 h => ?_)
  show n_T G d 0 0 mX8_costOf 9 [vR 197, vI x1, vS 9] [vI r6] SH v Q
  refine T_istore_n dX8_costOf_9 (by decide) rfl ?_
  refine T_iload_n dX8_costOf_10 rfl ?_
  refine T_aload_n dX8_costOf_11 rfl ?_
  refine T_getI dX8_costOf_12 fX8_28 rfl SH_197 ?_
  refine T_iload_n dX8_costOf_15 rfl ?_
  refine U_isub dX8_costOf_16 h.1 ?_
  replace h := h.2
  refine U_imul dX8_costOf_17 h.1 ?_
  replace h := h.2
  exact T_iret dX8_costOf_18 rfl (hQ _ h)

theorem W_X8_acrossFrom {G : GT} {d : Nat} (hd : 2 ≤ d) {x1 : Int} {x2 : Int}   {v : VT} {q : Int → Prop} {Q : Option Vl → List Sh → VT → Prop} (h : P_X8_acrossFrom x1 x2 v q) (hQ : ∀ r, q r → Q (some (vI r)) SH v) : n_T G d 0 0 mX8_acrossFrom 0 [vR 197, vI x1, vI x2, vS 9, vS 9, vS 9] [] SH v Q := by
  unfold P_X8_acrossFrom at h
  refine T_iload_n dX8_acrossFrom_0 rfl ?_
  refine T_aload_n dX8_acrossFrom_1 rfl ?_
  refine T_getR (r := 199) dX8_acrossFrom_2 fX8_38 rfl SH_197 rfl ?_
  refine T_iload_n dX8_acrossFrom_5 rfl ?_
  refine T_iald dX8_acrossFrom_6 SH_199 h.1 ?_
  replace h := h.2
  refine T_iand dX8_acrossFrom_7 ?_
  refine U_if_eq (tgt := 13) dX8_acrossFrom_8 (by decide) (fun hc => ?_) (fun hc => ?_)
  · replace h := h.1 hc
    refine T_iconst dX8_acrossFrom_13 (by decide) ?_
    refine T_istore_n dX8_acrossFrom_14 (by decide) rfl ?_
    refine T_iconst dX8_acrossFrom_15 (by decide) ?_
    refine T_istore dX8_acrossFrom_16 (by decide) rfl ?_
    refine T_drop (h (fun (i3 : Int) (i4 : Int) => n_T G d 0 0 mX8_acrossFrom 18 [vR 197, vI x1, vI x2, vI i3, vI i4, vS 9] [] SH v Q) (fun i3 i4 h => ?_)) ⟨Or.inl rfl, Or.inl rfl, Or.inl rfl, Or.inl rfl, Or.inl rfl, Or.inr rfl, trivial⟩
    refine T_iload dX8_acrossFrom_18 rfl ?_
    refine T_aload_n dX8_acrossFrom_20 rfl ?_
    refine T_getI dX8_acrossFrom_21 fX8_28 rfl SH_197 ?_
    refine U_icmp_ge (tgt := 74) dX8_acrossFrom_24 (by decide) (fun hc => ?_) (fun hc => ?_)
    · replace h := h.1 hc
      refine T_iload_n dX8_acrossFrom_74 rfl ?_
      exact T_iret dX8_acrossFrom_75 rfl (hQ _ h)
    · replace h := h.2 hc
      refine T_iload_n dX8_acrossFrom_27 rfl ?_
      refine T_iload dX8_acrossFrom_28 rfl ?_
      refine U_callSN (as := [vI x1, vI i4]) (st := []) dX8_acrossFrom_30 kX10_hasBit lX8_117 rfl rfl (Nat.le_of_ble_eq_true rfl) (Nat.le_of_ble_eq_true rfl) (by omega) ?_
      refine W_X10_hasBit (by omega)  h (fun r30 h => ?_)
      show n_T G d 0 0 mX8_acrossFrom 33 [vR 197, vI x1, vI x2, vI i3, vI i4, vS 9] [vI r30] SH v Q
      refine U_if_eq (tgt := 68) dX8_acrossFrom_33 (by decide) (fun hc => ?_) (fun hc => ?_)
      · replace h := h.1 hc
        refine U_iinc dX8_acrossFrom_68 rfl (by decide) rfl h.1 ?_
        replace h := h.2
        refine T_goto (tgt := 18) dX8_acrossFrom_71 (by decide) ?_
        exact T_drop h ⟨Or.inl rfl, Or.inl rfl, Or.inl rfl, Or.inl rfl, Or.inl rfl, Or.inr rfl, trivial⟩
      · replace h := h.2 hc
        refine T_aload_n dX8_acrossFrom_36 rfl ?_
        refine T_aload_n dX8_acrossFrom_37 rfl ?_
        refine T_getR (r := 198) dX8_acrossFrom_38 fX8_34 rfl SH_197 rfl ?_
        refine T_iload dX8_acrossFrom_41 rfl ?_
        refine T_iald dX8_acrossFrom_43 SH_198 h.1 ?_
        replace h := h.2
        refine T_iconst dX8_acrossFrom_44 (by decide) ?_
        refine T_iload_n dX8_acrossFrom_45 rfl ?_
        refine T_ishl dX8_acrossFrom_46 ?_
        refine T_ior dX8_acrossFrom_47 ?_
        refine U_callV (as := [vI (i_or (v 198 i4.toNat) (i_shl 1 x2))]) (st := []) dX8_acrossFrom_48 kX8_nodeAt lX8_121 SH_197 rfl rfl rfl rfl (Nat.le_of_ble_eq_true rfl) (Nat.le_of_ble_eq_true rfl) (by omega) ?_
        refine W_X8_nodeAt (by omega)  h (fun r48 h => ?_)
        show n_T G d 0 0 mX8_acrossFrom 51 [vR 197, vI x1, vI x2, vI i3, vI i4, vS 9] [vI r48] SH v Q
        refine T_istore dX8_acrossFrom_51 (by decide) rfl ?_
        refine T_iload dX8_acrossFrom_53 rfl ?_
        refine T_iconst dX8_acrossFrom_55 (by decide) ?_
        refine U_icmp_ne (tgt := 61) dX8_acrossFrom_56 (by decide) (fun hc => ?_) (fun hc => ?_)
        · replace h := h.1 hc
          refine T_iload_n dX8_acrossFrom_61 rfl ?_
          refine T_iconst dX8_acrossFrom_62 (by decide) ?_
          refine T_iload dX8_acrossFrom_63 rfl ?_
          refine T_ishl dX8_acrossFrom_65 ?_
          refine T_ior dX8_acrossFrom_66 ?_
          refine U_istore_n dX8_acrossFrom_67 (by decide) rfl (fun l3 el3 => ?_)
          replace h := h l3 el3
          refine U_iinc dX8_acrossFrom_68 rfl (by decide) rfl h.1 ?_
          replace h := h.2
          refine T_goto (tgt := 18) dX8_acrossFrom_71 (by decide) ?_
          exact T_drop h ⟨Or.inl rfl, Or.inl rfl, Or.inl rfl, Or.inl rfl, Or.inl rfl, Or.inr rfl, trivial⟩
        · replace h := h.2 hc
          refine T_iconst dX8_acrossFrom_59 (by decide) ?_
          exact T_iret dX8_acrossFrom_60 rfl (hQ _ h)
  · replace h := h.2 hc
    refine T_iconst dX8_acrossFrom_11 (by decide) ?_
    exact T_iret dX8_acrossFrom_12 rfl (hQ _ h)

theorem W_X8_cubesOn {G : GT} (n : Nat) : ∀ {d : Nat} (hd : 3 + n ≤ d) {x1 : Int} {x2 : Int} {x3 : Int}   {v : VT} {q : Int → Prop} {Q : Option Vl → List Sh → VT → Prop} (h : P_X8_cubesOn n x1 x2 x3 v q) (hQ : ∀ r, q r → Q (some (vI r)) SH v), n_T G d 0 0 mX8_cubesOn 0 [vR 197, vI x1, vI x2, vI x3, vS 9, vS 9, vS 9] [] SH v Q := by
  induction n with
  | zero => intro d hd x1 x2 x3 v q Q h; exact h.elim
  | succ n ih =>
    intro d hd x1 x2 x3 v q Q h hQ
    refine T_iload_n dX8_cubesOn_0 rfl ?_
    refine U_if_gt (tgt := 6) dX8_cubesOn_1 (by decide) (fun hc => ?_) (fun hc => ?_)
    · replace h := h.1 hc
      refine T_iconst dX8_cubesOn_6 (by decide) ?_
      refine T_istore dX8_cubesOn_7 (by decide) rfl ?_
      refine T_iload_n dX8_cubesOn_9 rfl ?_
      refine T_istore dX8_cubesOn_10 (by decide) rfl ?_
      refine T_drop (h (fun (i4 : Int) (i5 : Int) => n_T G d 0 0 mX8_cubesOn 12 [vR 197, vI x1, vS 9, vI x3, vI i4, vI i5, vS 9] [] SH v Q) (fun i4 i5 h => ?_)) ⟨Or.inl rfl, Or.inl rfl, Or.inr rfl, Or.inl rfl, Or.inl rfl, Or.inl rfl, Or.inr rfl, trivial⟩
      refine T_iload dX8_cubesOn_12 rfl ?_
      refine T_aload_n dX8_cubesOn_14 rfl ?_
      refine T_getI dX8_cubesOn_15 fX8_31 rfl SH_197 ?_
      refine U_icmp_ge (tgt := 61) dX8_cubesOn_18 (by decide) (fun hc => ?_) (fun hc => ?_)
      · replace h := h.1 hc
        refine T_iload dX8_cubesOn_61 rfl ?_
        exact T_iret dX8_cubesOn_63 rfl (hQ _ h)
      · replace h := h.2 hc
        refine T_aload_n dX8_cubesOn_21 rfl ?_
        refine T_iload_n dX8_cubesOn_22 rfl ?_
        refine T_iload dX8_cubesOn_23 rfl ?_
        refine U_callV (as := [vI x1, vI i5]) (st := []) dX8_cubesOn_25 kX8_acrossFrom lX8_113 SH_197 rfl rfl rfl rfl (Nat.le_of_ble_eq_true rfl) (Nat.le_of_ble_eq_true rfl) (by omega) ?_
        refine W_X8_acrossFrom (by omega)  h (fun r25 h => ?_)
        show n_T G d 0 0 mX8_cubesOn 28 [vR 197, vI x1, vS 9, vI x3, vI i4, vI i5, vS 9] [vI r25] SH v Q
        refine T_istore dX8_cubesOn_28 (by decide) rfl ?_
        refine T_iload dX8_cubesOn_30 rfl ?_
        refine U_if_eq (tgt := 55) dX8_cubesOn_32 (by decide) (fun hc => ?_) (fun hc => ?_)
        · replace h := h.1 hc
          refine U_iinc dX8_cubesOn_55 rfl (by decide) rfl h.1 ?_
          replace h := h.2
          refine T_goto (tgt := 12) dX8_cubesOn_58 (by decide) ?_
          exact T_drop h ⟨Or.inl rfl, Or.inl rfl, Or.inr rfl, Or.inl rfl, Or.inl rfl, Or.inl rfl, Or.inr rfl, trivial⟩
        · replace h := h.2 hc
          refine T_iload dX8_cubesOn_35 rfl ?_
          refine T_aload_n dX8_cubesOn_37 rfl ?_
          refine T_iload_n dX8_cubesOn_38 rfl ?_
          refine T_iload dX8_cubesOn_39 rfl ?_
          refine T_ior dX8_cubesOn_41 ?_
          refine T_iload dX8_cubesOn_42 rfl ?_
          refine T_iconst dX8_cubesOn_44 (by decide) ?_
          refine U_iadd dX8_cubesOn_45 h.1 ?_
          replace h := h.2
          refine T_iload_n dX8_cubesOn_46 rfl ?_
          refine T_iconst dX8_cubesOn_47 (by decide) ?_
          refine U_isub dX8_cubesOn_48 h.1 ?_
          replace h := h.2
          refine U_callV (as := [vI (i_or x1 r25), vI (i5 + 1), vI (x3 - 1)]) (st := [vI i4]) dX8_cubesOn_49 kX8_cubesOn lX8_109 SH_197 rfl rfl rfl rfl (Nat.le_of_ble_eq_true rfl) (Nat.le_of_ble_eq_true rfl) (by omega) ?_
          refine ih (by omega)  h (fun r49 h => ?_)
          show n_T G d 0 0 mX8_cubesOn 52 [vR 197, vI x1, vS 9, vI x3, vI i4, vI i5, vI r25] [vI r49, vI i4] SH v Q
          refine U_iadd dX8_cubesOn_52 h.1 ?_
          replace h := h.2
          refine T_istore dX8_cubesOn_53 (by decide) rfl ?_
          refine U_iinc dX8_cubesOn_55 rfl (by decide) rfl h.1 ?_
          replace h := h.2
          refine T_goto (tgt := 12) dX8_cubesOn_58 (by decide) ?_
          exact T_drop h ⟨Or.inl rfl, Or.inl rfl, Or.inr rfl, Or.inl rfl, Or.inl rfl, Or.inl rfl, Or.inr rfl, trivial⟩
    · replace h := h.2 hc
      refine T_iconst dX8_cubesOn_4 (by decide) ?_
      exact T_iret dX8_cubesOn_5 rfl (hQ _ h)

theorem W_X8_countCubes {G : GT} {d : Nat} (hd : 10 ≤ d) {x1 : Int}   {v : VT} {q : Int → Prop} {Q : Option Vl → List Sh → VT → Prop} (h : P_X8_countCubes x1 v q) (hQ : ∀ r, q r → Q (some (vI r)) SH v) : n_T G d 0 0 mX8_countCubes 0 [vR 197, vI x1, vS 9, vS 9] [] SH v Q := by
  unfold P_X8_countCubes at h
  refine T_iconst dX8_countCubes_0 (by decide) ?_
  refine T_istore_n dX8_countCubes_1 (by decide) rfl ?_
  refine T_iconst dX8_countCubes_2 (by decide) ?_
  refine T_istore_n dX8_countCubes_3 (by decide) rfl ?_
  refine T_drop (h (fun (i2 : Int) (i3 : Int) => n_T G d 0 0 mX8_countCubes 4 [vR 197, vI x1, vI i2, vI i3] [] SH v Q) (fun i2 i3 h => ?_)) ⟨Or.inl rfl, Or.inl rfl, Or.inl rfl, Or.inl rfl, trivial⟩
  refine T_iload_n dX8_countCubes_4 rfl ?_
  refine T_iconst dX8_countCubes_5 (by decide) ?_
  refine U_icmp_gt (tgt := 35) dX8_countCubes_6 (by decide) (fun hc => ?_) (fun hc => ?_)
  · replace h := h.1 hc
    refine T_iload_n dX8_countCubes_35 rfl ?_
    exact T_iret dX8_countCubes_36 rfl (hQ _ h)
  · replace h := h.2 hc
    refine T_iload_n dX8_countCubes_9 rfl ?_
    refine T_aload_n dX8_countCubes_10 rfl ?_
    refine T_getI dX8_countCubes_11 fX8_28 rfl SH_197 ?_
    refine U_icmp_ge (tgt := 35) dX8_countCubes_14 (by decide) (fun hc => ?_) (fun hc => ?_)
    · replace h := h.1 hc
      refine T_iload_n dX8_countCubes_35 rfl ?_
      exact T_iret dX8_countCubes_36 rfl (hQ _ h)
    · replace h := h.2 hc
      refine T_iload_n dX8_countCubes_17 rfl ?_
      refine T_aload_n dX8_countCubes_18 rfl ?_
      refine T_iconst dX8_countCubes_19 (by decide) ?_
      refine T_iload_n dX8_countCubes_20 rfl ?_
      refine T_ishl dX8_countCubes_21 ?_
      refine T_iconst dX8_countCubes_22 (by decide) ?_
      refine T_iload_n dX8_countCubes_23 rfl ?_
      refine U_callV (as := [vI (i_shl 1 i3), vI 0, vI x1]) (st := [vI i2]) dX8_countCubes_24 kX8_cubesOn lX8_109 SH_197 rfl rfl rfl rfl (Nat.le_of_ble_eq_true rfl) (Nat.le_of_ble_eq_true rfl) (by omega) ?_
      refine W_X8_cubesOn 6 (by omega)  h (fun r24 h => ?_)
      show n_T G d 0 0 mX8_countCubes 27 [vR 197, vI x1, vI i2, vI i3] [vI r24, vI i2] SH v Q
      refine U_iadd dX8_countCubes_27 h.1 ?_
      replace h := h.2
      refine T_istore_n dX8_countCubes_28 (by decide) rfl ?_
      refine U_iinc dX8_countCubes_29 rfl (by decide) rfl h.1 ?_
      replace h := h.2
      refine T_goto (tgt := 4) dX8_countCubes_32 (by decide) ?_
      exact T_drop h ⟨Or.inl rfl, Or.inl rfl, Or.inl rfl, Or.inl rfl, trivial⟩

theorem W_X9_put {G : GT} {d : Nat} (hd : 1 ≤ d) {x1 : Int}   {v : VT} {q : VT → Prop} {Q : Option Vl → List Sh → VT → Prop} (h : P_X9_put x1 v q) (hQ : ∀ w, q w → Q none SH w) : n_T G d 0 0 mX9_put 0 [vR 1, vI x1, vS 9] [] SH v Q := by
  unfold P_X9_put at h
  refine T_bipush dX9_put_0 (by decide) ?_
  refine T_istore_n dX9_put_2 (by decide) rfl ?_
  refine T_drop (h (fun (i2 : Int) (v3 : VT) => n_T G d 0 0 mX9_put 3 [vR 1, vI x1, vI i2] [] SH v3 Q) (fun i2 v3 h => ?_)) ⟨Or.inl rfl, Or.inl rfl, Or.inl rfl, trivial⟩
  refine T_iload_n dX9_put_3 rfl ?_
  refine U_if_lt (tgt := 49) dX9_put_4 (by decide) (fun hc => ?_) (fun hc => ?_)
  · replace h := h.1 hc
    exact T_vret dX9_put_49 rfl (hQ _ h)
  · replace h := h.2 hc
    refine T_aload_n dX9_put_7 rfl ?_
    refine T_getI dX9_put_8 fX9_15 rfl SH_1 ?_
    refine T_sipush dX9_put_11 (by decide) ?_
    refine U_icmp_ge (tgt := 49) dX9_put_14 (by decide) (fun hc => ?_) (fun hc => ?_)
    · replace h := h.1 hc
      exact T_vret dX9_put_49 rfl (hQ _ h)
    · replace h := h.2 hc
      refine T_aload_n dX9_put_17 rfl ?_
      refine T_getR (r := 2) dX9_put_18 fX9_9 rfl SH_1 rfl ?_
      refine T_aload_n dX9_put_21 rfl ?_
      refine T_getI dX9_put_22 fX9_15 rfl SH_1 ?_
      refine T_iload_n dX9_put_25 rfl ?_
      refine T_iload_n dX9_put_26 rfl ?_
      refine T_ishr dX9_put_27 ?_
      refine T_sipush dX9_put_28 (by decide) ?_
      refine T_iand dX9_put_31 ?_
      refine U_iast dX9_put_32 SH_2 h.1 (fun v32 ev32 => ?_)
      replace h := h.2 v32 ev32
      refine T_aload_n dX9_put_33 rfl ?_
      refine T_dup dX9_put_34 rfl ?_
      refine T_getI dX9_put_35 fX9_15 rfl SH_1 ?_
      refine T_iconst dX9_put_38 (by decide) ?_
      refine U_iadd dX9_put_39 h.1 ?_
      replace h := h.2
      refine U_putI dX9_put_40 fX9_15 rfl rfl SH_1 (fun v40 ev40 => ?_)
      replace h := h v40 ev40
      refine U_iinc dX9_put_43 rfl (by decide) rfl h.1 ?_
      replace h := h.2
      refine T_goto (tgt := 3) dX9_put_46 (by decide) ?_
      exact T_drop h ⟨Or.inl rfl, Or.inl rfl, Or.inl rfl, trivial⟩

theorem W_X10_letterOf {G : GT} {d : Nat} (hd : 1 ≤ d) {x0 : Int} {x1 : Int}   {v : VT} {q : Int → Prop} {Q : Option Vl → List Sh → VT → Prop} (h : P_X10_letterOf x0 x1 v q) (hQ : ∀ r, q r → Q (some (vI r)) SH v) : n_T G d 0 0 mX10_letterOf 0 [vI x0, vI x1] [] SH v Q := by
  unfold P_X10_letterOf at h
  refine T_iload_n dX10_letterOf_0 rfl ?_
  refine T_iconst dX10_letterOf_1 (by decide) ?_
  refine T_iload_n dX10_letterOf_2 rfl ?_
  refine U_imul dX10_letterOf_3 h.1 ?_
  replace h := h.2
  refine T_ishr dX10_letterOf_4 ?_
  refine T_bipush dX10_letterOf_5 (by decide) ?_
  refine T_iand dX10_letterOf_7 ?_
  exact T_iret dX10_letterOf_8 rfl (hQ _ h)


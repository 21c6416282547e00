/-! ===== the walks: each method keeps its predicate ===== -/
theorem W_X10_refuse {G : GT} {d : Nat} (hd : 1 ≤ d) {x1 : Int}   {v : VT} {q : Int → VT → Prop} {Q : Option Vl → List Sh → VT → Prop} (h : P_X10_refuse x1 v q) (hQ : ∀ r w, q r w → Q (some (vI r)) SH w) : n_T G d 0 0 mX10_refuse 0 [vR 0, vI x1] [] SH v Q := by
  unfold P_X10_refuse at h
  refine T_aload_n dX10_refuse_0 rfl ?_
  refine T_getR (r := 217) dX10_refuse_1 fX10_92 rfl SH_0 rfl ?_
  refine T_iload_n dX10_refuse_4 rfl ?_
  refine T_dup2 dX10_refuse_5 rfl rfl ?_
  refine T_iald dX10_refuse_6 SH_217 h.1 ?_
  replace h := h.2
  refine T_iconst dX10_refuse_7 (by decide) ?_
  refine U_iadd dX10_refuse_8 h.1 ?_
  replace h := h.2
  refine U_iast dX10_refuse_9 SH_217 h.1 (fun v9 ev9 => ?_)
  replace h := h.2 v9 ev9
  refine T_iconst dX10_refuse_10 (by decide) ?_
  exact T_iret dX10_refuse_11 rfl (hQ _ _ h)

theorem W_X10_feed {G : GT} {d : Nat} (hd : 2 ≤ d) {x1 : Int} {x2 : Int} {x3 : Int} {x4 : Int} {x5 : Int}   {v : VT} {q : Int → VT → Prop} {Q : Option Vl → List Sh → VT → Prop} (h : P_X10_feed x1 x2 x3 x4 x5 v q) (hQ : ∀ r w, q r w → Q (some (vI r)) SH w) : n_T G d 0 0 mX10_feed 0 [vR 0, vI x1, vI x2, vI x3, vI x4, vI x5] [] SH v Q := by
  unfold P_X10_feed at h
  refine T_aload_n dX10_feed_0 rfl ?_
  refine T_getR (r := 1) dX10_feed_1 fX10_10 rfl SH_0 rfl ?_
  refine T_getI dX10_feed_4 fX10_105 rfl SH_1 ?_
  refine T_bipush dX10_feed_7 (by decide) ?_
  refine U_iadd dX10_feed_9 h.1 ?_
  replace h := h.2
  refine T_sipush dX10_feed_10 (by decide) ?_
  refine U_icmp_le (tgt := 22) dX10_feed_13 (by decide) (fun hc => ?_) (fun hc => ?_)
  · replace h := h.1 hc
    refine T_aload_n dX10_feed_22 rfl ?_
    refine T_getR (r := 1) dX10_feed_23 fX10_10 rfl SH_0 rfl ?_
    refine T_iload_n dX10_feed_26 rfl ?_
    refine U_callV (as := [vI x1]) (st := []) dX10_feed_27 kX9_put lX10_112 SH_1 rfl rfl rfl rfl (Nat.le_of_ble_eq_true rfl) (Nat.le_of_ble_eq_true rfl) (by omega) ?_
    refine W_X9_put (by omega)  h (fun v27 h => ?_)
    show n_T G d 0 0 mX10_feed 30 [vR 0, vI x1, vI x2, vI x3, vI x4, vI x5] [] SH v27 Q
    refine T_aload_n dX10_feed_30 rfl ?_
    refine T_getR (r := 1) dX10_feed_31 fX10_10 rfl SH_0 rfl ?_
    refine T_iload_n dX10_feed_34 rfl ?_
    refine U_callV (as := [vI x2]) (st := []) dX10_feed_35 kX9_put lX10_112 SH_1 rfl rfl rfl rfl (Nat.le_of_ble_eq_true rfl) (Nat.le_of_ble_eq_true rfl) (by omega) ?_
    refine W_X9_put (by omega)  h (fun v35 h => ?_)
    show n_T G d 0 0 mX10_feed 38 [vR 0, vI x1, vI x2, vI x3, vI x4, vI x5] [] SH v35 Q
    refine T_aload_n dX10_feed_38 rfl ?_
    refine T_getR (r := 1) dX10_feed_39 fX10_10 rfl SH_0 rfl ?_
    refine T_iload_n dX10_feed_42 rfl ?_
    refine U_callV (as := [vI x3]) (st := []) dX10_feed_43 kX9_put lX10_112 SH_1 rfl rfl rfl rfl (Nat.le_of_ble_eq_true rfl) (Nat.le_of_ble_eq_true rfl) (by omega) ?_
    refine W_X9_put (by omega)  h (fun v43 h => ?_)
    show n_T G d 0 0 mX10_feed 46 [vR 0, vI x1, vI x2, vI x3, vI x4, vI x5] [] SH v43 Q
    refine T_aload_n dX10_feed_46 rfl ?_
    refine T_getR (r := 1) dX10_feed_47 fX10_10 rfl SH_0 rfl ?_
    refine T_iload dX10_feed_50 rfl ?_
    refine U_callV (as := [vI x4]) (st := []) dX10_feed_52 kX9_put lX10_112 SH_1 rfl rfl rfl rfl (Nat.le_of_ble_eq_true rfl) (Nat.le_of_ble_eq_true rfl) (by omega) ?_
    refine W_X9_put (by omega)  h (fun v52 h => ?_)
    show n_T G d 0 0 mX10_feed 55 [vR 0, vI x1, vI x2, vI x3, vI x4, vI x5] [] SH v52 Q
    refine T_aload_n dX10_feed_55 rfl ?_
    refine T_getR (r := 1) dX10_feed_56 fX10_10 rfl SH_0 rfl ?_
    refine T_iload dX10_feed_59 rfl ?_
    refine U_callV (as := [vI x5]) (st := []) dX10_feed_61 kX9_put lX10_112 SH_1 rfl rfl rfl rfl (Nat.le_of_ble_eq_true rfl) (Nat.le_of_ble_eq_true rfl) (by omega) ?_
    refine W_X9_put (by omega)  h (fun v61 h => ?_)
    show n_T G d 0 0 mX10_feed 64 [vR 0, vI x1, vI x2, vI x3, vI x4, vI x5] [] SH v61 Q
    refine T_aload_n dX10_feed_64 rfl ?_
    refine T_getR (r := 1) dX10_feed_65 fX10_10 rfl SH_0 rfl ?_
    refine T_getI dX10_feed_68 fX10_105 rfl SH_1 ?_
    exact T_iret dX10_feed_71 rfl (hQ _ _ h)
  · replace h := h.2 hc
    refine T_aload_n dX10_feed_16 rfl ?_
    refine T_iconst dX10_feed_17 (by decide) ?_
    refine U_callV (as := [vI 0]) (st := []) dX10_feed_18 kX10_refuse lX10_108 SH_0 rfl rfl rfl rfl (Nat.le_of_ble_eq_true rfl) (Nat.le_of_ble_eq_true rfl) (by omega) ?_
    refine W_X10_refuse (by omega)  h (fun r18 v18 h => ?_)
    show n_T G d 0 0 mX10_feed 21 [vR 0, vI x1, vI x2, vI x3, vI x4, vI x5] [vI r18] SH v18 Q
    exact T_iret dX10_feed_21 rfl (hQ _ _ h)

theorem W_X10_deny {G : GT} {d : Nat} (hd : 1 ≤ d) {x1 : Int}   {v : VT} {q : Int → VT → Prop} {Q : Option Vl → List Sh → VT → Prop} (h : P_X10_deny x1 v q) (hQ : ∀ r w, q r w → Q (some (vI r)) SH w) : n_T G d 0 0 mX10_deny 0 [vR 0, vI x1] [] SH v Q := by
  unfold P_X10_deny at h
  refine T_aload_n dX10_deny_0 rfl ?_
  refine T_getR (r := 217) dX10_deny_1 fX10_92 rfl SH_0 rfl ?_
  refine T_iload_n dX10_deny_4 rfl ?_
  refine T_dup2 dX10_deny_5 rfl rfl ?_
  refine T_iald dX10_deny_6 SH_217 h.1 ?_
  replace h := h.2
  refine T_iconst dX10_deny_7 (by decide) ?_
  refine U_iadd dX10_deny_8 h.1 ?_
  replace h := h.2
  refine U_iast dX10_deny_9 SH_217 h.1 (fun v9 ev9 => ?_)
  replace h := h.2 v9 ev9
  refine T_iconst dX10_deny_10 (by decide) ?_
  exact T_zret dX10_deny_11 rfl (by decide) (hQ _ _ h)

theorem W_X10_end {G : GT} {d : Nat} (hd : 2 ≤ d) {x1 : Int}   {v : VT} {q : Int → VT → Prop} {Q : Option Vl → List Sh → VT → Prop} (h : P_X10_end x1 v q) (hQ : ∀ r w, q r w → Q (some (vI r)) SH w) : n_T G d 0 0 mX10_end 0 [vR 0, vI x1] [] SH v Q := by
  unfold P_X10_end at h
  refine T_iload_n dX10_end_0 rfl ?_
  refine U_if_lt (tgt := 15) dX10_end_1 (by decide) (fun hc => ?_) (fun hc => ?_)
  · replace h := h.1 hc
    refine T_aload_n dX10_end_15 rfl ?_
    refine T_iconst dX10_end_16 (by decide) ?_
    refine U_callV (as := [vI 0]) (st := []) dX10_end_17 kX10_deny lX10_116 SH_0 rfl rfl rfl rfl (Nat.le_of_ble_eq_true rfl) (Nat.le_of_ble_eq_true rfl) (by omega) ?_
    refine W_X10_deny (by omega)  h (fun r17 v17 h => ?_)
    show n_T G d 0 0 mX10_end 20 [vR 0, vI x1] [vI r17] SH v17 Q
    exact T_zret dX10_end_20 rfl h.1 (hQ _ _ h.2)
  · replace h := h.2 hc
    refine T_iload_n dX10_end_4 rfl ?_
    refine T_aload_n dX10_end_5 rfl ?_
    refine T_getR (r := 1) dX10_end_6 fX10_10 rfl SH_0 rfl ?_
    refine T_getI dX10_end_9 fX10_105 rfl SH_1 ?_
    refine U_icmp_le (tgt := 21) dX10_end_12 (by decide) (fun hc => ?_) (fun hc => ?_)
    · replace h := h.1 hc
      refine T_aload_n dX10_end_21 rfl ?_
      refine T_getR (r := 1) dX10_end_22 fX10_10 rfl SH_0 rfl ?_
      refine T_iload_n dX10_end_25 rfl ?_
      refine U_putI dX10_end_26 fX10_105 rfl rfl SH_1 (fun v26 ev26 => ?_)
      replace h := h v26 ev26
      refine T_iconst dX10_end_29 (by decide) ?_
      exact T_zret dX10_end_30 rfl (by decide) (hQ _ _ h)
    · replace h := h.2 hc
      refine T_aload_n dX10_end_15 rfl ?_
      refine T_iconst dX10_end_16 (by decide) ?_
      refine U_callV (as := [vI 0]) (st := []) dX10_end_17 kX10_deny lX10_116 SH_0 rfl rfl rfl rfl (Nat.le_of_ble_eq_true rfl) (Nat.le_of_ble_eq_true rfl) (by omega) ?_
      refine W_X10_deny (by omega)  h (fun r17_1 v17_1 h => ?_)
      show n_T G d 0 0 mX10_end 20 [vR 0, vI x1] [vI r17_1] SH v17_1 Q
      exact T_zret dX10_end_20 rfl h.1 (hQ _ _ h.2)

theorem W_X10_changed {G : GT} {d : Nat} (hd : 1 ≤ d)    {v : VT} {q : VT → Prop} {Q : Option Vl → List Sh → VT → Prop} (h : P_X10_changed  v q) (hQ : ∀ w, q w → Q none SH w) : n_T G d 0 0 mX10_changed 0 [vR 0] [] SH v Q := by
  unfold P_X10_changed at h
  refine T_aload_n dX10_changed_0 rfl ?_
  refine T_getR (r := 138) dX10_changed_1 fX10_40 rfl SH_0 rfl ?_
  refine T_iconst dX10_changed_4 (by decide) ?_
  refine U_putZ dX10_changed_5 fX10_411 rfl rfl SH_138 (by decide) (fun v5 ev5 => ?_)
  replace h := h v5 ev5
  refine T_aload_n dX10_changed_8 rfl ?_
  refine T_getR (r := 191) dX10_changed_9 fX10_47 rfl SH_0 rfl ?_
  refine T_iconst dX10_changed_12 (by decide) ?_
  refine U_putZ dX10_changed_13 fX10_414 rfl rfl SH_191 (by decide) (fun v13 ev13 => ?_)
  replace h := h v13 ev13
  refine T_aload_n dX10_changed_16 rfl ?_
  refine T_getR (r := 197) dX10_changed_17 fX10_54 rfl SH_0 rfl ?_
  refine T_iconst dX10_changed_20 (by decide) ?_
  refine U_putZ dX10_changed_21 fX10_415 rfl rfl SH_197 (by decide) (fun v21 ev21 => ?_)
  replace h := h v21 ev21
  exact T_vret dX10_changed_24 rfl (hQ _ h)

theorem W_X10_net {G : GT} {d : Nat} (hd : 12 ≤ d)    {v : VT} {q : Int → VT → Prop} {Q : Option Vl → List Sh → VT → Prop} (h : P_X10_net  v q) (hQ : ∀ r w, q r w → Q (some (vI r)) SH w) : n_T G d 0 0 mX10_net 0 [vR 0] [] SH v Q := by
  unfold P_X10_net at h
  refine T_aload_n dX10_net_0 rfl ?_
  refine T_getR (r := 3) dX10_net_1 fX10_19 rfl SH_0 rfl ?_
  refine T_aload_n dX10_net_4 rfl ?_
  refine T_getR (r := 1) dX10_net_5 fX10_10 rfl SH_0 rfl ?_
  refine U_callV (as := [vR 1]) (st := []) dX10_net_8 kX5_readNet lX10_120 SH_3 rfl rfl rfl rfl (Nat.le_of_ble_eq_true rfl) (Nat.le_of_ble_eq_true rfl) (by omega) ?_
  refine W_X5_readNet (by omega)  h (fun v8 h => ?_)
  show n_T G d 0 0 mX10_net 11 [vR 0] [] SH v8 Q
  refine T_aload_n dX10_net_11 rfl ?_
  refine T_getR (r := 1) dX10_net_12 fX10_10 rfl SH_0 rfl ?_
  refine T_iconst dX10_net_15 (by decide) ?_
  refine U_putI dX10_net_16 fX10_105 rfl rfl SH_1 (fun v16 ev16 => ?_)
  replace h := h v16 ev16
  refine T_aload_n dX10_net_19 rfl ?_
  refine T_getR (r := 3) dX10_net_20 fX10_19 rfl SH_0 rfl ?_
  refine T_getI dX10_net_23 fX10_124 rfl SH_3 ?_
  refine U_if_eq (tgt := 35) dX10_net_26 (by decide) (fun hc => ?_) (fun hc => ?_)
  · replace h := h.1 hc
    refine T_aload_n dX10_net_35 rfl ?_
    refine T_getR (r := 10) dX10_net_36 fX10_26 rfl SH_0 rfl ?_
    refine T_aload_n dX10_net_39 rfl ?_
    refine T_getR (r := 3) dX10_net_40 fX10_19 rfl SH_0 rfl ?_
    refine T_getR (r := 4) dX10_net_43 fX10_127 rfl SH_3 rfl ?_
    refine U_callV (as := [vR 4]) (st := []) dX10_net_46 kX0_takeFrom lX10_130 SH_10 rfl rfl rfl rfl (Nat.le_of_ble_eq_true rfl) (Nat.le_of_ble_eq_true rfl) (by omega) ?_
    refine W_X0_takeFrom (by omega) isG_at10 isG_at4 h (fun v46 h => ?_)
    show n_T G d 0 0 mX10_net 49 [vR 0] [] SH v46 Q
    refine T_aload_n dX10_net_49 rfl ?_
    refine T_getR (r := 16) dX10_net_50 fX10_33 rfl SH_0 rfl ?_
    refine U_callV (as := []) (st := []) dX10_net_53 kX3_forget lX10_134 SH_16 rfl rfl rfl rfl (Nat.le_of_ble_eq_true rfl) (Nat.le_of_ble_eq_true rfl) (by omega) ?_
    refine W_X3_forget (by omega)  h (fun v53 h => ?_)
    show n_T G d 0 0 mX10_net 56 [vR 0] [] SH v53 Q
    refine T_aload_n dX10_net_56 rfl ?_
    refine T_iconst dX10_net_57 (by decide) ?_
    refine U_putI dX10_net_58 fX10_95 rfl rfl SH_0 (fun v58 ev58 => ?_)
    replace h := h v58 ev58
    refine T_aload_n dX10_net_61 rfl ?_
    refine T_iconst dX10_net_62 (by decide) ?_
    refine U_putI dX10_net_63 fX10_99 rfl rfl SH_0 (fun v63 ev63 => ?_)
    replace h := h v63 ev63
    refine T_aload_n dX10_net_66 rfl ?_
    refine U_callV (as := []) (st := []) dX10_net_67 kX10_changed lX10_137 SH_0 rfl rfl rfl rfl (Nat.le_of_ble_eq_true rfl) (Nat.le_of_ble_eq_true rfl) (by omega) ?_
    refine W_X10_changed (by omega)  h (fun v67 h => ?_)
    show n_T G d 0 0 mX10_net 70 [vR 0] [] SH v67 Q
    refine T_aload_n dX10_net_70 rfl ?_
    refine T_getR (r := 3) dX10_net_71 fX10_19 rfl SH_0 rfl ?_
    refine T_getI dX10_net_74 fX10_140 rfl SH_3 ?_
    exact T_iret dX10_net_77 rfl (hQ _ _ h)
  · replace h := h.2 hc
    refine T_aload_n dX10_net_29 rfl ?_
    refine T_iconst dX10_net_30 (by decide) ?_
    refine U_callV (as := [vI 1]) (st := []) dX10_net_31 kX10_refuse lX10_108 SH_0 rfl rfl rfl rfl (Nat.le_of_ble_eq_true rfl) (Nat.le_of_ble_eq_true rfl) (by omega) ?_
    refine W_X10_refuse (by omega)  h (fun r31 v31 h => ?_)
    show n_T G d 0 0 mX10_net 34 [vR 0] [vI r31] SH v31 Q
    exact T_iret dX10_net_34 rfl (hQ _ _ h)

theorem W_X10_fault {G : GT} {d : Nat} (hd : 1 ≤ d) {x1 : Int}   {v : VT} {q : Int → Prop} {Q : Option Vl → List Sh → VT → Prop} (h : P_X10_fault x1 v q) (hQ : ∀ r, q r → Q (some (vI r)) SH v) : n_T G d 0 0 mX10_fault 0 [vR 0, vI x1] [] SH v Q := by
  unfold P_X10_fault at h
  refine T_iload_n dX10_fault_0 rfl ?_
  refine U_if_ne (tgt := 12) dX10_fault_1 (by decide) (fun hc => ?_) (fun hc => ?_)
  · replace h := h.1 hc
    refine T_iload_n dX10_fault_12 rfl ?_
    refine T_iconst dX10_fault_13 (by decide) ?_
    refine U_icmp_ne (tgt := 27) dX10_fault_14 (by decide) (fun hc => ?_) (fun hc => ?_)
    · replace h := h.1 hc
      refine T_iconst dX10_fault_27 (by decide) ?_
      exact T_iret dX10_fault_28 rfl (hQ _ h)
    · replace h := h.2 hc
      refine T_aload_n dX10_fault_17 rfl ?_
      refine T_getR (r := 3) dX10_fault_18 fX10_19 rfl SH_0 rfl ?_
      refine T_getI dX10_fault_21 fX10_143 rfl SH_3 ?_
      refine T_goto (tgt := 28) dX10_fault_24 (by decide) ?_
      exact T_iret dX10_fault_28 rfl (hQ _ h)
  · replace h := h.2 hc
    refine T_aload_n dX10_fault_4 rfl ?_
    refine T_getR (r := 3) dX10_fault_5 fX10_19 rfl SH_0 rfl ?_
    refine T_getI dX10_fault_8 fX10_124 rfl SH_3 ?_
    exact T_iret dX10_fault_11 rfl (hQ _ h)

theorem W_X10_measured {G : GT} {d : Nat} (hd : 4 ≤ d)    {v : VT} {q : VT → Prop} {Q : Option Vl → List Sh → VT → Prop} (h : P_X10_measured  v q) (hQ : ∀ w, q w → Q (some (vR 138)) SH w) : n_T G d 0 0 mX10_measured 0 [vR 0] [] SH v Q := by
  unfold P_X10_measured at h
  refine T_aload_n dX10_measured_0 rfl ?_
  refine T_getR (r := 138) dX10_measured_1 fX10_40 rfl SH_0 rfl ?_
  refine T_getI dX10_measured_4 fX10_411 rfl SH_138 ?_
  refine U_if_ne (tgt := 21) dX10_measured_7 (by decide) (fun hc => ?_) (fun hc => ?_)
  · replace h := h.1 hc
    refine T_aload_n dX10_measured_21 rfl ?_
    refine T_getR (r := 138) dX10_measured_22 fX10_40 rfl SH_0 rfl ?_
    exact T_aret dX10_measured_25 rfl (Or.inl ⟨_, rfl⟩) (hQ _ h)
  · replace h := h.2 hc
    refine T_aload_n dX10_measured_10 rfl ?_
    refine T_getR (r := 138) dX10_measured_11 fX10_40 rfl SH_0 rfl ?_
    refine T_aload_n dX10_measured_14 rfl ?_
    refine T_getR (r := 10) dX10_measured_15 fX10_26 rfl SH_0 rfl ?_
    refine U_callV (as := [vR 10]) (st := []) dX10_measured_18 kX2_measure lX10_416 SH_138 rfl rfl rfl rfl (Nat.le_of_ble_eq_true rfl) (Nat.le_of_ble_eq_true rfl) (by omega) ?_
    refine W_X2_measure (by omega)  h (fun v18 h => ?_)
    show n_T G d 0 0 mX10_measured 21 [vR 0] [] SH v18 Q
    refine T_aload_n dX10_measured_21 rfl ?_
    refine T_getR (r := 138) dX10_measured_22 fX10_40 rfl SH_0 rfl ?_
    exact T_aret dX10_measured_25 rfl (Or.inl ⟨_, rfl⟩) (hQ _ h)

theorem W_X10_sorted {G : GT} {d : Nat} (hd : 5 ≤ d)    {v : VT} {q : VT → Prop} {Q : Option Vl → List Sh → VT → Prop} (h : P_X10_sorted  v q) (hQ : ∀ w, q w → Q (some (vR 191)) SH w) : n_T G d 0 0 mX10_sorted 0 [vR 0] [] SH v Q := by
  unfold P_X10_sorted at h
  refine T_aload_n dX10_sorted_0 rfl ?_
  refine U_callV (as := []) (st := []) dX10_sorted_1 kX10_measured lX10_203 SH_0 rfl rfl rfl rfl (Nat.le_of_ble_eq_true rfl) (Nat.le_of_ble_eq_true rfl) (by omega) ?_
  refine W_X10_measured (by omega)  h (fun v1 h => ?_)
  show n_T G d 0 0 mX10_sorted 4 [vR 0] [vR 138] SH v1 Q
  refine T_pop dX10_sorted_4 rfl ?_
  refine T_aload_n dX10_sorted_5 rfl ?_
  refine T_getR (r := 191) dX10_sorted_6 fX10_47 rfl SH_0 rfl ?_
  refine T_getI dX10_sorted_9 fX10_414 rfl SH_191 ?_
  refine U_if_ne (tgt := 30) dX10_sorted_12 (by decide) (fun hc => ?_) (fun hc => ?_)
  · replace h := h.1 hc
    refine T_aload_n dX10_sorted_30 rfl ?_
    refine T_getR (r := 191) dX10_sorted_31 fX10_47 rfl SH_0 rfl ?_
    exact T_aret dX10_sorted_34 rfl (Or.inl ⟨_, rfl⟩) (hQ _ h)
  · replace h := h.2 hc
    refine T_aload_n dX10_sorted_15 rfl ?_
    refine T_getR (r := 191) dX10_sorted_16 fX10_47 rfl SH_0 rfl ?_
    refine T_aload_n dX10_sorted_19 rfl ?_
    refine T_getR (r := 10) dX10_sorted_20 fX10_26 rfl SH_0 rfl ?_
    refine T_aload_n dX10_sorted_23 rfl ?_
    refine T_getR (r := 138) dX10_sorted_24 fX10_40 rfl SH_0 rfl ?_
    refine U_callV (as := [vR 10, vR 138]) (st := []) dX10_sorted_27 kX1_collect lX10_419 SH_191 rfl rfl rfl rfl (Nat.le_of_ble_eq_true rfl) (Nat.le_of_ble_eq_true rfl) (by omega) ?_
    refine W_X1_collect (by omega)  h (fun v27 h => ?_)
    show n_T G d 0 0 mX10_sorted 30 [vR 0] [] SH v27 Q
    refine T_aload_n dX10_sorted_30 rfl ?_
    refine T_getR (r := 191) dX10_sorted_31 fX10_47 rfl SH_0 rfl ?_
    exact T_aret dX10_sorted_34 rfl (Or.inl ⟨_, rfl⟩) (hQ _ h)

theorem W_X10_seated {G : GT} {d : Nat} (hd : 5 ≤ d)    {v : VT} {q : VT → Prop} {Q : Option Vl → List Sh → VT → Prop} (h : P_X10_seated  v q) (hQ : ∀ w, q w → Q (some (vR 197)) SH w) : n_T G d 0 0 mX10_seated 0 [vR 0] [] SH v Q := by
  unfold P_X10_seated at h
  refine T_aload_n dX10_seated_0 rfl ?_
  refine U_callV (as := []) (st := []) dX10_seated_1 kX10_measured lX10_203 SH_0 rfl rfl rfl rfl (Nat.le_of_ble_eq_true rfl) (Nat.le_of_ble_eq_true rfl) (by omega) ?_
  refine W_X10_measured (by omega)  h (fun v1 h => ?_)
  show n_T G d 0 0 mX10_seated 4 [vR 0] [vR 138] SH v1 Q
  refine T_pop dX10_seated_4 rfl ?_
  refine T_aload_n dX10_seated_5 rfl ?_
  refine T_getR (r := 191) dX10_seated_6 fX10_47 rfl SH_0 rfl ?_
  refine T_getI dX10_seated_9 fX10_414 rfl SH_191 ?_
  refine n_cut (h (fun (v30 : VT) => n_T G d 0 0 mX10_seated 30 [vR 0] [] SH v30 Q)) ?_ ?_
  · intro v30 h
    refine T_aload_n dX10_seated_30 rfl ?_
    refine T_getR (r := 197) dX10_seated_31 fX10_54 rfl SH_0 rfl ?_
    refine T_getI dX10_seated_34 fX10_415 rfl SH_197 ?_
    refine U_if_ne (tgt := 59) dX10_seated_37 (by decide) (fun hc => ?_) (fun hc => ?_)
    · replace h := h.1 hc
      refine T_aload_n dX10_seated_59 rfl ?_
      refine T_getR (r := 197) dX10_seated_60 fX10_54 rfl SH_0 rfl ?_
      exact T_aret dX10_seated_63 rfl (Or.inl ⟨_, rfl⟩) (hQ _ h)
    · replace h := h.2 hc
      refine T_aload_n dX10_seated_40 rfl ?_
      refine T_getR (r := 197) dX10_seated_41 fX10_54 rfl SH_0 rfl ?_
      refine T_aload_n dX10_seated_44 rfl ?_
      refine T_getR (r := 10) dX10_seated_45 fX10_26 rfl SH_0 rfl ?_
      refine T_aload_n dX10_seated_48 rfl ?_
      refine T_getR (r := 138) dX10_seated_49 fX10_40 rfl SH_0 rfl ?_
      refine T_aload_n dX10_seated_52 rfl ?_
      refine T_getR (r := 191) dX10_seated_53 fX10_47 rfl SH_0 rfl ?_
      refine U_callV (as := [vR 10, vR 138, vR 191]) (st := []) dX10_seated_56 kX8_settle lX10_423 SH_197 rfl rfl rfl rfl (Nat.le_of_ble_eq_true rfl) (Nat.le_of_ble_eq_true rfl) (by omega) ?_
      refine W_X8_settle (by omega)  h (fun v56 h => ?_)
      show n_T G d 0 0 mX10_seated 59 [vR 0] [] SH v56 Q
      refine T_aload_n dX10_seated_59 rfl ?_
      refine T_getR (r := 197) dX10_seated_60 fX10_54 rfl SH_0 rfl ?_
      exact T_aret dX10_seated_63 rfl (Or.inl ⟨_, rfl⟩) (hQ _ h)
  · intro h
    refine U_if_ne (tgt := 30) dX10_seated_12 (by decide) (fun hc => ?_) (fun hc => ?_)
    · replace h := h.1 hc
      exact T_drop h ⟨Or.inl rfl, trivial⟩
    · replace h := h.2 hc
      refine T_aload_n dX10_seated_15 rfl ?_
      refine T_getR (r := 191) dX10_seated_16 fX10_47 rfl SH_0 rfl ?_
      refine T_aload_n dX10_seated_19 rfl ?_
      refine T_getR (r := 10) dX10_seated_20 fX10_26 rfl SH_0 rfl ?_
      refine T_aload_n dX10_seated_23 rfl ?_
      refine T_getR (r := 138) dX10_seated_24 fX10_40 rfl SH_0 rfl ?_
      refine U_callV (as := [vR 10, vR 138]) (st := []) dX10_seated_27 kX1_collect lX10_419 SH_191 rfl rfl rfl rfl (Nat.le_of_ble_eq_true rfl) (Nat.le_of_ble_eq_true rfl) (by omega) ?_
      refine W_X1_collect (by omega)  h (fun v27 h => ?_)
      show n_T G d 0 0 mX10_seated 30 [vR 0] [] SH v27 Q
      exact T_drop h ⟨Or.inl rfl, trivial⟩

theorem W_X10_has {G : GT} {d : Nat} (hd : 6 ≤ d) {x1 : Int}   {v : VT} {q : Int → VT → Prop} {Q : Option Vl → List Sh → VT → Prop} (h : P_X10_has x1 v q) (hQ : ∀ r w, q r w → Q (some (vI r)) SH w) : n_T G d 0 0 mX10_has 0 [vR 0, vI x1] [] SH v Q := by
  unfold P_X10_has at h
  refine T_iload_n dX10_has_0 rfl ?_
  rcases (by omega : x1 = 0 ∨ x1 = 1 ∨ x1 = 2 ∨ x1 = 3 ∨ x1 = 4 ∨ x1 = 5 ∨ x1 = 6 ∨ x1 = 7 ∨ (x1 < 0 ∨ 7 < x1)) with hc | hc | hc | hc | hc | hc | hc | hc | hc
  · refine U_tab (tgt := 48) dX10_has_1 0 hc (by decide) rfl (by decide) ?_
    replace h := h.1 hc
    refine T_aload_n dX10_has_48 rfl ?_
    refine T_getR (r := 10) dX10_has_49 fX10_26 rfl SH_0 rfl ?_
    refine T_getI dX10_has_52 fX10_146 rfl SH_10 ?_
    exact T_iret dX10_has_55 rfl (hQ _ _ h)
  · refine U_tab (tgt := 56) dX10_has_1 1 hc (by decide) rfl (by decide) ?_
    replace h := h.2.1 hc
    refine T_aload_n dX10_has_56 rfl ?_
    refine T_getR (r := 10) dX10_has_57 fX10_26 rfl SH_0 rfl ?_
    refine T_getI dX10_has_60 fX10_149 rfl SH_10 ?_
    exact T_iret dX10_has_63 rfl (hQ _ _ h)
  · refine U_tab (tgt := 64) dX10_has_1 2 hc (by decide) rfl (by decide) ?_
    replace h := h.2.2.1 hc
    refine T_aload_n dX10_has_64 rfl ?_
    refine U_callV (as := []) (st := []) dX10_has_65 kX10_sorted lX10_152 SH_0 rfl rfl rfl rfl (Nat.le_of_ble_eq_true rfl) (Nat.le_of_ble_eq_true rfl) (by omega) ?_
    refine W_X10_sorted (by omega)  h (fun v65 h => ?_)
    show n_T G d 0 0 mX10_has 68 [vR 0, vI x1] [vR 191] SH v65 Q
    refine T_getI dX10_has_68 fX10_156 rfl SH_191 ?_
    exact T_iret dX10_has_71 rfl (hQ _ _ h)
  · refine U_tab (tgt := 72) dX10_has_1 3 hc (by decide) rfl (by decide) ?_
    replace h := h.2.2.2.1 hc
    refine T_aload_n dX10_has_72 rfl ?_
    refine T_getI dX10_has_73 fX10_95 rfl SH_0 ?_
    exact T_iret dX10_has_76 rfl (hQ _ _ h)
  · refine U_tab (tgt := 77) dX10_has_1 4 hc (by decide) rfl (by decide) ?_
    replace h := h.2.2.2.2.1 hc
    refine T_aload_n dX10_has_77 rfl ?_
    refine T_getI dX10_has_78 fX10_99 rfl SH_0 ?_
    exact T_iret dX10_has_81 rfl (hQ _ _ h)
  · refine U_tab (tgt := 82) dX10_has_1 5 hc (by decide) rfl (by decide) ?_
    replace h := h.2.2.2.2.2.1 hc
    refine T_aload_n dX10_has_82 rfl ?_
    refine T_getR (r := 16) dX10_has_83 fX10_33 rfl SH_0 rfl ?_
    refine T_getI dX10_has_86 fX10_159 rfl SH_16 ?_
    exact T_iret dX10_has_89 rfl (hQ _ _ h)
  · refine U_tab (tgt := 90) dX10_has_1 6 hc (by decide) rfl (by decide) ?_
    replace h := h.2.2.2.2.2.2.1 hc
    refine T_aload_n dX10_has_90 rfl ?_
    refine U_callV (as := []) (st := []) dX10_has_91 kX10_seated lX10_160 SH_0 rfl rfl rfl rfl (Nat.le_of_ble_eq_true rfl) (Nat.le_of_ble_eq_true rfl) (by omega) ?_
    refine W_X10_seated (by omega)  h (fun v91 h => ?_)
    show n_T G d 0 0 mX10_has 94 [vR 0, vI x1] [vR 197] SH v91 Q
    refine T_getI dX10_has_94 fX10_164 rfl SH_197 ?_
    exact T_iret dX10_has_97 rfl (hQ _ _ h)
  · refine U_tab (tgt := 98) dX10_has_1 7 hc (by decide) rfl (by decide) ?_
    replace h := h.2.2.2.2.2.2.2.1 hc
    refine T_aload_n dX10_has_98 rfl ?_
    refine U_callV (as := []) (st := []) dX10_has_99 kX10_sorted lX10_152 SH_0 rfl rfl rfl rfl (Nat.le_of_ble_eq_true rfl) (Nat.le_of_ble_eq_true rfl) (by omega) ?_
    refine W_X10_sorted (by omega)  h (fun v99 h => ?_)
    show n_T G d 0 0 mX10_has 102 [vR 0, vI x1] [vR 191] SH v99 Q
    refine T_aload_n dX10_has_102 rfl ?_
    refine T_getR (r := 10) dX10_has_103 fX10_26 rfl SH_0 rfl ?_
    refine U_callV (as := [vR 10]) (st := []) dX10_has_106 kX1_isFair lX10_167 SH_191 rfl rfl rfl rfl (Nat.le_of_ble_eq_true rfl) (Nat.le_of_ble_eq_true rfl) (by omega) ?_
    refine W_X1_isFair (by omega)  h (fun r106 h => ?_)
    show n_T G d 0 0 mX10_has 109 [vR 0, vI x1] [vI r106] SH v99 Q
    refine U_if_eq (tgt := 116) dX10_has_109 (by decide) (fun hc => ?_) (fun hc => ?_)
    · replace h := h.1 hc
      refine T_iconst dX10_has_116 (by decide) ?_
      exact T_iret dX10_has_117 rfl (hQ _ _ h)
    · replace h := h.2 hc
      refine T_iconst dX10_has_112 (by decide) ?_
      refine T_goto (tgt := 117) dX10_has_113 (by decide) ?_
      exact T_iret dX10_has_117 rfl (hQ _ _ h)
  · refine T_tabOut (tgt := 118) dX10_has_1 hc (by decide) ?_
    replace h := h.2.2.2.2.2.2.2.2 hc
    refine T_iconst dX10_has_118 (by decide) ?_
    exact T_iret dX10_has_119 rfl (hQ _ _ h)

theorem W_X10_letter {G : GT} {d : Nat} (hd : 2 ≤ d) {x1 : Int} {x2 : Int}   {v : VT} {q : Int → Prop} {Q : Option Vl → List Sh → VT → Prop} (h : P_X10_letter x1 x2 v q) (hQ : ∀ r, q r → Q (some (vI r)) SH v) : n_T G d 0 0 mX10_letter 0 [vR 0, vI x1, vI x2] [] SH v Q := by
  unfold P_X10_letter at h
  refine T_aload_n dX10_letter_0 rfl ?_
  refine T_getR (r := 10) dX10_letter_1 fX10_26 rfl SH_0 rfl ?_
  refine T_iload_n dX10_letter_4 rfl ?_
  refine U_callV (as := [vI x1]) (st := []) dX10_letter_5 kX0_isNode lX10_171 SH_10 rfl rfl rfl rfl (Nat.le_of_ble_eq_true rfl) (Nat.le_of_ble_eq_true rfl) (by omega) ?_
  refine W_X0_isNode (by omega) isG_at10 h (fun r5 h => ?_)
  show n_T G d 0 0 mX10_letter 8 [vR 0, vI x1, vI x2] [vI r5] SH v Q
  refine U_if_eq (tgt := 20) dX10_letter_8 (by decide) (fun hc => ?_) (fun hc => ?_)
  · replace h := h.1 hc
    refine T_iconst dX10_letter_20 (by decide) ?_
    exact T_iret dX10_letter_21 rfl (hQ _ h)
  · replace h := h.2 hc
    refine T_iload_n dX10_letter_11 rfl ?_
    refine U_if_lt (tgt := 20) dX10_letter_12 (by decide) (fun hc => ?_) (fun hc => ?_)
    · replace h := h.1 hc
      refine T_iconst dX10_letter_20 (by decide) ?_
      exact T_iret dX10_letter_21 rfl (hQ _ h)
    · replace h := h.2 hc
      refine T_iload_n dX10_letter_15 rfl ?_
      refine T_iconst dX10_letter_16 (by decide) ?_
      refine U_icmp_lt (tgt := 22) dX10_letter_17 (by decide) (fun hc => ?_) (fun hc => ?_)
      · replace h := h.1 hc
        refine T_aload_n dX10_letter_22 rfl ?_
        refine T_getR (r := 10) dX10_letter_23 fX10_26 rfl SH_0 rfl ?_
        refine T_getR (r := 11) dX10_letter_26 fX10_174 rfl SH_10 rfl ?_
        refine T_iload_n dX10_letter_29 rfl ?_
        refine T_iald dX10_letter_30 SH_11 h.1 ?_
        replace h := h.2
        refine T_iload_n dX10_letter_31 rfl ?_
        refine U_callS (as := [vI (v 11 x1.toNat), vI x2]) (st := []) dX10_letter_32 kX10_letterOf lX10_177 rfl rfl (Nat.le_of_ble_eq_true rfl) (Nat.le_of_ble_eq_true rfl) (by omega) ?_
        refine W_X10_letterOf (by omega)  h (fun r32 h => ?_)
        show n_T G d 0 0 mX10_letter 35 [vR 0, vI x1, vI x2] [vI r32] SH v Q
        exact T_iret dX10_letter_35 rfl (hQ _ h)
      · replace h := h.2 hc
        refine T_iconst dX10_letter_20 (by decide) ?_
        exact T_iret dX10_letter_21 rfl (hQ _ h)

theorem W_X10_named {G : GT} {d : Nat} (hd : 4 ≤ d)    {v : VT} {q : Int → VT → Prop} {Q : Option Vl → List Sh → VT → Prop} (h : P_X10_named  v q) (hQ : ∀ r w, q r w → Q (some (vI r)) SH w) : n_T G d 0 0 mX10_named 0 [vR 0, vS 9] [] SH v Q := by
  unfold P_X10_named at h
  refine T_aload_n dX10_named_0 rfl ?_
  refine T_getR (r := 3) dX10_named_1 fX10_19 rfl SH_0 rfl ?_
  refine T_aload_n dX10_named_4 rfl ?_
  refine T_getR (r := 1) dX10_named_5 fX10_10 rfl SH_0 rfl ?_
  refine U_callV (as := [vR 1]) (st := []) dX10_named_8 kX5_readName lX10_181 SH_3 rfl rfl rfl rfl (Nat.le_of_ble_eq_true rfl) (Nat.le_of_ble_eq_true rfl) (by omega) ?_
  refine W_X5_readName (by omega)  h (fun r8 v8 h => ?_)
  show n_T G d 0 0 mX10_named 11 [vR 0, vS 9] [vI r8] SH v8 Q
  refine T_istore_n dX10_named_11 (by decide) rfl ?_
  refine T_aload_n dX10_named_12 rfl ?_
  refine T_getR (r := 1) dX10_named_13 fX10_10 rfl SH_0 rfl ?_
  refine T_iconst dX10_named_16 (by decide) ?_
  refine U_putI dX10_named_17 fX10_105 rfl rfl SH_1 (fun v17 ev17 => ?_)
  replace h := h v17 ev17
  refine T_aload_n dX10_named_20 rfl ?_
  refine T_getR (r := 10) dX10_named_21 fX10_26 rfl SH_0 rfl ?_
  refine T_iload_n dX10_named_24 rfl ?_
  refine U_callV (as := [vI r8]) (st := []) dX10_named_25 kX0_findName lX10_185 SH_10 rfl rfl rfl rfl (Nat.le_of_ble_eq_true rfl) (Nat.le_of_ble_eq_true rfl) (by omega) ?_
  refine W_X0_findName (by omega) isG_at10 h (fun r25 h => ?_)
  show n_T G d 0 0 mX10_named 28 [vR 0, vI r8] [vI r25] SH v17 Q
  exact T_iret dX10_named_28 rfl (hQ _ _ h)

theorem W_X10_line {G : GT} {d : Nat} (hd : 6 ≤ d) {x1 : Int} {x2 : Int}   {v : VT} {q : Int → VT → Prop} {Q : Option Vl → List Sh → VT → Prop} (h : P_X10_line x1 x2 v q) (hQ : ∀ r w, q r w → Q (some (vI r)) SH w) : n_T G d 0 0 mX10_line 0 [vR 0, vI x1, vI x2] [] SH v Q := by
  unfold P_X10_line at h
  refine T_aload_n dX10_line_0 rfl ?_
  refine T_getR (r := 10) dX10_line_1 fX10_26 rfl SH_0 rfl ?_
  refine T_iload_n dX10_line_4 rfl ?_
  refine U_callV (as := [vI x1]) (st := []) dX10_line_5 kX0_isLine lX10_188 SH_10 rfl rfl rfl rfl (Nat.le_of_ble_eq_true rfl) (Nat.le_of_ble_eq_true rfl) (by omega) ?_
  refine W_X0_isLine (by omega) isG_at10 h (fun r5 h => ?_)
  show n_T G d 0 0 mX10_line 8 [vR 0, vI x1, vI x2] [vI r5] SH v Q
  refine U_if_ne (tgt := 13) dX10_line_8 (by decide) (fun hc => ?_) (fun hc => ?_)
  · replace h := h.1 hc
    refine T_iload_n dX10_line_13 rfl ?_
    rcases (by omega : x2 = 0 ∨ x2 = 1 ∨ x2 = 2 ∨ x2 = 3 ∨ (x2 < 0 ∨ 3 < x2)) with hc | hc | hc | hc | hc
    · refine U_tab (tgt := 44) dX10_line_14 0 hc (by decide) rfl (by decide) ?_
      replace h := h.1 hc
      refine T_aload_n dX10_line_44 rfl ?_
      refine T_getR (r := 10) dX10_line_45 fX10_26 rfl SH_0 rfl ?_
      refine T_getR (r := 12) dX10_line_48 fX10_191 rfl SH_10 rfl ?_
      refine T_iload_n dX10_line_51 rfl ?_
      refine T_iald dX10_line_52 SH_12 h.1 ?_
      replace h := h.2
      exact T_iret dX10_line_53 rfl (hQ _ _ h)
    · refine U_tab (tgt := 54) dX10_line_14 1 hc (by decide) rfl (by decide) ?_
      replace h := h.2.1 hc
      refine T_aload_n dX10_line_54 rfl ?_
      refine T_getR (r := 10) dX10_line_55 fX10_26 rfl SH_0 rfl ?_
      refine T_getR (r := 13) dX10_line_58 fX10_194 rfl SH_10 rfl ?_
      refine T_iload_n dX10_line_61 rfl ?_
      refine T_iald dX10_line_62 SH_13 h.1 ?_
      replace h := h.2
      exact T_iret dX10_line_63 rfl (hQ _ _ h)
    · refine U_tab (tgt := 64) dX10_line_14 2 hc (by decide) rfl (by decide) ?_
      replace h := h.2.2.1 hc
      refine T_aload_n dX10_line_64 rfl ?_
      refine U_callV (as := []) (st := []) dX10_line_65 kX10_sorted lX10_152 SH_0 rfl rfl rfl rfl (Nat.le_of_ble_eq_true rfl) (Nat.le_of_ble_eq_true rfl) (by omega) ?_
      refine W_X10_sorted (by omega)  h (fun v65 h => ?_)
      show n_T G d 0 0 mX10_line 68 [vR 0, vI x1, vI x2] [vR 191] SH v65 Q
      refine T_getR (r := 192) dX10_line_68 fX10_197 rfl SH_191 rfl ?_
      refine T_iload_n dX10_line_71 rfl ?_
      refine T_iald dX10_line_72 SH_192 h.1 ?_
      replace h := h.2
      exact T_iret dX10_line_73 rfl (hQ _ _ h)
    · refine U_tab (tgt := 74) dX10_line_14 3 hc (by decide) rfl (by decide) ?_
      replace h := h.2.2.2.1 hc
      refine T_aload_n dX10_line_74 rfl ?_
      refine T_getR (r := 10) dX10_line_75 fX10_26 rfl SH_0 rfl ?_
      refine T_getR (r := 14) dX10_line_78 fX10_200 rfl SH_10 rfl ?_
      refine T_iload_n dX10_line_81 rfl ?_
      refine T_iald dX10_line_82 SH_14 h.1 ?_
      replace h := h.2
      exact T_iret dX10_line_83 rfl (hQ _ _ h)
    · refine T_tabOut (tgt := 84) dX10_line_14 hc (by decide) ?_
      replace h := h.2.2.2.2 hc
      refine T_iconst dX10_line_84 (by decide) ?_
      exact T_iret dX10_line_85 rfl (hQ _ _ h)
  · replace h := h.2 hc
    refine T_iconst dX10_line_11 (by decide) ?_
    exact T_iret dX10_line_12 rfl (hQ _ _ h)

theorem W_X10_degree {G : GT} {d : Nat} (hd : 5 ≤ d) {x1 : Int}   {v : VT} {q : Int → VT → Prop} {Q : Option Vl → List Sh → VT → Prop} (h : P_X10_degree x1 v q) (hQ : ∀ r w, q r w → Q (some (vI r)) SH w) : n_T G d 0 0 mX10_degree 0 [vR 0, vI x1] [] SH v Q := by
  unfold P_X10_degree at h
  refine T_aload_n dX10_degree_0 rfl ?_
  refine T_getR (r := 10) dX10_degree_1 fX10_26 rfl SH_0 rfl ?_
  refine T_iload_n dX10_degree_4 rfl ?_
  refine U_callV (as := [vI x1]) (st := []) dX10_degree_5 kX0_isNode lX10_171 SH_10 rfl rfl rfl rfl (Nat.le_of_ble_eq_true rfl) (Nat.le_of_ble_eq_true rfl) (by omega) ?_
  refine W_X0_isNode (by omega) isG_at10 h (fun r5 h => ?_)
  show n_T G d 0 0 mX10_degree 8 [vR 0, vI x1] [vI r5] SH v Q
  refine U_if_ne (tgt := 13) dX10_degree_8 (by decide) (fun hc => ?_) (fun hc => ?_)
  · replace h := h.1 hc
    refine T_aload_n dX10_degree_13 rfl ?_
    refine U_callV (as := []) (st := []) dX10_degree_14 kX10_measured lX10_203 SH_0 rfl rfl rfl rfl (Nat.le_of_ble_eq_true rfl) (Nat.le_of_ble_eq_true rfl) (by omega) ?_
    refine W_X10_measured (by omega)  h (fun v14 h => ?_)
    show n_T G d 0 0 mX10_degree 17 [vR 0, vI x1] [vR 138] SH v14 Q
    refine T_getR (r := 139) dX10_degree_17 fX10_207 rfl SH_138 rfl ?_
    refine T_iload_n dX10_degree_20 rfl ?_
    refine T_iald dX10_degree_21 SH_139 h.1 ?_
    replace h := h.2
    refine U_callS (as := [vI (v14 139 x1.toNat)]) (st := []) dX10_degree_22 kJ6_bitCount_0f7a4 lX10_210 rfl rfl (Nat.le_of_ble_eq_true rfl) (Nat.le_of_ble_eq_true rfl) (by omega) ?_
    refine W_J6_bitCount_0f7a4 (by omega)  h (fun r22 h => ?_)
    show n_T G d 0 0 mX10_degree 25 [vR 0, vI x1] [vI r22] SH v14 Q
    exact T_iret dX10_degree_25 rfl (hQ _ _ h)
  · replace h := h.2 hc
    refine T_iconst dX10_degree_11 (by decide) ?_
    exact T_iret dX10_degree_12 rfl (hQ _ _ h)

theorem W_X10_areNodes {G : GT} {d : Nat} (hd : 2 ≤ d) {x1 : Int} {x2 : Int}   {v : VT} {q : Int → Prop} {Q : Option Vl → List Sh → VT → Prop} (h : P_X10_areNodes x1 x2 v q) (hQ : ∀ r, q r → Q (some (vI r)) SH v) : n_T G d 0 0 mX10_areNodes 0 [vR 0, vI x1, vI x2] [] SH v Q := by
  unfold P_X10_areNodes at h
  refine T_aload_n dX10_areNodes_0 rfl ?_
  refine T_getR (r := 10) dX10_areNodes_1 fX10_26 rfl SH_0 rfl ?_
  refine T_iload_n dX10_areNodes_4 rfl ?_
  refine U_callV (as := [vI x1]) (st := []) dX10_areNodes_5 kX0_isNode lX10_171 SH_10 rfl rfl rfl rfl (Nat.le_of_ble_eq_true rfl) (Nat.le_of_ble_eq_true rfl) (by omega) ?_
  refine W_X0_isNode (by omega) isG_at10 h (fun r5 h => ?_)
  show n_T G d 0 0 mX10_areNodes 8 [vR 0, vI x1, vI x2] [vI r5] SH v Q
  refine U_if_eq (tgt := 26) dX10_areNodes_8 (by decide) (fun hc => ?_) (fun hc => ?_)
  · replace h := h.1 hc
    refine T_iconst dX10_areNodes_26 (by decide) ?_
    exact T_zret dX10_areNodes_27 rfl (by decide) (hQ _ h)
  · replace h := h.2 hc
    refine T_aload_n dX10_areNodes_11 rfl ?_
    refine T_getR (r := 10) dX10_areNodes_12 fX10_26 rfl SH_0 rfl ?_
    refine T_iload_n dX10_areNodes_15 rfl ?_
    refine U_callV (as := [vI x2]) (st := []) dX10_areNodes_16 kX0_isNode lX10_171 SH_10 rfl rfl rfl rfl (Nat.le_of_ble_eq_true rfl) (Nat.le_of_ble_eq_true rfl) (by omega) ?_
    refine W_X0_isNode (by omega) isG_at10 h (fun r16 h => ?_)
    show n_T G d 0 0 mX10_areNodes 19 [vR 0, vI x1, vI x2] [vI r16] SH v Q
    refine U_if_eq (tgt := 26) dX10_areNodes_19 (by decide) (fun hc => ?_) (fun hc => ?_)
    · replace h := h.1 hc
      refine T_iconst dX10_areNodes_26 (by decide) ?_
      exact T_zret dX10_areNodes_27 rfl (by decide) (hQ _ h)
    · replace h := h.2 hc
      refine T_iconst dX10_areNodes_22 (by decide) ?_
      refine T_goto (tgt := 27) dX10_areNodes_23 (by decide) ?_
      exact T_zret dX10_areNodes_27 rfl (by decide) (hQ _ h)

theorem W_X10_far {G : GT} {d : Nat} (hd : 5 ≤ d) {x1 : Int} {x2 : Int}   {v : VT} {q : Int → VT → Prop} {Q : Option Vl → List Sh → VT → Prop} (h : P_X10_far x1 x2 v q) (hQ : ∀ r w, q r w → Q (some (vI r)) SH w) : n_T G d 0 0 mX10_far 0 [vR 0, vI x1, vI x2] [] SH v Q := by
  unfold P_X10_far at h
  refine T_aload_n dX10_far_0 rfl ?_
  refine T_iload_n dX10_far_1 rfl ?_
  refine T_iload_n dX10_far_2 rfl ?_
  refine U_callV (as := [vI x1, vI x2]) (st := []) dX10_far_3 kX10_areNodes lX10_215 SH_0 rfl rfl rfl rfl (Nat.le_of_ble_eq_true rfl) (Nat.le_of_ble_eq_true rfl) (by omega) ?_
  refine W_X10_areNodes (by omega)  h (fun r3 h => ?_)
  show n_T G d 0 0 mX10_far 6 [vR 0, vI x1, vI x2] [vI r3] SH v Q
  refine U_if_ne (tgt := 11) dX10_far_6 (by decide) (fun hc => ?_) (fun hc => ?_)
  · replace h := h.1 hc
    refine T_aload_n dX10_far_11 rfl ?_
    refine U_callV (as := []) (st := []) dX10_far_12 kX10_measured lX10_203 SH_0 rfl rfl rfl rfl (Nat.le_of_ble_eq_true rfl) (Nat.le_of_ble_eq_true rfl) (by omega) ?_
    refine W_X10_measured (by omega)  h (fun v12 h => ?_)
    show n_T G d 0 0 mX10_far 15 [vR 0, vI x1, vI x2] [vR 138] SH v12 Q
    refine T_getR (r := 140) dX10_far_15 fX10_219 rfl SH_138 rfl ?_
    refine T_iload_n dX10_far_18 rfl ?_
    have hw19 := row_141 h.1
    refine T_aald3 dX10_far_19 SH_140 h.1 (rowq_141 h.1) ?_
    replace h := h.2
    refine T_iload_n dX10_far_20 rfl ?_
    refine T_iald dX10_far_21 hw19 h.1 ?_
    replace h := h.2
    exact T_iret dX10_far_22 rfl (hQ _ _ h)
  · replace h := h.2 hc
    refine T_iconst dX10_far_9 (by decide) ?_
    exact T_iret dX10_far_10 rfl (hQ _ _ h)

theorem W_X10_ways {G : GT} {d : Nat} (hd : 9 ≤ d) {x1 : Int} {x2 : Int}   {v : VT} {q : Int → VT → Prop} {Q : Option Vl → List Sh → VT → Prop} (h : P_X10_ways x1 x2 v q) (hQ : ∀ r w, q r w → Q (some (vI r)) SH w) : n_T G d 0 0 mX10_ways 0 [vR 0, vI x1, vI x2] [] SH v Q := by
  unfold P_X10_ways at h
  refine T_aload_n dX10_ways_0 rfl ?_
  refine T_iload_n dX10_ways_1 rfl ?_
  refine T_iload_n dX10_ways_2 rfl ?_
  refine U_callV (as := [vI x1, vI x2]) (st := []) dX10_ways_3 kX10_areNodes lX10_215 SH_0 rfl rfl rfl rfl (Nat.le_of_ble_eq_true rfl) (Nat.le_of_ble_eq_true rfl) (by omega) ?_
  refine W_X10_areNodes (by omega)  h (fun r3 h => ?_)
  show n_T G d 0 0 mX10_ways 6 [vR 0, vI x1, vI x2] [vI r3] SH v Q
  refine U_if_ne (tgt := 11) dX10_ways_6 (by decide) (fun hc => ?_) (fun hc => ?_)
  · replace h := h.1 hc
    refine T_aload_n dX10_ways_11 rfl ?_
    refine U_callV (as := []) (st := []) dX10_ways_12 kX10_measured lX10_203 SH_0 rfl rfl rfl rfl (Nat.le_of_ble_eq_true rfl) (Nat.le_of_ble_eq_true rfl) (by omega) ?_
    refine W_X10_measured (by omega)  h (fun v12 h => ?_)
    show n_T G d 0 0 mX10_ways 15 [vR 0, vI x1, vI x2] [vR 138] SH v12 Q
    refine T_iload_n dX10_ways_15 rfl ?_
    refine T_iload_n dX10_ways_16 rfl ?_
    refine U_callV (as := [vI x1, vI x2]) (st := []) dX10_ways_17 kX2_countWays lX10_223 SH_138 rfl rfl rfl rfl (Nat.le_of_ble_eq_true rfl) (Nat.le_of_ble_eq_true rfl) (by omega) ?_
    refine W_X2_countWays (by omega)  h (fun r17 v17 h => ?_)
    show n_T G d 0 0 mX10_ways 20 [vR 0, vI x1, vI x2] [vI r17] SH v17 Q
    exact T_iret dX10_ways_20 rfl (hQ _ _ h)
  · replace h := h.2 hc
    refine T_iconst dX10_ways_9 (by decide) ?_
    exact T_iret dX10_ways_10 rfl (hQ _ _ h)

theorem W_X10_between {G : GT} {d : Nat} (hd : 5 ≤ d) {x1 : Int} {x2 : Int}   {v : VT} {q : Int → VT → Prop} {Q : Option Vl → List Sh → VT → Prop} (h : P_X10_between x1 x2 v q) (hQ : ∀ r w, q r w → Q (some (vI r)) SH w) : n_T G d 0 0 mX10_between 0 [vR 0, vI x1, vI x2] [] SH v Q := by
  unfold P_X10_between at h
  refine T_aload_n dX10_between_0 rfl ?_
  refine T_iload_n dX10_between_1 rfl ?_
  refine T_iload_n dX10_between_2 rfl ?_
  refine U_callV (as := [vI x1, vI x2]) (st := []) dX10_between_3 kX10_areNodes lX10_215 SH_0 rfl rfl rfl rfl (Nat.le_of_ble_eq_true rfl) (Nat.le_of_ble_eq_true rfl) (by omega) ?_
  refine W_X10_areNodes (by omega)  h (fun r3 h => ?_)
  show n_T G d 0 0 mX10_between 6 [vR 0, vI x1, vI x2] [vI r3] SH v Q
  refine U_if_ne (tgt := 11) dX10_between_6 (by decide) (fun hc => ?_) (fun hc => ?_)
  · replace h := h.1 hc
    refine T_aload_n dX10_between_11 rfl ?_
    refine U_callV (as := []) (st := []) dX10_between_12 kX10_measured lX10_203 SH_0 rfl rfl rfl rfl (Nat.le_of_ble_eq_true rfl) (Nat.le_of_ble_eq_true rfl) (by omega) ?_
    refine W_X10_measured (by omega)  h (fun v12 h => ?_)
    show n_T G d 0 0 mX10_between 15 [vR 0, vI x1, vI x2] [vR 138] SH v12 Q
    refine T_iload_n dX10_between_15 rfl ?_
    refine T_iload_n dX10_between_16 rfl ?_
    refine U_callV (as := [vI x1, vI x2]) (st := []) dX10_between_17 kX2_amid lX10_226 SH_138 rfl rfl rfl rfl (Nat.le_of_ble_eq_true rfl) (Nat.le_of_ble_eq_true rfl) (by omega) ?_
    refine W_X2_amid (by omega)  h (fun r17 v17 h => ?_)
    show n_T G d 0 0 mX10_between 20 [vR 0, vI x1, vI x2] [vI r17] SH v17 Q
    exact T_iret dX10_between_20 rfl (hQ _ _ h)
  · replace h := h.2 hc
    refine T_iconst dX10_between_9 (by decide) ?_
    exact T_iret dX10_between_10 rfl (hQ _ _ h)

theorem W_X10_reach {G : GT} {d : Nat} (hd : 8 ≤ d) {x1 : Int}   {v : VT} {q : Int → VT → Prop} {Q : Option Vl → List Sh → VT → Prop} (h : P_X10_reach x1 v q) (hQ : ∀ r w, q r w → Q (some (vI r)) SH w) : n_T G d 0 0 mX10_reach 0 [vR 0, vI x1] [] SH v Q := by
  unfold P_X10_reach at h
  refine T_aload_n dX10_reach_0 rfl ?_
  refine T_getR (r := 10) dX10_reach_1 fX10_26 rfl SH_0 rfl ?_
  refine T_iload_n dX10_reach_4 rfl ?_
  refine U_callV (as := [vI x1]) (st := []) dX10_reach_5 kX0_isNode lX10_171 SH_10 rfl rfl rfl rfl (Nat.le_of_ble_eq_true rfl) (Nat.le_of_ble_eq_true rfl) (by omega) ?_
  refine W_X0_isNode (by omega) isG_at10 h (fun r5 h => ?_)
  show n_T G d 0 0 mX10_reach 8 [vR 0, vI x1] [vI r5] SH v Q
  refine U_if_ne (tgt := 13) dX10_reach_8 (by decide) (fun hc => ?_) (fun hc => ?_)
  · replace h := h.1 hc
    refine T_aload_n dX10_reach_13 rfl ?_
    refine U_callV (as := []) (st := []) dX10_reach_14 kX10_measured lX10_203 SH_0 rfl rfl rfl rfl (Nat.le_of_ble_eq_true rfl) (Nat.le_of_ble_eq_true rfl) (by omega) ?_
    refine W_X10_measured (by omega)  h (fun v14 h => ?_)
    show n_T G d 0 0 mX10_reach 17 [vR 0, vI x1] [vR 138] SH v14 Q
    refine T_iload_n dX10_reach_17 rfl ?_
    refine U_callV (as := [vI x1]) (st := []) dX10_reach_18 kX2_mostFrom lX10_229 SH_138 rfl rfl rfl rfl (Nat.le_of_ble_eq_true rfl) (Nat.le_of_ble_eq_true rfl) (by omega) ?_
    refine W_X2_mostFrom (by omega)  h (fun r18 h => ?_)
    show n_T G d 0 0 mX10_reach 21 [vR 0, vI x1] [vI r18] SH v14 Q
    exact T_iret dX10_reach_21 rfl (hQ _ _ h)
  · replace h := h.2 hc
    refine T_iconst dX10_reach_11 (by decide) ?_
    exact T_iret dX10_reach_12 rfl (hQ _ _ h)

theorem W_X10_price {G : GT} {d : Nat} (hd : 9 ≤ d) {x1 : Int} {x2 : Int} {x3 : Int}   {v : VT} {q : Int → VT → Prop} {Q : Option Vl → List Sh → VT → Prop} (h : P_X10_price x1 x2 x3 v q) (hQ : ∀ r w, q r w → Q (some (vI r)) SH w) : n_T G d 0 0 mX10_price 0 [vR 0, vI x1, vI x2, vI x3] [] SH v Q := by
  unfold P_X10_price at h
  refine T_iload_n dX10_price_0 rfl ?_
  refine U_if_lt (tgt := 33) dX10_price_1 (by decide) (fun hc => ?_) (fun hc => ?_)
  · replace h := h.1 hc
    refine T_iconst dX10_price_33 (by decide) ?_
    exact T_iret dX10_price_34 rfl (hQ _ _ h)
  · replace h := h.2 hc
    refine T_iload_n dX10_price_4 rfl ?_
    refine T_iconst dX10_price_5 (by decide) ?_
    refine U_icmp_gt (tgt := 33) dX10_price_6 (by decide) (fun hc => ?_) (fun hc => ?_)
    · replace h := h.1 hc
      refine T_iconst dX10_price_33 (by decide) ?_
      exact T_iret dX10_price_34 rfl (hQ _ _ h)
    · replace h := h.2 hc
      refine T_aload_n dX10_price_9 rfl ?_
      refine T_iload_n dX10_price_10 rfl ?_
      refine T_iload_n dX10_price_11 rfl ?_
      refine U_callV (as := [vI x1, vI x2]) (st := []) dX10_price_12 kX10_areNodes lX10_215 SH_0 rfl rfl rfl rfl (Nat.le_of_ble_eq_true rfl) (Nat.le_of_ble_eq_true rfl) (by omega) ?_
      refine W_X10_areNodes (by omega)  h (fun r12 h => ?_)
      show n_T G d 0 0 mX10_price 15 [vR 0, vI x1, vI x2, vI x3] [vI r12] SH v Q
      refine U_if_eq (tgt := 33) dX10_price_15 (by decide) (fun hc => ?_) (fun hc => ?_)
      · replace h := h.1 hc
        refine T_iconst dX10_price_33 (by decide) ?_
        exact T_iret dX10_price_34 rfl (hQ _ _ h)
      · replace h := h.2 hc
        refine T_aload_n dX10_price_18 rfl ?_
        refine U_callV (as := []) (st := []) dX10_price_19 kX10_measured lX10_203 SH_0 rfl rfl rfl rfl (Nat.le_of_ble_eq_true rfl) (Nat.le_of_ble_eq_true rfl) (by omega) ?_
        refine W_X10_measured (by omega)  h (fun v19 h => ?_)
        show n_T G d 0 0 mX10_price 22 [vR 0, vI x1, vI x2, vI x3] [vR 138] SH v19 Q
        refine T_getR (r := 140) dX10_price_22 fX10_219 rfl SH_138 rfl ?_
        refine T_iload_n dX10_price_25 rfl ?_
        have hw26 := row_141 h.1
        refine T_aald3 dX10_price_26 SH_140 h.1 (rowq_141 h.1) ?_
        replace h := h.2
        refine T_iload_n dX10_price_27 rfl ?_
        refine T_iald dX10_price_28 hw26 h.1 ?_
        replace h := h.2
        refine T_iconst dX10_price_29 (by decide) ?_
        refine U_icmp_ne (tgt := 35) dX10_price_30 (by decide) (fun hc => ?_) (fun hc => ?_)
        · replace h := h.1 hc
          refine T_aload_n dX10_price_35 rfl ?_
          refine T_getR (r := 200) dX10_price_36 fX10_61 rfl SH_0 rfl ?_
          refine T_aload_n dX10_price_39 rfl ?_
          refine T_getR (r := 10) dX10_price_40 fX10_26 rfl SH_0 rfl ?_
          refine T_iload_n dX10_price_43 rfl ?_
          refine T_iload_n dX10_price_44 rfl ?_
          refine T_iconst dX10_price_45 (by decide) ?_
          refine U_icmp_ne (tgt := 53) dX10_price_46 (by decide) (fun hc => ?_) (fun hc => ?_)
          · replace h := h.1 hc
            refine T_iconst dX10_price_53 (by decide) ?_
            refine U_callV (as := [vR 10, vI x2, vI 0]) (st := []) dX10_price_54 kX6_weigh lX10_232 SH_200 rfl rfl rfl rfl (Nat.le_of_ble_eq_true rfl) (Nat.le_of_ble_eq_true rfl) (by omega) ?_
            refine W_X6_weigh (by omega)  h (fun v54 h => ?_)
            show n_T G d 0 0 mX10_price 57 [vR 0, vI x1, vI x2, vI x3] [] SH v54 Q
            refine T_aload_n dX10_price_57 rfl ?_
            refine T_getR (r := 200) dX10_price_58 fX10_61 rfl SH_0 rfl ?_
            refine T_getR (r := 201) dX10_price_61 fX10_236 rfl SH_200 rfl ?_
            refine T_iload_n dX10_price_64 rfl ?_
            refine T_iald dX10_price_65 SH_201 h.1 ?_
            replace h := h.2
            exact T_iret dX10_price_66 rfl (hQ _ _ h)
          · replace h := h.2 hc
            refine T_iconst dX10_price_49 (by decide) ?_
            refine T_goto (tgt := 54) dX10_price_50 (by decide) ?_
            refine U_callV (as := [vR 10, vI x2, vI 1]) (st := []) dX10_price_54 kX6_weigh lX10_232 SH_200 rfl rfl rfl rfl (Nat.le_of_ble_eq_true rfl) (Nat.le_of_ble_eq_true rfl) (by omega) ?_
            refine W_X6_weigh (by omega)  h (fun v54_1 h => ?_)
            show n_T G d 0 0 mX10_price 57 [vR 0, vI x1, vI x2, vI x3] [] SH v54_1 Q
            refine T_aload_n dX10_price_57 rfl ?_
            refine T_getR (r := 200) dX10_price_58 fX10_61 rfl SH_0 rfl ?_
            refine T_getR (r := 201) dX10_price_61 fX10_236 rfl SH_200 rfl ?_
            refine T_iload_n dX10_price_64 rfl ?_
            refine T_iald dX10_price_65 SH_201 h.1 ?_
            replace h := h.2
            exact T_iret dX10_price_66 rfl (hQ _ _ h)
        · replace h := h.2 hc
          refine T_iconst dX10_price_33 (by decide) ?_
          exact T_iret dX10_price_34 rfl (hQ _ _ h)

theorem W_X10_road {G : GT} {d : Nat} (hd : 9 ≤ d) {x1 : Int} {x2 : Int} {x3 : Int}   {v : VT} {q : Int → VT → Prop} {Q : Option Vl → List Sh → VT → Prop} (h : P_X10_road x1 x2 x3 v q) (hQ : ∀ r w, q r w → Q (some (vI r)) SH w) : n_T G d 0 0 mX10_road 0 [vR 0, vI x1, vI x2, vI x3] [] SH v Q := by
  unfold P_X10_road at h
  refine T_iload_n dX10_road_0 rfl ?_
  refine T_iconst dX10_road_1 (by decide) ?_
  refine U_icmp_lt (tgt := 35) dX10_road_2 (by decide) (fun hc => ?_) (fun hc => ?_)
  · replace h := h.1 hc
    refine T_iconst dX10_road_35 (by decide) ?_
    exact T_iret dX10_road_36 rfl (hQ _ _ h)
  · replace h := h.2 hc
    refine T_iload_n dX10_road_5 rfl ?_
    refine T_bipush dX10_road_6 (by decide) ?_
    refine U_icmp_ge (tgt := 35) dX10_road_8 (by decide) (fun hc => ?_) (fun hc => ?_)
    · replace h := h.1 hc
      refine T_iconst dX10_road_35 (by decide) ?_
      exact T_iret dX10_road_36 rfl (hQ _ _ h)
    · replace h := h.2 hc
      refine T_aload_n dX10_road_11 rfl ?_
      refine T_iload_n dX10_road_12 rfl ?_
      refine T_iload_n dX10_road_13 rfl ?_
      refine U_callV (as := [vI x1, vI x2]) (st := []) dX10_road_14 kX10_areNodes lX10_215 SH_0 rfl rfl rfl rfl (Nat.le_of_ble_eq_true rfl) (Nat.le_of_ble_eq_true rfl) (by omega) ?_
      refine W_X10_areNodes (by omega)  h (fun r14 h => ?_)
      show n_T G d 0 0 mX10_road 17 [vR 0, vI x1, vI x2, vI x3] [vI r14] SH v Q
      refine U_if_eq (tgt := 35) dX10_road_17 (by decide) (fun hc => ?_) (fun hc => ?_)
      · replace h := h.1 hc
        refine T_iconst dX10_road_35 (by decide) ?_
        exact T_iret dX10_road_36 rfl (hQ _ _ h)
      · replace h := h.2 hc
        refine T_aload_n dX10_road_20 rfl ?_
        refine U_callV (as := []) (st := []) dX10_road_21 kX10_measured lX10_203 SH_0 rfl rfl rfl rfl (Nat.le_of_ble_eq_true rfl) (Nat.le_of_ble_eq_true rfl) (by omega) ?_
        refine W_X10_measured (by omega)  h (fun v21 h => ?_)
        show n_T G d 0 0 mX10_road 24 [vR 0, vI x1, vI x2, vI x3] [vR 138] SH v21 Q
        refine T_getR (r := 140) dX10_road_24 fX10_219 rfl SH_138 rfl ?_
        refine T_iload_n dX10_road_27 rfl ?_
        have hw28 := row_141 h.1
        refine T_aald3 dX10_road_28 SH_140 h.1 (rowq_141 h.1) ?_
        replace h := h.2
        refine T_iload_n dX10_road_29 rfl ?_
        refine T_iald dX10_road_30 hw28 h.1 ?_
        replace h := h.2
        refine T_iconst dX10_road_31 (by decide) ?_
        refine U_icmp_ne (tgt := 37) dX10_road_32 (by decide) (fun hc => ?_) (fun hc => ?_)
        · replace h := h.1 hc
          refine T_aload_n dX10_road_37 rfl ?_
          refine T_getR (r := 200) dX10_road_38 fX10_61 rfl SH_0 rfl ?_
          refine T_aload_n dX10_road_41 rfl ?_
          refine T_getR (r := 10) dX10_road_42 fX10_26 rfl SH_0 rfl ?_
          refine T_iload_n dX10_road_45 rfl ?_
          refine T_iconst dX10_road_46 (by decide) ?_
          refine U_callV (as := [vR 10, vI x2, vI 0]) (st := []) dX10_road_47 kX6_weigh lX10_232 SH_200 rfl rfl rfl rfl (Nat.le_of_ble_eq_true rfl) (Nat.le_of_ble_eq_true rfl) (by omega) ?_
          refine W_X6_weigh (by omega)  h (fun v47 h => ?_)
          show n_T G d 0 0 mX10_road 50 [vR 0, vI x1, vI x2, vI x3] [] SH v47 Q
          refine T_aload_n dX10_road_50 rfl ?_
          refine T_getR (r := 200) dX10_road_51 fX10_61 rfl SH_0 rfl ?_
          refine T_aload_n dX10_road_54 rfl ?_
          refine T_getR (r := 10) dX10_road_55 fX10_26 rfl SH_0 rfl ?_
          refine T_iload_n dX10_road_58 rfl ?_
          refine T_iload_n dX10_road_59 rfl ?_
          refine U_callV (as := [vR 10, vI x1, vI x2]) (st := []) dX10_road_60 kX6_walk lX10_239 SH_200 rfl rfl rfl rfl (Nat.le_of_ble_eq_true rfl) (Nat.le_of_ble_eq_true rfl) (by omega) ?_
          refine W_X6_walk (by omega)  h (fun v60 h => ?_)
          show n_T G d 0 0 mX10_road 63 [vR 0, vI x1, vI x2, vI x3] [] SH v60 Q
          refine T_iload_n dX10_road_63 rfl ?_
          refine T_iconst dX10_road_64 (by decide) ?_
          refine U_icmp_ne (tgt := 76) dX10_road_65 (by decide) (fun hc => ?_) (fun hc => ?_)
          · replace h := h.1 hc
            refine T_iload_n dX10_road_76 rfl ?_
            refine T_aload_n dX10_road_77 rfl ?_
            refine T_getR (r := 200) dX10_road_78 fX10_61 rfl SH_0 rfl ?_
            refine T_getI dX10_road_81 fX10_243 rfl SH_200 ?_
            refine U_icmp_ge (tgt := 99) dX10_road_84 (by decide) (fun hc => ?_) (fun hc => ?_)
            · replace h := h.1 hc
              refine T_iconst dX10_road_99 (by decide) ?_
              exact T_iret dX10_road_100 rfl (hQ _ _ h)
            · replace h := h.2 hc
              refine T_aload_n dX10_road_87 rfl ?_
              refine T_getR (r := 200) dX10_road_88 fX10_61 rfl SH_0 rfl ?_
              refine T_getR (r := 202) dX10_road_91 fX10_244 rfl SH_200 rfl ?_
              refine T_iload_n dX10_road_94 rfl ?_
              refine T_iald dX10_road_95 SH_202 h.1 ?_
              replace h := h.2
              refine T_goto (tgt := 100) dX10_road_96 (by decide) ?_
              exact T_iret dX10_road_100 rfl (hQ _ _ h)
          · replace h := h.2 hc
            refine T_aload_n dX10_road_68 rfl ?_
            refine T_getR (r := 200) dX10_road_69 fX10_61 rfl SH_0 rfl ?_
            refine T_getI dX10_road_72 fX10_243 rfl SH_200 ?_
            exact T_iret dX10_road_75 rfl (hQ _ _ h)
        · replace h := h.2 hc
          refine T_iconst dX10_road_35 (by decide) ?_
          exact T_iret dX10_road_36 rfl (hQ _ _ h)

theorem W_X10_spread {G : GT} {d : Nat} (hd : 8 ≤ d)    {v : VT} {q : Int → VT → Prop} {Q : Option Vl → List Sh → VT → Prop} (h : P_X10_spread  v q) (hQ : ∀ r w, q r w → Q (some (vI r)) SH w) : n_T G d 0 0 mX10_spread 0 [vR 0] [] SH v Q := by
  unfold P_X10_spread at h
  refine T_aload_n dX10_spread_0 rfl ?_
  refine U_callV (as := []) (st := []) dX10_spread_1 kX10_measured lX10_203 SH_0 rfl rfl rfl rfl (Nat.le_of_ble_eq_true rfl) (Nat.le_of_ble_eq_true rfl) (by omega) ?_
  refine W_X10_measured (by omega)  h (fun v1 h => ?_)
  show n_T G d 0 0 mX10_spread 4 [vR 0] [vR 138] SH v1 Q
  refine U_callV (as := []) (st := []) dX10_spread_4 kX2_sumAll lX10_247 SH_138 rfl rfl rfl rfl (Nat.le_of_ble_eq_true rfl) (Nat.le_of_ble_eq_true rfl) (by omega) ?_
  refine W_X2_sumAll (by omega)  h (fun r4 h => ?_)
  show n_T G d 0 0 mX10_spread 7 [vR 0] [vI r4] SH v1 Q
  exact T_iret dX10_spread_7 rfl (hQ _ _ h)

theorem W_X10_alike {G : GT} {d : Nat} (hd : 5 ≤ d) {x1 : Int} {x2 : Int}   {v : VT} {q : Int → VT → Prop} {Q : Option Vl → List Sh → VT → Prop} (h : P_X10_alike x1 x2 v q) (hQ : ∀ r w, q r w → Q (some (vI r)) SH w) : n_T G d 0 0 mX10_alike 0 [vR 0, vI x1, vI x2] [] SH v Q := by
  unfold P_X10_alike at h
  refine T_aload_n dX10_alike_0 rfl ?_
  refine T_getR (r := 10) dX10_alike_1 fX10_26 rfl SH_0 rfl ?_
  refine T_iload_n dX10_alike_4 rfl ?_
  refine U_callV (as := [vI x1]) (st := []) dX10_alike_5 kX0_isLine lX10_188 SH_10 rfl rfl rfl rfl (Nat.le_of_ble_eq_true rfl) (Nat.le_of_ble_eq_true rfl) (by omega) ?_
  refine W_X0_isLine (by omega) isG_at10 h (fun r5 h => ?_)
  show n_T G d 0 0 mX10_alike 8 [vR 0, vI x1, vI x2] [vI r5] SH v Q
  refine U_if_eq (tgt := 22) dX10_alike_8 (by decide) (fun hc => ?_) (fun hc => ?_)
  · replace h := h.1 hc
    refine T_iconst dX10_alike_22 (by decide) ?_
    exact T_iret dX10_alike_23 rfl (hQ _ _ h)
  · replace h := h.2 hc
    refine T_aload_n dX10_alike_11 rfl ?_
    refine T_getR (r := 10) dX10_alike_12 fX10_26 rfl SH_0 rfl ?_
    refine T_iload_n dX10_alike_15 rfl ?_
    refine U_callV (as := [vI x2]) (st := []) dX10_alike_16 kX0_isLine lX10_188 SH_10 rfl rfl rfl rfl (Nat.le_of_ble_eq_true rfl) (Nat.le_of_ble_eq_true rfl) (by omega) ?_
    refine W_X0_isLine (by omega) isG_at10 h (fun r16 h => ?_)
    show n_T G d 0 0 mX10_alike 19 [vR 0, vI x1, vI x2] [vI r16] SH v Q
    refine U_if_ne (tgt := 24) dX10_alike_19 (by decide) (fun hc => ?_) (fun hc => ?_)
    · replace h := h.1 hc
      refine T_aload_n dX10_alike_24 rfl ?_
      refine U_callV (as := []) (st := []) dX10_alike_25 kX10_measured lX10_203 SH_0 rfl rfl rfl rfl (Nat.le_of_ble_eq_true rfl) (Nat.le_of_ble_eq_true rfl) (by omega) ?_
      refine W_X10_measured (by omega)  h (fun v25 h => ?_)
      show n_T G d 0 0 mX10_alike 28 [vR 0, vI x1, vI x2] [vR 138] SH v25 Q
      refine T_aload_n dX10_alike_28 rfl ?_
      refine T_getR (r := 10) dX10_alike_29 fX10_26 rfl SH_0 rfl ?_
      refine T_iload_n dX10_alike_32 rfl ?_
      refine T_iload_n dX10_alike_33 rfl ?_
      refine U_callV (as := [vR 10, vI x1, vI x2]) (st := []) dX10_alike_34 kX2_areAlike lX10_251 SH_138 rfl rfl rfl rfl (Nat.le_of_ble_eq_true rfl) (Nat.le_of_ble_eq_true rfl) (by omega) ?_
      refine W_X2_areAlike (by omega)  h (fun r34 h => ?_)
      show n_T G d 0 0 mX10_alike 37 [vR 0, vI x1, vI x2] [vI r34] SH v25 Q
      refine U_if_eq (tgt := 44) dX10_alike_37 (by decide) (fun hc => ?_) (fun hc => ?_)
      · replace h := h.1 hc
        refine T_iconst dX10_alike_44 (by decide) ?_
        exact T_iret dX10_alike_45 rfl (hQ _ _ h)
      · replace h := h.2 hc
        refine T_iconst dX10_alike_40 (by decide) ?_
        refine T_goto (tgt := 45) dX10_alike_41 (by decide) ?_
        exact T_iret dX10_alike_45 rfl (hQ _ _ h)
    · replace h := h.2 hc
      refine T_iconst dX10_alike_22 (by decide) ?_
      exact T_iret dX10_alike_23 rfl (hQ _ _ h)

theorem W_X10_isKind {G : GT} {d : Nat} (hd : 6 ≤ d) {x1 : Int}   {v : VT} {q : Int → VT → Prop} {Q : Option Vl → List Sh → VT → Prop} (h : P_X10_isKind x1 v q) (hQ : ∀ r w, q r w → Q (some (vI r)) SH w) : n_T G d 0 0 mX10_isKind 0 [vR 0, vI x1] [] SH v Q := by
  unfold P_X10_isKind at h
  refine T_iload_n dX10_isKind_0 rfl ?_
  refine U_if_lt (tgt := 19) dX10_isKind_1 (by decide) (fun hc => ?_) (fun hc => ?_)
  · replace h := h.1 hc
    refine T_iconst dX10_isKind_19 (by decide) ?_
    exact T_zret dX10_isKind_20 rfl (by decide) (hQ _ _ h)
  · replace h := h.2 hc
    refine T_iload_n dX10_isKind_4 rfl ?_
    refine T_aload_n dX10_isKind_5 rfl ?_
    refine U_callV (as := []) (st := [vI x1]) dX10_isKind_6 kX10_sorted lX10_152 SH_0 rfl rfl rfl rfl (Nat.le_of_ble_eq_true rfl) (Nat.le_of_ble_eq_true rfl) (by omega) ?_
    refine W_X10_sorted (by omega)  h (fun v6 h => ?_)
    show n_T G d 0 0 mX10_isKind 9 [vR 0, vI x1] [vR 191, vI x1] SH v6 Q
    refine T_getI dX10_isKind_9 fX10_156 rfl SH_191 ?_
    refine U_icmp_ge (tgt := 19) dX10_isKind_12 (by decide) (fun hc => ?_) (fun hc => ?_)
    · replace h := h.1 hc
      refine T_iconst dX10_isKind_19 (by decide) ?_
      exact T_zret dX10_isKind_20 rfl (by decide) (hQ _ _ h)
    · replace h := h.2 hc
      refine T_iconst dX10_isKind_15 (by decide) ?_
      refine T_goto (tgt := 20) dX10_isKind_16 (by decide) ?_
      exact T_zret dX10_isKind_20 rfl (by decide) (hQ _ _ h)

theorem W_X10_isDirection {G : GT} {d : Nat} (hd : 6 ≤ d) {x1 : Int}   {v : VT} {q : Int → VT → Prop} {Q : Option Vl → List Sh → VT → Prop} (h : P_X10_isDirection x1 v q) (hQ : ∀ r w, q r w → Q (some (vI r)) SH w) : n_T G d 0 0 mX10_isDirection 0 [vR 0, vI x1] [] SH v Q := by
  unfold P_X10_isDirection at h
  refine T_aload_n dX10_isDirection_0 rfl ?_
  refine U_callV (as := []) (st := []) dX10_isDirection_1 kX10_seated lX10_160 SH_0 rfl rfl rfl rfl (Nat.le_of_ble_eq_true rfl) (Nat.le_of_ble_eq_true rfl) (by omega) ?_
  refine W_X10_seated (by omega)  h (fun v1 h => ?_)
  show n_T G d 0 0 mX10_isDirection 4 [vR 0, vI x1] [vR 197] SH v1 Q
  refine T_getI dX10_isDirection_4 fX10_279 rfl SH_197 ?_
  refine U_if_eq (tgt := 29) dX10_isDirection_7 (by decide) (fun hc => ?_) (fun hc => ?_)
  · replace h := h.1 hc
    refine T_iconst dX10_isDirection_29 (by decide) ?_
    exact T_zret dX10_isDirection_30 rfl (by decide) (hQ _ _ h)
  · replace h := h.2 hc
    refine T_iload_n dX10_isDirection_10 rfl ?_
    refine U_if_lt (tgt := 29) dX10_isDirection_11 (by decide) (fun hc => ?_) (fun hc => ?_)
    · replace h := h.1 hc
      refine T_iconst dX10_isDirection_29 (by decide) ?_
      exact T_zret dX10_isDirection_30 rfl (by decide) (hQ _ _ h)
    · replace h := h.2 hc
      refine T_iload_n dX10_isDirection_14 rfl ?_
      refine T_aload_n dX10_isDirection_15 rfl ?_
      refine T_getR (r := 197) dX10_isDirection_16 fX10_54 rfl SH_0 rfl ?_
      refine T_getI dX10_isDirection_19 fX10_311 rfl SH_197 ?_
      refine U_icmp_ge (tgt := 29) dX10_isDirection_22 (by decide) (fun hc => ?_) (fun hc => ?_)
      · replace h := h.1 hc
        refine T_iconst dX10_isDirection_29 (by decide) ?_
        exact T_zret dX10_isDirection_30 rfl (by decide) (hQ _ _ h)
      · replace h := h.2 hc
        refine T_iconst dX10_isDirection_25 (by decide) ?_
        refine T_goto (tgt := 30) dX10_isDirection_26 (by decide) ?_
        exact T_zret dX10_isDirection_30 rfl (by decide) (hQ _ _ h)

theorem W_X10_sort {G : GT} {d : Nat} (hd : 7 ≤ d) {x1 : Int} {x2 : Int}   {v : VT} {q : Int → VT → Prop} {Q : Option Vl → List Sh → VT → Prop} (h : P_X10_sort x1 x2 v q) (hQ : ∀ r w, q r w → Q (some (vI r)) SH w) : n_T G d 0 0 mX10_sort 0 [vR 0, vI x1, vI x2] [] SH v Q := by
  unfold P_X10_sort at h
  refine T_aload_n dX10_sort_0 rfl ?_
  refine T_iload_n dX10_sort_1 rfl ?_
  refine U_callV (as := [vI x1]) (st := []) dX10_sort_2 kX10_isKind lX10_255 SH_0 rfl rfl rfl rfl (Nat.le_of_ble_eq_true rfl) (Nat.le_of_ble_eq_true rfl) (by omega) ?_
  refine W_X10_isKind (by omega)  h (fun r2 v2 h => ?_)
  show n_T G d 0 0 mX10_sort 5 [vR 0, vI x1, vI x2] [vI r2] SH v2 Q
  refine U_if_ne (tgt := 10) dX10_sort_5 (by decide) (fun hc => ?_) (fun hc => ?_)
  · replace h := h.1 hc
    refine T_iload_n dX10_sort_10 rfl ?_
    rcases (by omega : x2 = 0 ∨ x2 = 1 ∨ x2 = 2 ∨ x2 = 3 ∨ (x2 < 0 ∨ 3 < x2)) with hc | hc | hc | hc | hc
    · refine U_tab (tgt := 40) dX10_sort_11 0 hc (by decide) rfl (by decide) ?_
      replace h := h.1 hc
      refine T_aload_n dX10_sort_40 rfl ?_
      refine T_getR (r := 191) dX10_sort_41 fX10_47 rfl SH_0 rfl ?_
      refine T_getR (r := 193) dX10_sort_44 fX10_258 rfl SH_191 rfl ?_
      refine T_iload_n dX10_sort_47 rfl ?_
      refine T_iald dX10_sort_48 SH_193 h.1 ?_
      replace h := h.2
      exact T_iret dX10_sort_49 rfl (hQ _ _ h)
    · refine U_tab (tgt := 50) dX10_sort_11 1 hc (by decide) rfl (by decide) ?_
      replace h := h.2.1 hc
      refine T_aload_n dX10_sort_50 rfl ?_
      refine T_getR (r := 191) dX10_sort_51 fX10_47 rfl SH_0 rfl ?_
      refine T_getR (r := 194) dX10_sort_54 fX10_261 rfl SH_191 rfl ?_
      refine T_iload_n dX10_sort_57 rfl ?_
      refine T_iald dX10_sort_58 SH_194 h.1 ?_
      replace h := h.2
      exact T_iret dX10_sort_59 rfl (hQ _ _ h)
    · refine U_tab (tgt := 60) dX10_sort_11 2 hc (by decide) rfl (by decide) ?_
      replace h := h.2.2.1 hc
      refine T_aload_n dX10_sort_60 rfl ?_
      refine T_iload_n dX10_sort_61 rfl ?_
      refine U_callV (as := [vI x1]) (st := []) dX10_sort_62 kX10_isDirection lX10_264 SH_0 rfl rfl rfl rfl (Nat.le_of_ble_eq_true rfl) (Nat.le_of_ble_eq_true rfl) (by omega) ?_
      refine W_X10_isDirection (by omega)  h (fun r62 v62 h => ?_)
      show n_T G d 0 0 mX10_sort 65 [vR 0, vI x1, vI x2] [vI r62] SH v62 Q
      refine U_if_eq (tgt := 79) dX10_sort_65 (by decide) (fun hc => ?_) (fun hc => ?_)
      · replace h := h.1 hc
        refine T_iconst dX10_sort_79 (by decide) ?_
        exact T_iret dX10_sort_80 rfl (hQ _ _ h)
      · replace h := h.2 hc
        refine T_aload_n dX10_sort_68 rfl ?_
        refine T_getR (r := 197) dX10_sort_69 fX10_54 rfl SH_0 rfl ?_
        refine T_iload_n dX10_sort_72 rfl ?_
        refine U_callV (as := [vI x1]) (st := []) dX10_sort_73 kX8_costOf lX10_267 SH_197 rfl rfl rfl rfl (Nat.le_of_ble_eq_true rfl) (Nat.le_of_ble_eq_true rfl) (by omega) ?_
        refine W_X8_costOf (by omega)  h (fun r73 h => ?_)
        show n_T G d 0 0 mX10_sort 76 [vR 0, vI x1, vI x2] [vI r73] SH v62 Q
        refine T_goto (tgt := 80) dX10_sort_76 (by decide) ?_
        exact T_iret dX10_sort_80 rfl (hQ _ _ h)
    · refine U_tab (tgt := 81) dX10_sort_11 3 hc (by decide) rfl (by decide) ?_
      replace h := h.2.2.2.1 hc
      refine T_aload_n dX10_sort_81 rfl ?_
      refine T_iload_n dX10_sort_82 rfl ?_
      refine U_callV (as := [vI x1]) (st := []) dX10_sort_83 kX10_isDirection lX10_264 SH_0 rfl rfl rfl rfl (Nat.le_of_ble_eq_true rfl) (Nat.le_of_ble_eq_true rfl) (by omega) ?_
      refine W_X10_isDirection (by omega)  h (fun r83 v83 h => ?_)
      show n_T G d 0 0 mX10_sort 86 [vR 0, vI x1, vI x2] [vI r83] SH v83 Q
      refine U_if_eq (tgt := 101) dX10_sort_86 (by decide) (fun hc => ?_) (fun hc => ?_)
      · replace h := h.1 hc
        refine T_iconst dX10_sort_101 (by decide) ?_
        exact T_iret dX10_sort_102 rfl (hQ _ _ h)
      · replace h := h.2 hc
        refine T_aload_n dX10_sort_89 rfl ?_
        refine T_getR (r := 197) dX10_sort_90 fX10_54 rfl SH_0 rfl ?_
        refine T_getR (r := 199) dX10_sort_93 fX10_270 rfl SH_197 rfl ?_
        refine T_iload_n dX10_sort_96 rfl ?_
        refine T_iald dX10_sort_97 SH_199 h.1 ?_
        replace h := h.2
        refine T_goto (tgt := 102) dX10_sort_98 (by decide) ?_
        exact T_iret dX10_sort_102 rfl (hQ _ _ h)
    · refine T_tabOut (tgt := 103) dX10_sort_11 hc (by decide) ?_
      replace h := h.2.2.2.2 hc
      refine T_iconst dX10_sort_103 (by decide) ?_
      exact T_iret dX10_sort_104 rfl (hQ _ _ h)
  · replace h := h.2 hc
    refine T_iconst dX10_sort_8 (by decide) ?_
    exact T_iret dX10_sort_9 rfl (hQ _ _ h)

theorem W_X10_shows {G : GT} {d : Nat} (hd : 6 ≤ d) {x1 : Int}   {v : VT} {q : Int → VT → Prop} {Q : Option Vl → List Sh → VT → Prop} (h : P_X10_shows x1 v q) (hQ : ∀ r w, q r w → Q (some (vI r)) SH w) : n_T G d 0 0 mX10_shows 0 [vR 0, vI x1] [] SH v Q := by
  unfold P_X10_shows at h
  refine T_aload_n dX10_shows_0 rfl ?_
  refine U_callV (as := []) (st := []) dX10_shows_1 kX10_seated lX10_160 SH_0 rfl rfl rfl rfl (Nat.le_of_ble_eq_true rfl) (Nat.le_of_ble_eq_true rfl) (by omega) ?_
  refine W_X10_seated (by omega)  h (fun v1 h => ?_)
  show n_T G d 0 0 mX10_shows 4 [vR 0, vI x1] [vR 197] SH v1 Q
  refine T_getI dX10_shows_4 fX10_164 rfl SH_197 ?_
  refine U_if_ne (tgt := 12) dX10_shows_7 (by decide) (fun hc => ?_) (fun hc => ?_)
  · replace h := h.1 hc
    refine T_iload_n dX10_shows_12 rfl ?_
    refine U_if_ne (tgt := 24) dX10_shows_13 (by decide) (fun hc => ?_) (fun hc => ?_)
    · replace h := h.1 hc
      refine T_iload_n dX10_shows_24 rfl ?_
      refine T_iconst dX10_shows_25 (by decide) ?_
      refine U_icmp_ne (tgt := 39) dX10_shows_26 (by decide) (fun hc => ?_) (fun hc => ?_)
      · replace h := h.1 hc
        refine T_iconst dX10_shows_39 (by decide) ?_
        exact T_iret dX10_shows_40 rfl (hQ _ _ h)
      · replace h := h.2 hc
        refine T_aload_n dX10_shows_29 rfl ?_
        refine T_getR (r := 197) dX10_shows_30 fX10_54 rfl SH_0 rfl ?_
        refine T_getI dX10_shows_33 fX10_276 rfl SH_197 ?_
        refine T_goto (tgt := 40) dX10_shows_36 (by decide) ?_
        exact T_iret dX10_shows_40 rfl (hQ _ _ h)
    · replace h := h.2 hc
      refine T_aload_n dX10_shows_16 rfl ?_
      refine T_getR (r := 197) dX10_shows_17 fX10_54 rfl SH_0 rfl ?_
      refine T_getI dX10_shows_20 fX10_273 rfl SH_197 ?_
      exact T_iret dX10_shows_23 rfl (hQ _ _ h)
  · replace h := h.2 hc
    refine T_iconst dX10_shows_10 (by decide) ?_
    exact T_iret dX10_shows_11 rfl (hQ _ _ h)

theorem W_X10_sides {G : GT} {d : Nat} (hd : 6 ≤ d) {x1 : Int}   {v : VT} {q : Int → VT → Prop} {Q : Option Vl → List Sh → VT → Prop} (h : P_X10_sides x1 v q) (hQ : ∀ r w, q r w → Q (some (vI r)) SH w) : n_T G d 0 0 mX10_sides 0 [vR 0, vI x1] [] SH v Q := by
  unfold P_X10_sides at h
  refine T_aload_n dX10_sides_0 rfl ?_
  refine U_callV (as := []) (st := []) dX10_sides_1 kX10_seated lX10_160 SH_0 rfl rfl rfl rfl (Nat.le_of_ble_eq_true rfl) (Nat.le_of_ble_eq_true rfl) (by omega) ?_
  refine W_X10_seated (by omega)  h (fun v1 h => ?_)
  show n_T G d 0 0 mX10_sides 4 [vR 0, vI x1] [vR 197] SH v1 Q
  refine T_getI dX10_sides_4 fX10_279 rfl SH_197 ?_
  refine U_if_eq (tgt := 21) dX10_sides_7 (by decide) (fun hc => ?_) (fun hc => ?_)
  · replace h := h.1 hc
    refine T_iconst dX10_sides_21 (by decide) ?_
    exact T_iret dX10_sides_22 rfl (hQ _ _ h)
  · replace h := h.2 hc
    refine T_aload_n dX10_sides_10 rfl ?_
    refine T_getR (r := 10) dX10_sides_11 fX10_26 rfl SH_0 rfl ?_
    refine T_iload_n dX10_sides_14 rfl ?_
    refine U_callV (as := [vI x1]) (st := []) dX10_sides_15 kX0_isNode lX10_171 SH_10 rfl rfl rfl rfl (Nat.le_of_ble_eq_true rfl) (Nat.le_of_ble_eq_true rfl) (by omega) ?_
    refine W_X0_isNode (by omega) isG_at10 h (fun r15 h => ?_)
    show n_T G d 0 0 mX10_sides 18 [vR 0, vI x1] [vI r15] SH v1 Q
    refine U_if_ne (tgt := 23) dX10_sides_18 (by decide) (fun hc => ?_) (fun hc => ?_)
    · replace h := h.1 hc
      refine T_aload_n dX10_sides_23 rfl ?_
      refine T_getR (r := 197) dX10_sides_24 fX10_54 rfl SH_0 rfl ?_
      refine T_getR (r := 198) dX10_sides_27 fX10_283 rfl SH_197 rfl ?_
      refine T_iload_n dX10_sides_30 rfl ?_
      refine T_iald dX10_sides_31 SH_198 h.1 ?_
      replace h := h.2
      exact T_iret dX10_sides_32 rfl (hQ _ _ h)
    · replace h := h.2 hc
      refine T_iconst dX10_sides_21 (by decide) ?_
      exact T_iret dX10_sides_22 rfl (hQ _ _ h)

theorem W_X10_at {G : GT} {d : Nat} (hd : 6 ≤ d) {x1 : Int}   {v : VT} {q : Int → VT → Prop} {Q : Option Vl → List Sh → VT → Prop} (h : P_X10_at x1 v q) (hQ : ∀ r w, q r w → Q (some (vI r)) SH w) : n_T G d 0 0 mX10_at 0 [vR 0, vI x1] [] SH v Q := by
  unfold P_X10_at at h
  refine T_aload_n dX10_at_0 rfl ?_
  refine U_callV (as := []) (st := []) dX10_at_1 kX10_seated lX10_160 SH_0 rfl rfl rfl rfl (Nat.le_of_ble_eq_true rfl) (Nat.le_of_ble_eq_true rfl) (by omega) ?_
  refine W_X10_seated (by omega)  h (fun v1 h => ?_)
  show n_T G d 0 0 mX10_at 4 [vR 0, vI x1] [vR 197] SH v1 Q
  refine T_getI dX10_at_4 fX10_279 rfl SH_197 ?_
  refine U_if_eq (tgt := 21) dX10_at_7 (by decide) (fun hc => ?_) (fun hc => ?_)
  · replace h := h.1 hc
    refine T_iconst dX10_at_21 (by decide) ?_
    exact T_iret dX10_at_22 rfl (hQ _ _ h)
  · replace h := h.2 hc
    refine T_aload_n dX10_at_10 rfl ?_
    refine T_getR (r := 197) dX10_at_11 fX10_54 rfl SH_0 rfl ?_
    refine T_iload_n dX10_at_14 rfl ?_
    refine U_callV (as := [vI x1]) (st := []) dX10_at_15 kX8_nodeAt lX10_286 SH_197 rfl rfl rfl rfl (Nat.le_of_ble_eq_true rfl) (Nat.le_of_ble_eq_true rfl) (by omega) ?_
    refine W_X8_nodeAt (by omega)  h (fun r15 h => ?_)
    show n_T G d 0 0 mX10_at 18 [vR 0, vI x1] [vI r15] SH v1 Q
    refine T_goto (tgt := 22) dX10_at_18 (by decide) ?_
    exact T_iret dX10_at_22 rfl (hQ _ _ h)

theorem W_X10_cross {G : GT} {d : Nat} (hd : 7 ≤ d) {x1 : Int} {x2 : Int}   {v : VT} {q : Int → VT → Prop} {Q : Option Vl → List Sh → VT → Prop} (h : P_X10_cross x1 x2 v q) (hQ : ∀ r w, q r w → Q (some (vI r)) SH w) : n_T G d 0 0 mX10_cross 0 [vR 0, vI x1, vI x2] [] SH v Q := by
  unfold P_X10_cross at h
  refine T_iload_n dX10_cross_0 rfl ?_
  refine T_iload_n dX10_cross_1 rfl ?_
  refine U_icmp_eq (tgt := 21) dX10_cross_2 (by decide) (fun hc => ?_) (fun hc => ?_)
  · replace h := h.1 hc
    refine T_iconst dX10_cross_21 (by decide) ?_
    exact T_iret dX10_cross_22 rfl (hQ _ _ h)
  · replace h := h.2 hc
    refine T_aload_n dX10_cross_5 rfl ?_
    refine T_iload_n dX10_cross_6 rfl ?_
    refine U_callV (as := [vI x1]) (st := []) dX10_cross_7 kX10_isDirection lX10_264 SH_0 rfl rfl rfl rfl (Nat.le_of_ble_eq_true rfl) (Nat.le_of_ble_eq_true rfl) (by omega) ?_
    refine W_X10_isDirection (by omega)  h (fun r7 v7 h => ?_)
    show n_T G d 0 0 mX10_cross 10 [vR 0, vI x1, vI x2] [vI r7] SH v7 Q
    refine U_if_eq (tgt := 21) dX10_cross_10 (by decide) (fun hc => ?_) (fun hc => ?_)
    · replace h := h.1 hc
      refine T_iconst dX10_cross_21 (by decide) ?_
      exact T_iret dX10_cross_22 rfl (hQ _ _ h)
    · replace h := h.2 hc
      refine T_aload_n dX10_cross_13 rfl ?_
      refine T_iload_n dX10_cross_14 rfl ?_
      refine U_callV (as := [vI x2]) (st := []) dX10_cross_15 kX10_isDirection lX10_264 SH_0 rfl rfl rfl rfl (Nat.le_of_ble_eq_true rfl) (Nat.le_of_ble_eq_true rfl) (by omega) ?_
      refine W_X10_isDirection (by omega)  h (fun r15 v15 h => ?_)
      show n_T G d 0 0 mX10_cross 18 [vR 0, vI x1, vI x2] [vI r15] SH v15 Q
      refine U_if_ne (tgt := 23) dX10_cross_18 (by decide) (fun hc => ?_) (fun hc => ?_)
      · replace h := h.1 hc
        refine T_aload_n dX10_cross_23 rfl ?_
        refine T_getR (r := 197) dX10_cross_24 fX10_54 rfl SH_0 rfl ?_
        refine T_iload_n dX10_cross_27 rfl ?_
        refine T_iload_n dX10_cross_28 rfl ?_
        refine U_callV (as := [vI x1, vI x2]) (st := []) dX10_cross_29 kX8_countPairs lX10_289 SH_197 rfl rfl rfl rfl (Nat.le_of_ble_eq_true rfl) (Nat.le_of_ble_eq_true rfl) (by omega) ?_
        refine W_X8_countPairs (by omega)  h (fun r29 h => ?_)
        show n_T G d 0 0 mX10_cross 32 [vR 0, vI x1, vI x2] [vI r29] SH v15 Q
        exact T_iret dX10_cross_32 rfl (hQ _ _ h)
      · replace h := h.2 hc
        refine T_iconst dX10_cross_21 (by decide) ?_
        exact T_iret dX10_cross_22 rfl (hQ _ _ h)

theorem W_X10_isHalf {G : GT} {d : Nat} (hd : 6 ≤ d) {x1 : Int}   {v : VT} {q : Int → VT → Prop} {Q : Option Vl → List Sh → VT → Prop} (h : P_X10_isHalf x1 v q) (hQ : ∀ r w, q r w → Q (some (vI r)) SH w) : n_T G d 0 0 mX10_isHalf 0 [vR 0, vI x1] [] SH v Q := by
  unfold P_X10_isHalf at h
  refine T_aload_n dX10_isHalf_0 rfl ?_
  refine U_callV (as := []) (st := []) dX10_isHalf_1 kX10_seated lX10_160 SH_0 rfl rfl rfl rfl (Nat.le_of_ble_eq_true rfl) (Nat.le_of_ble_eq_true rfl) (by omega) ?_
  refine W_X10_seated (by omega)  h (fun v1 h => ?_)
  show n_T G d 0 0 mX10_isHalf 4 [vR 0, vI x1] [vR 197] SH v1 Q
  refine T_getI dX10_isHalf_4 fX10_279 rfl SH_197 ?_
  refine U_if_eq (tgt := 31) dX10_isHalf_7 (by decide) (fun hc => ?_) (fun hc => ?_)
  · replace h := h.1 hc
    refine T_iconst dX10_isHalf_31 (by decide) ?_
    exact T_zret dX10_isHalf_32 rfl (by decide) (hQ _ _ h)
  · replace h := h.2 hc
    refine T_iload_n dX10_isHalf_10 rfl ?_
    refine U_if_lt (tgt := 31) dX10_isHalf_11 (by decide) (fun hc => ?_) (fun hc => ?_)
    · replace h := h.1 hc
      refine T_iconst dX10_isHalf_31 (by decide) ?_
      exact T_zret dX10_isHalf_32 rfl (by decide) (hQ _ _ h)
    · replace h := h.2 hc
      refine T_iload_n dX10_isHalf_14 rfl ?_
      refine T_iconst dX10_isHalf_15 (by decide) ?_
      refine T_aload_n dX10_isHalf_16 rfl ?_
      refine T_getR (r := 197) dX10_isHalf_17 fX10_54 rfl SH_0 rfl ?_
      refine T_getI dX10_isHalf_20 fX10_311 rfl SH_197 ?_
      refine U_imul dX10_isHalf_23 h.1 ?_
      replace h := h.2
      refine U_icmp_ge (tgt := 31) dX10_isHalf_24 (by decide) (fun hc => ?_) (fun hc => ?_)
      · replace h := h.1 hc
        refine T_iconst dX10_isHalf_31 (by decide) ?_
        exact T_zret dX10_isHalf_32 rfl (by decide) (hQ _ _ h)
      · replace h := h.2 hc
        refine T_iconst dX10_isHalf_27 (by decide) ?_
        refine T_goto (tgt := 32) dX10_isHalf_28 (by decide) ?_
        exact T_zret dX10_isHalf_32 rfl (by decide) (hQ _ _ h)

theorem W_X10_fit {G : GT} {d : Nat} (hd : 7 ≤ d) {x1 : Int} {x2 : Int}   {v : VT} {q : Int → VT → Prop} {Q : Option Vl → List Sh → VT → Prop} (h : P_X10_fit x1 x2 v q) (hQ : ∀ r w, q r w → Q (some (vI r)) SH w) : n_T G d 0 0 mX10_fit 0 [vR 0, vI x1, vI x2] [] SH v Q := by
  unfold P_X10_fit at h
  refine T_iload_n dX10_fit_0 rfl ?_
  refine T_iload_n dX10_fit_1 rfl ?_
  refine U_icmp_eq (tgt := 21) dX10_fit_2 (by decide) (fun hc => ?_) (fun hc => ?_)
  · replace h := h.1 hc
    refine T_iconst dX10_fit_21 (by decide) ?_
    exact T_iret dX10_fit_22 rfl (hQ _ _ h)
  · replace h := h.2 hc
    refine T_aload_n dX10_fit_5 rfl ?_
    refine T_iload_n dX10_fit_6 rfl ?_
    refine U_callV (as := [vI x1]) (st := []) dX10_fit_7 kX10_isHalf lX10_292 SH_0 rfl rfl rfl rfl (Nat.le_of_ble_eq_true rfl) (Nat.le_of_ble_eq_true rfl) (by omega) ?_
    refine W_X10_isHalf (by omega)  h (fun r7 v7 h => ?_)
    show n_T G d 0 0 mX10_fit 10 [vR 0, vI x1, vI x2] [vI r7] SH v7 Q
    refine U_if_eq (tgt := 21) dX10_fit_10 (by decide) (fun hc => ?_) (fun hc => ?_)
    · replace h := h.1 hc
      refine T_iconst dX10_fit_21 (by decide) ?_
      exact T_iret dX10_fit_22 rfl (hQ _ _ h)
    · replace h := h.2 hc
      refine T_aload_n dX10_fit_13 rfl ?_
      refine T_iload_n dX10_fit_14 rfl ?_
      refine U_callV (as := [vI x2]) (st := []) dX10_fit_15 kX10_isHalf lX10_292 SH_0 rfl rfl rfl rfl (Nat.le_of_ble_eq_true rfl) (Nat.le_of_ble_eq_true rfl) (by omega) ?_
      refine W_X10_isHalf (by omega)  h (fun r15 v15 h => ?_)
      show n_T G d 0 0 mX10_fit 18 [vR 0, vI x1, vI x2] [vI r15] SH v15 Q
      refine U_if_ne (tgt := 23) dX10_fit_18 (by decide) (fun hc => ?_) (fun hc => ?_)
      · replace h := h.1 hc
        refine T_aload_n dX10_fit_23 rfl ?_
        refine T_getR (r := 197) dX10_fit_24 fX10_54 rfl SH_0 rfl ?_
        refine T_iload_n dX10_fit_27 rfl ?_
        refine T_iload_n dX10_fit_28 rfl ?_
        refine U_callV (as := [vI x1, vI x2]) (st := []) dX10_fit_29 kX8_doFit lX10_295 SH_197 rfl rfl rfl rfl (Nat.le_of_ble_eq_true rfl) (Nat.le_of_ble_eq_true rfl) (by omega) ?_
        refine W_X8_doFit (by omega)  h (fun r29 h => ?_)
        show n_T G d 0 0 mX10_fit 32 [vR 0, vI x1, vI x2] [vI r29] SH v15 Q
        refine U_if_eq (tgt := 39) dX10_fit_32 (by decide) (fun hc => ?_) (fun hc => ?_)
        · replace h := h.1 hc
          refine T_iconst dX10_fit_39 (by decide) ?_
          exact T_iret dX10_fit_40 rfl (hQ _ _ h)
        · replace h := h.2 hc
          refine T_iconst dX10_fit_35 (by decide) ?_
          refine T_goto (tgt := 40) dX10_fit_36 (by decide) ?_
          exact T_iret dX10_fit_40 rfl (hQ _ _ h)
      · replace h := h.2 hc
        refine T_iconst dX10_fit_21 (by decide) ?_
        exact T_iret dX10_fit_22 rfl (hQ _ _ h)

theorem W_X10_cubes {G : GT} {d : Nat} (hd : 11 ≤ d) {x1 : Int}   {v : VT} {q : Int → VT → Prop} {Q : Option Vl → List Sh → VT → Prop} (h : P_X10_cubes x1 v q) (hQ : ∀ r w, q r w → Q (some (vI r)) SH w) : n_T G d 0 0 mX10_cubes 0 [vR 0, vI x1] [] SH v Q := by
  unfold P_X10_cubes at h
  refine T_iload_n dX10_cubes_0 rfl ?_
  refine U_if_lt (tgt := 14) dX10_cubes_1 (by decide) (fun hc => ?_) (fun hc => ?_)
  · replace h := h.1 hc
    refine T_iconst dX10_cubes_14 (by decide) ?_
    exact T_iret dX10_cubes_15 rfl (hQ _ _ h)
  · replace h := h.2 hc
    refine T_aload_n dX10_cubes_4 rfl ?_
    refine U_callV (as := []) (st := []) dX10_cubes_5 kX10_seated lX10_160 SH_0 rfl rfl rfl rfl (Nat.le_of_ble_eq_true rfl) (Nat.le_of_ble_eq_true rfl) (by omega) ?_
    refine W_X10_seated (by omega)  h (fun v5 h => ?_)
    show n_T G d 0 0 mX10_cubes 8 [vR 0, vI x1] [vR 197] SH v5 Q
    refine T_getI dX10_cubes_8 fX10_279 rfl SH_197 ?_
    refine U_if_ne (tgt := 16) dX10_cubes_11 (by decide) (fun hc => ?_) (fun hc => ?_)
    · replace h := h.1 hc
      refine T_aload_n dX10_cubes_16 rfl ?_
      refine T_getR (r := 197) dX10_cubes_17 fX10_54 rfl SH_0 rfl ?_
      refine T_iload_n dX10_cubes_20 rfl ?_
      refine U_callV (as := [vI x1]) (st := []) dX10_cubes_21 kX8_countCubes lX10_298 SH_197 rfl rfl rfl rfl (Nat.le_of_ble_eq_true rfl) (Nat.le_of_ble_eq_true rfl) (by omega) ?_
      refine W_X8_countCubes (by omega)  h (fun r21 h => ?_)
      show n_T G d 0 0 mX10_cubes 24 [vR 0, vI x1] [vI r21] SH v5 Q
      exact T_iret dX10_cubes_24 rfl (hQ _ _ h)
    · replace h := h.2 hc
      refine T_iconst dX10_cubes_14 (by decide) ?_
      exact T_iret dX10_cubes_15 rfl (hQ _ _ h)

theorem W_X10_most {G : GT} {d : Nat} (hd : 69 ≤ d) {x1 : Int}   {v : VT} {q : Int → VT → Prop} {Q : Option Vl → List Sh → VT → Prop} (h : P_X10_most x1 v q) (hQ : ∀ r w, q r w → Q (some (vI r)) SH w) : n_T G d 0 0 mX10_most 0 [vR 0, vI x1] [] SH v Q := by
  unfold P_X10_most at h
  refine T_iload_n dX10_most_0 rfl ?_
  refine U_if_lt (tgt := 19) dX10_most_1 (by decide) (fun hc => ?_) (fun hc => ?_)
  · replace h := h.1 hc
    refine T_iconst dX10_most_19 (by decide) ?_
    exact T_iret dX10_most_20 rfl (hQ _ _ h)
  · replace h := h.2 hc
    refine T_iload_n dX10_most_4 rfl ?_
    refine T_iconst dX10_most_5 (by decide) ?_
    refine U_icmp_gt (tgt := 19) dX10_most_6 (by decide) (fun hc => ?_) (fun hc => ?_)
    · replace h := h.1 hc
      refine T_iconst dX10_most_19 (by decide) ?_
      exact T_iret dX10_most_20 rfl (hQ _ _ h)
    · replace h := h.2 hc
      refine T_aload_n dX10_most_9 rfl ?_
      refine U_callV (as := []) (st := []) dX10_most_10 kX10_seated lX10_160 SH_0 rfl rfl rfl rfl (Nat.le_of_ble_eq_true rfl) (Nat.le_of_ble_eq_true rfl) (by omega) ?_
      refine W_X10_seated (by omega)  h (fun v10 h => ?_)
      show n_T G d 0 0 mX10_most 13 [vR 0, vI x1] [vR 197] SH v10 Q
      refine T_getI dX10_most_13 fX10_279 rfl SH_197 ?_
      refine U_if_ne (tgt := 21) dX10_most_16 (by decide) (fun hc => ?_) (fun hc => ?_)
      · replace h := h.1 hc
        refine T_aload_n dX10_most_21 rfl ?_
        refine T_getR (r := 203) dX10_most_22 fX10_68 rfl SH_0 rfl ?_
        refine T_aload_n dX10_most_25 rfl ?_
        refine T_getR (r := 197) dX10_most_26 fX10_54 rfl SH_0 rfl ?_
        refine U_callV (as := [vR 197]) (st := []) dX10_most_29 kX7_findCrossing lX10_301 SH_203 rfl rfl rfl rfl (Nat.le_of_ble_eq_true rfl) (Nat.le_of_ble_eq_true rfl) (by omega) ?_
        refine W_X7_findCrossing (by omega)  h (fun v29 h => ?_)
        show n_T G d 0 0 mX10_most 32 [vR 0, vI x1] [] SH v29 Q
        refine T_iload_n dX10_most_32 rfl ?_
        refine U_if_ne (tgt := 46) dX10_most_33 (by decide) (fun hc => ?_) (fun hc => ?_)
        · replace h := h.1 hc
          refine T_aload_n dX10_most_46 rfl ?_
          refine T_getR (r := 203) dX10_most_47 fX10_68 rfl SH_0 rfl ?_
          refine T_getI dX10_most_50 fX10_308 rfl SH_203 ?_
          exact T_iret dX10_most_53 rfl (hQ _ _ h)
        · replace h := h.2 hc
          refine T_aload_n dX10_most_36 rfl ?_
          refine T_getR (r := 203) dX10_most_37 fX10_68 rfl SH_0 rfl ?_
          refine T_getI dX10_most_40 fX10_305 rfl SH_203 ?_
          refine T_goto (tgt := 53) dX10_most_43 (by decide) ?_
          exact T_iret dX10_most_53 rfl (hQ _ _ h)
      · replace h := h.2 hc
        refine T_iconst dX10_most_19 (by decide) ?_
        exact T_iret dX10_most_20 rfl (hQ _ _ h)

theorem W_X10_opposite {G : GT} {d : Nat} (hd : 6 ≤ d) {x1 : Int}   {v : VT} {q : Int → VT → Prop} {Q : Option Vl → List Sh → VT → Prop} (h : P_X10_opposite x1 v q) (hQ : ∀ r w, q r w → Q (some (vI r)) SH w) : n_T G d 0 0 mX10_opposite 0 [vR 0, vI x1] [] SH v Q := by
  unfold P_X10_opposite at h
  refine T_aload_n dX10_opposite_0 rfl ?_
  refine U_callV (as := []) (st := []) dX10_opposite_1 kX10_seated lX10_160 SH_0 rfl rfl rfl rfl (Nat.le_of_ble_eq_true rfl) (Nat.le_of_ble_eq_true rfl) (by omega) ?_
  refine W_X10_seated (by omega)  h (fun v1 h => ?_)
  show n_T G d 0 0 mX10_opposite 4 [vR 0, vI x1] [vR 197] SH v1 Q
  refine T_getI dX10_opposite_4 fX10_279 rfl SH_197 ?_
  refine U_if_eq (tgt := 21) dX10_opposite_7 (by decide) (fun hc => ?_) (fun hc => ?_)
  · replace h := h.1 hc
    refine T_iconst dX10_opposite_21 (by decide) ?_
    exact T_iret dX10_opposite_22 rfl (hQ _ _ h)
  · replace h := h.2 hc
    refine T_aload_n dX10_opposite_10 rfl ?_
    refine T_getR (r := 10) dX10_opposite_11 fX10_26 rfl SH_0 rfl ?_
    refine T_iload_n dX10_opposite_14 rfl ?_
    refine U_callV (as := [vI x1]) (st := []) dX10_opposite_15 kX0_isNode lX10_171 SH_10 rfl rfl rfl rfl (Nat.le_of_ble_eq_true rfl) (Nat.le_of_ble_eq_true rfl) (by omega) ?_
    refine W_X0_isNode (by omega) isG_at10 h (fun r15 h => ?_)
    show n_T G d 0 0 mX10_opposite 18 [vR 0, vI x1] [vI r15] SH v1 Q
    refine U_if_ne (tgt := 23) dX10_opposite_18 (by decide) (fun hc => ?_) (fun hc => ?_)
    · replace h := h.1 hc
      refine T_aload_n dX10_opposite_23 rfl ?_
      refine T_getR (r := 197) dX10_opposite_24 fX10_54 rfl SH_0 rfl ?_
      refine T_aload_n dX10_opposite_27 rfl ?_
      refine T_getR (r := 197) dX10_opposite_28 fX10_54 rfl SH_0 rfl ?_
      refine T_getR (r := 198) dX10_opposite_31 fX10_283 rfl SH_197 rfl ?_
      refine T_iload_n dX10_opposite_34 rfl ?_
      refine T_iald dX10_opposite_35 SH_198 h.1 ?_
      replace h := h.2
      refine T_aload_n dX10_opposite_36 rfl ?_
      refine T_getR (r := 197) dX10_opposite_37 fX10_54 rfl SH_0 rfl ?_
      refine T_getI dX10_opposite_40 fX10_311 rfl SH_197 ?_
      refine U_callS (as := [vI (v1 197 6)]) (st := [vI (v1 198 x1.toNat), vR 197]) dX10_opposite_43 kX10_allBits lX10_314 rfl rfl (Nat.le_of_ble_eq_true rfl) (Nat.le_of_ble_eq_true rfl) (by omega) ?_
      refine W_X10_allBits (by omega)  h (fun r43 h => ?_)
      show n_T G d 0 0 mX10_opposite 46 [vR 0, vI x1] [vI r43, vI (v1 198 x1.toNat), vR 197] SH v1 Q
      refine T_ixor dX10_opposite_46 ?_
      refine U_callV (as := [vI (i_xor (v1 198 x1.toNat) r43)]) (st := []) dX10_opposite_47 kX8_nodeAt lX10_286 SH_197 rfl rfl rfl rfl (Nat.le_of_ble_eq_true rfl) (Nat.le_of_ble_eq_true rfl) (by omega) ?_
      refine W_X8_nodeAt (by omega)  h (fun r47 h => ?_)
      show n_T G d 0 0 mX10_opposite 50 [vR 0, vI x1] [vI r47] SH v1 Q
      exact T_iret dX10_opposite_50 rfl (hQ _ _ h)
    · replace h := h.2 hc
      refine T_iconst dX10_opposite_21 (by decide) ?_
      exact T_iret dX10_opposite_22 rfl (hQ _ _ h)

theorem W_X10_even {G : GT} {d : Nat} (hd : 6 ≤ d) {x1 : Int}   {v : VT} {q : Int → VT → Prop} {Q : Option Vl → List Sh → VT → Prop} (h : P_X10_even x1 v q) (hQ : ∀ r w, q r w → Q (some (vI r)) SH w) : n_T G d 0 0 mX10_even 0 [vR 0, vI x1, vS 9, vS 9] [] SH v Q := by
  unfold P_X10_even at h
  refine T_iload_n dX10_even_0 rfl ?_
  refine U_if_lt (tgt := 29) dX10_even_1 (by decide) (fun hc => ?_) (fun hc => ?_)
  · replace h := h.1 hc
    refine T_iconst dX10_even_29 (by decide) ?_
    exact T_iret dX10_even_30 rfl (hQ _ _ h)
  · replace h := h.2 hc
    refine T_iload_n dX10_even_4 rfl ?_
    refine T_iconst dX10_even_5 (by decide) ?_
    refine U_icmp_gt (tgt := 29) dX10_even_6 (by decide) (fun hc => ?_) (fun hc => ?_)
    · replace h := h.1 hc
      refine T_iconst dX10_even_29 (by decide) ?_
      exact T_iret dX10_even_30 rfl (hQ _ _ h)
    · replace h := h.2 hc
      refine T_aload_n dX10_even_9 rfl ?_
      refine U_callV (as := []) (st := []) dX10_even_10 kX10_seated lX10_160 SH_0 rfl rfl rfl rfl (Nat.le_of_ble_eq_true rfl) (Nat.le_of_ble_eq_true rfl) (by omega) ?_
      refine W_X10_seated (by omega)  h (fun v10 h => ?_)
      show n_T G d 0 0 mX10_even 13 [vR 0, vI x1, vS 9, vS 9] [vR 197] SH v10 Q
      refine T_getI dX10_even_13 fX10_279 rfl SH_197 ?_
      refine U_if_eq (tgt := 29) dX10_even_16 (by decide) (fun hc => ?_) (fun hc => ?_)
      · replace h := h.1 hc
        refine T_iconst dX10_even_29 (by decide) ?_
        exact T_iret dX10_even_30 rfl (hQ _ _ h)
      · replace h := h.2 hc
        refine T_aload_n dX10_even_19 rfl ?_
        refine T_getR (r := 197) dX10_even_20 fX10_54 rfl SH_0 rfl ?_
        refine T_getI dX10_even_23 fX10_311 rfl SH_197 ?_
        refine U_if_ne (tgt := 31) dX10_even_26 (by decide) (fun hc => ?_) (fun hc => ?_)
        · replace h := h.1 hc
          refine T_iconst dX10_even_31 (by decide) ?_
          refine T_istore_n dX10_even_32 (by decide) rfl ?_
          refine T_iconst dX10_even_33 (by decide) ?_
          refine T_istore_n dX10_even_34 (by decide) rfl ?_
          refine T_drop (h (fun (i2 : Int) (i3 : Int) => n_T G d 0 0 mX10_even 35 [vR 0, vI x1, vI i2, vI i3] [] SH v10 Q) (fun i2 i3 h => ?_)) ⟨Or.inl rfl, Or.inl rfl, Or.inl rfl, Or.inl rfl, trivial⟩
          refine T_iload_n dX10_even_35 rfl ?_
          refine T_aload_n dX10_even_36 rfl ?_
          refine T_getR (r := 197) dX10_even_37 fX10_54 rfl SH_0 rfl ?_
          refine T_getI dX10_even_40 fX10_311 rfl SH_197 ?_
          refine U_icmp_ge (tgt := 73) dX10_even_43 (by decide) (fun hc => ?_) (fun hc => ?_)
          · replace h := h.1 hc
            refine T_iload_n dX10_even_73 rfl ?_
            refine U_if_ne (tgt := 81) dX10_even_74 (by decide) (fun hc => ?_) (fun hc => ?_)
            · replace h := h.1 hc
              refine T_aload_n dX10_even_81 rfl ?_
              refine T_getR (r := 197) dX10_even_82 fX10_54 rfl SH_0 rfl ?_
              refine T_iload_n dX10_even_85 rfl ?_
              refine U_callV (as := [vI i2]) (st := []) dX10_even_86 kX8_costOf lX10_267 SH_197 rfl rfl rfl rfl (Nat.le_of_ble_eq_true rfl) (Nat.le_of_ble_eq_true rfl) (by omega) ?_
              refine W_X8_costOf (by omega)  h (fun r86 h => ?_)
              show n_T G d 0 0 mX10_even 89 [vR 0, vI x1, vI i2, vI i3] [vI r86] SH v10 Q
              exact T_iret dX10_even_89 rfl (hQ _ _ h)
            · replace h := h.2 hc
              refine T_iload_n dX10_even_77 rfl ?_
              refine T_goto (tgt := 89) dX10_even_78 (by decide) ?_
              exact T_iret dX10_even_89 rfl (hQ _ _ h)
          · replace h := h.2 hc
            refine T_aload_n dX10_even_46 rfl ?_
            refine T_getR (r := 197) dX10_even_47 fX10_54 rfl SH_0 rfl ?_
            refine T_iload_n dX10_even_50 rfl ?_
            refine U_callV (as := [vI i3]) (st := []) dX10_even_51 kX8_costOf lX10_267 SH_197 rfl rfl rfl rfl (Nat.le_of_ble_eq_true rfl) (Nat.le_of_ble_eq_true rfl) (by omega) ?_
            refine W_X8_costOf (by omega)  h (fun r51 h => ?_)
            show n_T G d 0 0 mX10_even 54 [vR 0, vI x1, vI i2, vI i3] [vI r51] SH v10 Q
            refine T_aload_n dX10_even_54 rfl ?_
            refine T_getR (r := 197) dX10_even_55 fX10_54 rfl SH_0 rfl ?_
            refine T_iload_n dX10_even_58 rfl ?_
            refine U_callV (as := [vI i2]) (st := [vI r51]) dX10_even_59 kX8_costOf lX10_267 SH_197 rfl rfl rfl rfl (Nat.le_of_ble_eq_true rfl) (Nat.le_of_ble_eq_true rfl) (by omega) ?_
            refine W_X8_costOf (by omega)  h (fun r59 h => ?_)
            show n_T G d 0 0 mX10_even 62 [vR 0, vI x1, vI i2, vI i3] [vI r59, vI r51] SH v10 Q
            refine U_icmp_le (tgt := 67) dX10_even_62 (by decide) (fun hc => ?_) (fun hc => ?_)
            · replace h := h.1 hc
              refine U_iinc dX10_even_67 rfl (by decide) rfl h.1 ?_
              replace h := h.2
              refine T_goto (tgt := 35) dX10_even_70 (by decide) ?_
              exact T_drop h ⟨Or.inl rfl, Or.inl rfl, Or.inl rfl, Or.inl rfl, trivial⟩
            · replace h := h.2 hc
              refine T_iload_n dX10_even_65 rfl ?_
              refine T_istore_n dX10_even_66 (by decide) rfl ?_
              refine U_iinc dX10_even_67 rfl (by decide) rfl h.1 ?_
              replace h := h.2
              refine T_goto (tgt := 35) dX10_even_70 (by decide) ?_
              exact T_drop h ⟨Or.inl rfl, Or.inl rfl, Or.inl rfl, Or.inl rfl, trivial⟩
        · replace h := h.2 hc
          refine T_iconst dX10_even_29 (by decide) ?_
          exact T_iret dX10_even_30 rfl (hQ _ _ h)

theorem W_X10_few {G : GT} {d : Nat} (hd : 21 ≤ d)    {v : VT} {q : Int → VT → Prop} {Q : Option Vl → List Sh → VT → Prop} (h : P_X10_few  v q) (hQ : ∀ r w, q r w → Q (some (vI r)) SH w) : n_T G d 0 0 mX10_few 0 [vR 0] [] SH v Q := by
  unfold P_X10_few at h
  refine T_aload_n dX10_few_0 rfl ?_
  refine U_callV (as := []) (st := []) dX10_few_1 kX10_seated lX10_160 SH_0 rfl rfl rfl rfl (Nat.le_of_ble_eq_true rfl) (Nat.le_of_ble_eq_true rfl) (by omega) ?_
  refine W_X10_seated (by omega)  h (fun v1 h => ?_)
  show n_T G d 0 0 mX10_few 4 [vR 0] [vR 197] SH v1 Q
  refine T_getI dX10_few_4 fX10_279 rfl SH_197 ?_
  refine U_if_eq (tgt := 22) dX10_few_7 (by decide) (fun hc => ?_) (fun hc => ?_)
  · replace h := h.1 hc
    refine T_iconst dX10_few_22 (by decide) ?_
    exact T_iret dX10_few_23 rfl (hQ _ _ h)
  · replace h := h.2 hc
    refine T_aload_n dX10_few_10 rfl ?_
    refine T_getR (r := 197) dX10_few_11 fX10_54 rfl SH_0 rfl ?_
    refine T_getI dX10_few_14 fX10_311 rfl SH_197 ?_
    refine T_bipush dX10_few_17 (by decide) ?_
    refine U_icmp_le (tgt := 24) dX10_few_19 (by decide) (fun hc => ?_) (fun hc => ?_)
    · replace h := h.1 hc
      refine T_aload_n dX10_few_24 rfl ?_
      refine T_getR (r := 203) dX10_few_25 fX10_68 rfl SH_0 rfl ?_
      refine T_aload_n dX10_few_28 rfl ?_
      refine T_getR (r := 197) dX10_few_29 fX10_54 rfl SH_0 rfl ?_
      refine U_callV (as := [vR 197]) (st := []) dX10_few_32 kX7_findPairs lX10_317 SH_203 rfl rfl rfl rfl (Nat.le_of_ble_eq_true rfl) (Nat.le_of_ble_eq_true rfl) (by omega) ?_
      refine W_X7_findPairs (by omega)  h (fun v32 h => ?_)
      show n_T G d 0 0 mX10_few 35 [vR 0] [] SH v32 Q
      refine T_aload_n dX10_few_35 rfl ?_
      refine T_getR (r := 197) dX10_few_36 fX10_54 rfl SH_0 rfl ?_
      refine T_getI dX10_few_39 fX10_311 rfl SH_197 ?_
      refine T_aload_n dX10_few_42 rfl ?_
      refine T_getR (r := 203) dX10_few_43 fX10_68 rfl SH_0 rfl ?_
      refine T_getI dX10_few_46 fX10_305 rfl SH_203 ?_
      refine U_isub dX10_few_49 h.1 ?_
      replace h := h.2
      exact T_iret dX10_few_50 rfl (hQ _ _ h)
    · replace h := h.2 hc
      refine T_iconst dX10_few_22 (by decide) ?_
      exact T_iret dX10_few_23 rfl (hQ _ _ h)

theorem W_X10_median {G : GT} {d : Nat} (hd : 5 ≤ d) {x1 : Int} {x2 : Int} {x3 : Int}   {v : VT} {q : Int → VT → Prop} {Q : Option Vl → List Sh → VT → Prop} (h : P_X10_median x1 x2 x3 v q) (hQ : ∀ r w, q r w → Q (some (vI r)) SH w) : n_T G d 0 0 mX10_median 0 [vR 0, vI x1, vI x2, vI x3] [] SH v Q := by
  unfold P_X10_median at h
  refine T_aload_n dX10_median_0 rfl ?_
  refine T_iload_n dX10_median_1 rfl ?_
  refine T_iload_n dX10_median_2 rfl ?_
  refine U_callV (as := [vI x1, vI x2]) (st := []) dX10_median_3 kX10_areNodes lX10_215 SH_0 rfl rfl rfl rfl (Nat.le_of_ble_eq_true rfl) (Nat.le_of_ble_eq_true rfl) (by omega) ?_
  refine W_X10_areNodes (by omega)  h (fun r3 h => ?_)
  show n_T G d 0 0 mX10_median 6 [vR 0, vI x1, vI x2, vI x3] [vI r3] SH v Q
  refine U_if_eq (tgt := 20) dX10_median_6 (by decide) (fun hc => ?_) (fun hc => ?_)
  · replace h := h.1 hc
    refine T_iconst dX10_median_20 (by decide) ?_
    exact T_iret dX10_median_21 rfl (hQ _ _ h)
  · replace h := h.2 hc
    refine T_aload_n dX10_median_9 rfl ?_
    refine T_getR (r := 10) dX10_median_10 fX10_26 rfl SH_0 rfl ?_
    refine T_iload_n dX10_median_13 rfl ?_
    refine U_callV (as := [vI x3]) (st := []) dX10_median_14 kX0_isNode lX10_171 SH_10 rfl rfl rfl rfl (Nat.le_of_ble_eq_true rfl) (Nat.le_of_ble_eq_true rfl) (by omega) ?_
    refine W_X0_isNode (by omega) isG_at10 h (fun r14 h => ?_)
    show n_T G d 0 0 mX10_median 17 [vR 0, vI x1, vI x2, vI x3] [vI r14] SH v Q
    refine U_if_ne (tgt := 22) dX10_median_17 (by decide) (fun hc => ?_) (fun hc => ?_)
    · replace h := h.1 hc
      refine T_aload_n dX10_median_22 rfl ?_
      refine U_callV (as := []) (st := []) dX10_median_23 kX10_measured lX10_203 SH_0 rfl rfl rfl rfl (Nat.le_of_ble_eq_true rfl) (Nat.le_of_ble_eq_true rfl) (by omega) ?_
      refine W_X10_measured (by omega)  h (fun v23 h => ?_)
      show n_T G d 0 0 mX10_median 26 [vR 0, vI x1, vI x2, vI x3] [vR 138] SH v23 Q
      refine T_iload_n dX10_median_26 rfl ?_
      refine T_iload_n dX10_median_27 rfl ?_
      refine U_callV (as := [vI x1, vI x2]) (st := []) dX10_median_28 kX2_amid lX10_226 SH_138 rfl rfl rfl rfl (Nat.le_of_ble_eq_true rfl) (Nat.le_of_ble_eq_true rfl) (by omega) ?_
      refine W_X2_amid (by omega)  h (fun r28 v28 h => ?_)
      show n_T G d 0 0 mX10_median 31 [vR 0, vI x1, vI x2, vI x3] [vI r28] SH v28 Q
      refine T_aload_n dX10_median_31 rfl ?_
      refine T_getR (r := 138) dX10_median_32 fX10_40 rfl SH_0 rfl ?_
      refine T_iload_n dX10_median_35 rfl ?_
      refine T_iload_n dX10_median_36 rfl ?_
      refine U_callV (as := [vI x2, vI x3]) (st := [vI r28]) dX10_median_37 kX2_amid lX10_226 SH_138 rfl rfl rfl rfl (Nat.le_of_ble_eq_true rfl) (Nat.le_of_ble_eq_true rfl) (by omega) ?_
      refine W_X2_amid (by omega)  h (fun r37 v37 h => ?_)
      show n_T G d 0 0 mX10_median 40 [vR 0, vI x1, vI x2, vI x3] [vI r37, vI r28] SH v37 Q
      refine T_iand dX10_median_40 ?_
      refine T_aload_n dX10_median_41 rfl ?_
      refine T_getR (r := 138) dX10_median_42 fX10_40 rfl SH_0 rfl ?_
      refine T_iload_n dX10_median_45 rfl ?_
      refine T_iload_n dX10_median_46 rfl ?_
      refine U_callV (as := [vI x1, vI x3]) (st := [vI (i_and r28 r37)]) dX10_median_47 kX2_amid lX10_226 SH_138 rfl rfl rfl rfl (Nat.le_of_ble_eq_true rfl) (Nat.le_of_ble_eq_true rfl) (by omega) ?_
      refine W_X2_amid (by omega)  h (fun r47 v47 h => ?_)
      show n_T G d 0 0 mX10_median 50 [vR 0, vI x1, vI x2, vI x3] [vI r47, vI (i_and r28 r37)] SH v47 Q
      refine T_iand dX10_median_50 ?_
      exact T_iret dX10_median_51 rfl (hQ _ _ h)
    · replace h := h.2 hc
      refine T_iconst dX10_median_20 (by decide) ?_
      exact T_iret dX10_median_21 rfl (hQ _ _ h)

theorem W_X10_medians {G : GT} {d : Nat} (hd : 5 ≤ d) {x1 : Int}   {v : VT} {q : Int → VT → Prop} {Q : Option Vl → List Sh → VT → Prop} (h : P_X10_medians x1 v q) (hQ : ∀ r w, q r w → Q (some (vI r)) SH w) : n_T G d 0 0 mX10_medians 0 [vR 0, vI x1, vS 9] [] SH v Q := by
  unfold P_X10_medians at h
  refine T_iload_n dX10_medians_0 rfl ?_
  refine U_if_lt (tgt := 9) dX10_medians_1 (by decide) (fun hc => ?_) (fun hc => ?_)
  · replace h := h.1 hc
    refine T_iconst dX10_medians_9 (by decide) ?_
    exact T_iret dX10_medians_10 rfl (hQ _ _ h)
  · replace h := h.2 hc
    refine T_iload_n dX10_medians_4 rfl ?_
    refine T_iconst dX10_medians_5 (by decide) ?_
    refine U_icmp_le (tgt := 11) dX10_medians_6 (by decide) (fun hc => ?_) (fun hc => ?_)
    · replace h := h.1 hc
      refine T_aload_n dX10_medians_11 rfl ?_
      refine U_callV (as := []) (st := []) dX10_medians_12 kX10_measured lX10_203 SH_0 rfl rfl rfl rfl (Nat.le_of_ble_eq_true rfl) (Nat.le_of_ble_eq_true rfl) (by omega) ?_
      refine W_X10_measured (by omega)  h (fun v12 h => ?_)
      show n_T G d 0 0 mX10_medians 15 [vR 0, vI x1, vS 9] [vR 138] SH v12 Q
      refine U_callV (as := []) (st := []) dX10_medians_15 kX2_firstWithoutMedian lX10_320 SH_138 rfl rfl rfl rfl (Nat.le_of_ble_eq_true rfl) (Nat.le_of_ble_eq_true rfl) (by omega) ?_
      refine W_X2_firstWithoutMedian (by omega)  h (fun r15 v15 h => ?_)
      show n_T G d 0 0 mX10_medians 18 [vR 0, vI x1, vS 9] [vI r15] SH v15 Q
      refine T_istore_n dX10_medians_18 (by decide) rfl ?_
      refine T_iload_n dX10_medians_19 rfl ?_
      refine U_if_ne (tgt := 34) dX10_medians_20 (by decide) (fun hc => ?_) (fun hc => ?_)
      · replace h := h.1 hc
        refine T_iload_n dX10_medians_34 rfl ?_
        refine T_iconst dX10_medians_35 (by decide) ?_
        refine U_icmp_ne (tgt := 41) dX10_medians_36 (by decide) (fun hc => ?_) (fun hc => ?_)
        · replace h := h.1 hc
          refine T_iload_n dX10_medians_41 rfl ?_
          refine T_bipush dX10_medians_42 (by decide) ?_
          refine T_iconst dX10_medians_44 (by decide) ?_
          refine T_iload_n dX10_medians_45 rfl ?_
          refine U_isub dX10_medians_46 h.1 ?_
          replace h := h.2
          refine U_imul dX10_medians_47 h.1 ?_
          replace h := h.2
          refine T_ishr dX10_medians_48 ?_
          refine T_sipush dX10_medians_49 (by decide) ?_
          refine T_iand dX10_medians_52 ?_
          exact T_iret dX10_medians_53 rfl (hQ _ _ h)
        · replace h := h.2 hc
          refine T_iconst dX10_medians_39 (by decide) ?_
          exact T_iret dX10_medians_40 rfl (hQ _ _ h)
      · replace h := h.2 hc
        refine T_iload_n dX10_medians_23 rfl ?_
        refine T_iconst dX10_medians_24 (by decide) ?_
        refine U_icmp_ne (tgt := 32) dX10_medians_25 (by decide) (fun hc => ?_) (fun hc => ?_)
        · replace h := h.1 hc
          refine T_iconst dX10_medians_32 (by decide) ?_
          exact T_iret dX10_medians_33 rfl (hQ _ _ h)
        · replace h := h.2 hc
          refine T_iconst dX10_medians_28 (by decide) ?_
          refine T_goto (tgt := 33) dX10_medians_29 (by decide) ?_
          exact T_iret dX10_medians_33 rfl (hQ _ _ h)
    · replace h := h.2 hc
      refine T_iconst dX10_medians_9 (by decide) ?_
      exact T_iret dX10_medians_10 rfl (hQ _ _ h)

theorem W_X10_vote {G : GT} {d : Nat} (hd : 2 ≤ d)    {v : VT} {q : Int → VT → Prop} {Q : Option Vl → List Sh → VT → Prop} (h : P_X10_vote  v q) (hQ : ∀ r w, q r w → Q (some (vI r)) SH w) : n_T G d 0 0 mX10_vote 0 [vR 0, vS 9, vS 9, vS 9] [] SH v Q := by
  unfold P_X10_vote at h
  refine T_aload_n dX10_vote_0 rfl ?_
  refine T_getR (r := 1) dX10_vote_1 fX10_10 rfl SH_0 rfl ?_
  refine T_getI dX10_vote_4 fX10_105 rfl SH_1 ?_
  refine T_istore_n dX10_vote_7 (by decide) rfl ?_
  refine T_aload_n dX10_vote_8 rfl ?_
  refine T_getR (r := 1) dX10_vote_9 fX10_10 rfl SH_0 rfl ?_
  refine T_iconst dX10_vote_12 (by decide) ?_
  refine U_putI dX10_vote_13 fX10_105 rfl rfl SH_1 (fun v13 ev13 => ?_)
  replace h := h v13 ev13
  refine T_iload_n dX10_vote_16 rfl ?_
  refine T_iconst dX10_vote_17 (by decide) ?_
  refine n_cut (h (fun (s0 : Int) => n_T G d 0 0 mX10_vote 32 [vR 0, vI (v 1 1), vS 9, vS 9] [vI s0] SH v13 Q)) ?_ ?_
  · intro s0 h
    refine T_istore_n dX10_vote_32 (by decide) rfl ?_
    refine T_iconst dX10_vote_33 (by decide) ?_
    refine T_istore_n dX10_vote_34 (by decide) rfl ?_
    refine n_cut (h (fun (i2 : Int) => n_T G d 0 0 mX10_vote 67 [vR 0, vI (v 1 1), vI i2, vS 9] [] SH v13 Q)) ?_ ?_
    · intro i2 h
      refine T_iload_n dX10_vote_67 rfl ?_
      refine U_if_ne (tgt := 77) dX10_vote_68 (by decide) (fun hc => ?_) (fun hc => ?_)
      · replace h := h.1 hc
        refine T_iconst dX10_vote_77 (by decide) ?_
        refine T_istore_n dX10_vote_78 (by decide) rfl ?_
        refine T_drop (h (fun (i3 : Int) (v79 : VT) => n_T G d 0 0 mX10_vote 79 [vR 0, vI (v 1 1), vS 9, vI i3] [] SH v79 Q) (fun i3 v79 h => ?_)) ⟨Or.inl rfl, Or.inl rfl, Or.inr rfl, Or.inl rfl, trivial⟩
        refine T_iload_n dX10_vote_79 rfl ?_
        refine T_iload_n dX10_vote_80 rfl ?_
        refine U_icmp_ge (tgt := 105) dX10_vote_81 (by decide) (fun hc => ?_) (fun hc => ?_)
        · replace h := h.1 hc
          refine T_aload_n dX10_vote_105 rfl ?_
          refine T_iload_n dX10_vote_106 rfl ?_
          refine U_putI dX10_vote_107 fX10_95 rfl rfl SH_0 (fun v107 ev107 => ?_)
          replace h := h v107 ev107
          refine T_aload_n dX10_vote_110 rfl ?_
          refine T_getI dX10_vote_111 fX10_95 rfl SH_0 ?_
          exact T_iret dX10_vote_114 rfl (hQ _ _ h)
        · replace h := h.2 hc
          refine T_aload_n dX10_vote_84 rfl ?_
          refine T_getR (r := 213) dX10_vote_85 fX10_79 rfl SH_0 rfl ?_
          refine T_iload_n dX10_vote_88 rfl ?_
          refine T_aload_n dX10_vote_89 rfl ?_
          refine T_getR (r := 1) dX10_vote_90 fX10_10 rfl SH_0 rfl ?_
          refine T_getR (r := 2) dX10_vote_93 fX10_323 rfl SH_1 rfl ?_
          refine T_iload_n dX10_vote_96 rfl ?_
          refine T_iald dX10_vote_97 SH_2 h.1 ?_
          replace h := h.2
          refine U_iast dX10_vote_98 SH_213 h.1 (fun v98 ev98 => ?_)
          replace h := h.2 v98 ev98
          refine U_iinc dX10_vote_99 rfl (by decide) rfl h.1 ?_
          replace h := h.2
          refine T_goto (tgt := 79) dX10_vote_102 (by decide) ?_
          exact T_drop h ⟨Or.inl rfl, Or.inl rfl, Or.inr rfl, Or.inl rfl, trivial⟩
      · replace h := h.2 hc
        refine T_aload_n dX10_vote_71 rfl ?_
        refine T_iconst dX10_vote_72 (by decide) ?_
        refine U_callV (as := [vI 1]) (st := []) dX10_vote_73 kX10_refuse lX10_108 SH_0 rfl rfl rfl rfl (Nat.le_of_ble_eq_true rfl) (Nat.le_of_ble_eq_true rfl) (by omega) ?_
        refine W_X10_refuse (by omega)  h (fun r73 v73 h => ?_)
        show n_T G d 0 0 mX10_vote 76 [vR 0, vI (v 1 1), vI i2, vS 9] [vI r73] SH v73 Q
        exact T_iret dX10_vote_76 rfl (hQ _ _ h)
    · intro h
      refine T_drop (h (fun (i2_1 : Int) (i3_1 : Int) => n_T G d 0 0 mX10_vote 35 [vR 0, vI (v 1 1), vI i2_1, vI i3_1] [] SH v13 Q) (fun i2_1 i3_1 h => ?_)) ⟨Or.inl rfl, Or.inl rfl, Or.inl rfl, Or.inl rfl, trivial⟩
      refine T_iload_n dX10_vote_35 rfl ?_
      refine U_if_eq (tgt := 67) dX10_vote_36 (by decide) (fun hc => ?_) (fun hc => ?_)
      · replace h := h.1 hc
        exact T_drop h ⟨Or.inl rfl, Or.inl rfl, Or.inl rfl, Or.inr rfl, trivial⟩
      · replace h := h.2 hc
        refine T_iload_n dX10_vote_39 rfl ?_
        refine T_iload_n dX10_vote_40 rfl ?_
        refine U_icmp_ge (tgt := 67) dX10_vote_41 (by decide) (fun hc => ?_) (fun hc => ?_)
        · replace h := h.1 hc
          exact T_drop h ⟨Or.inl rfl, Or.inl rfl, Or.inl rfl, Or.inr rfl, trivial⟩
        · replace h := h.2 hc
          refine T_aload_n dX10_vote_44 rfl ?_
          refine T_getR (r := 10) dX10_vote_45 fX10_26 rfl SH_0 rfl ?_
          refine T_aload_n dX10_vote_48 rfl ?_
          refine T_getR (r := 1) dX10_vote_49 fX10_10 rfl SH_0 rfl ?_
          refine T_getR (r := 2) dX10_vote_52 fX10_323 rfl SH_1 rfl ?_
          refine T_iload_n dX10_vote_55 rfl ?_
          refine T_iald dX10_vote_56 SH_2 h.1 ?_
          replace h := h.2
          refine U_callV (as := [vI (v13 2 i3_1.toNat)]) (st := []) dX10_vote_57 kX0_isNode lX10_171 SH_10 rfl rfl rfl rfl (Nat.le_of_ble_eq_true rfl) (Nat.le_of_ble_eq_true rfl) (by omega) ?_
          refine W_X0_isNode (by omega) isG_at10 h (fun r57 h => ?_)
          show n_T G d 0 0 mX10_vote 60 [vR 0, vI (v 1 1), vI i2_1, vI i3_1] [vI r57] SH v13 Q
          refine T_istore_n dX10_vote_60 (by decide) rfl ?_
          refine U_iinc dX10_vote_61 rfl (by decide) rfl h.1 ?_
          replace h := h.2
          refine T_goto (tgt := 35) dX10_vote_64 (by decide) ?_
          exact T_drop h ⟨Or.inl rfl, Or.inl rfl, Or.inl rfl, Or.inl rfl, trivial⟩
  · intro h
    refine n_cut (h (n_T G d 0 0 mX10_vote 31 [vR 0, vI (v 1 1), vS 9, vS 9] [] SH v13 Q)) ?_ ?_
    · intro h
      refine T_iconst dX10_vote_31 (by decide) ?_
      exact T_drop h ⟨Or.inl rfl, Or.inl rfl, Or.inr rfl, Or.inr rfl, trivial⟩
    · intro h
      refine U_icmp_lt (tgt := 31) dX10_vote_18 (by decide) (fun hc => ?_) (fun hc => ?_)
      · replace h := h.1 hc
        exact T_drop h ⟨Or.inl rfl, Or.inl rfl, Or.inr rfl, Or.inr rfl, trivial⟩
      · replace h := h.2 hc
        refine T_iload_n dX10_vote_21 rfl ?_
        refine T_bipush dX10_vote_22 (by decide) ?_
        refine U_icmp_gt (tgt := 31) dX10_vote_24 (by decide) (fun hc => ?_) (fun hc => ?_)
        · replace h := h.1 hc
          exact T_drop h ⟨Or.inl rfl, Or.inl rfl, Or.inr rfl, Or.inr rfl, trivial⟩
        · replace h := h.2 hc
          refine T_iconst dX10_vote_27 (by decide) ?_
          refine T_goto (tgt := 32) dX10_vote_28 (by decide) ?_
          exact T_drop h ⟨Or.inl rfl, Or.inl rfl, Or.inr rfl, Or.inr rfl, trivial⟩

theorem W_X10_areNodesStill {G : GT} {d : Nat} (hd : 2 ≤ d) {a1 : Nat} {n1 : Nat} {x2 : Int} (ha1 : SH[a1]? = some (.inr (0, n1, []))) (hln1 : n1 < 2147483648)  {v : VT} {q : Int → Prop} {Q : Option Vl → List Sh → VT → Prop} (h : P_X10_areNodesStill a1 n1 x2 v q) (hQ : ∀ r, q r → Q (some (vI r)) SH v) : n_T G d 0 0 mX10_areNodesStill 0 [vR 0, vR a1, vI x2, vS 9] [] SH v Q := by
  unfold P_X10_areNodesStill at h
  refine T_iconst dX10_areNodesStill_0 (by decide) ?_
  refine T_istore_n dX10_areNodesStill_1 (by decide) rfl ?_
  refine T_drop (h (fun (i3 : Int) => n_T G d 0 0 mX10_areNodesStill 2 [vR 0, vR a1, vI x2, vI i3] [] SH v Q) (fun i3 h => ?_)) ⟨Or.inl rfl, Or.inl rfl, Or.inl rfl, Or.inl rfl, trivial⟩
  refine T_iload_n dX10_areNodesStill_2 rfl ?_
  refine T_iload_n dX10_areNodesStill_3 rfl ?_
  refine U_icmp_ge (tgt := 34) dX10_areNodesStill_4 (by decide) (fun hc => ?_) (fun hc => ?_)
  · replace h := h.1 hc
    refine T_iconst dX10_areNodesStill_34 (by decide) ?_
    exact T_zret dX10_areNodesStill_35 rfl (by decide) (hQ _ h)
  · replace h := h.2 hc
    refine T_iload_n dX10_areNodesStill_7 rfl ?_
    refine T_aload_n dX10_areNodesStill_8 rfl ?_
    refine T_alen dX10_areNodesStill_9 ha1 hln1 ?_
    show n_T G d 0 0 mX10_areNodesStill 10 [vR 0, vR a1, vI x2, vI i3] [vI (n1 : Int), vI i3] SH v Q
    refine U_icmp_ge (tgt := 34) dX10_areNodesStill_10 (by decide) (fun hc => ?_) (fun hc => ?_)
    · replace h := h.1 hc
      refine T_iconst dX10_areNodesStill_34 (by decide) ?_
      exact T_zret dX10_areNodesStill_35 rfl (by decide) (hQ _ h)
    · replace h := h.2 hc
      refine T_aload_n dX10_areNodesStill_13 rfl ?_
      refine T_getR (r := 10) dX10_areNodesStill_14 fX10_26 rfl SH_0 rfl ?_
      refine T_aload_n dX10_areNodesStill_17 rfl ?_
      refine T_iload_n dX10_areNodesStill_18 rfl ?_
      refine T_iald dX10_areNodesStill_19 ha1 h.1 ?_
      replace h := h.2
      refine U_callV (as := [vI (v a1 i3.toNat)]) (st := []) dX10_areNodesStill_20 kX0_isNode lX10_171 SH_10 rfl rfl rfl rfl (Nat.le_of_ble_eq_true rfl) (Nat.le_of_ble_eq_true rfl) (by omega) ?_
      refine W_X0_isNode (by omega) isG_at10 h (fun r20 h => ?_)
      show n_T G d 0 0 mX10_areNodesStill 23 [vR 0, vR a1, vI x2, vI i3] [vI r20] SH v Q
      refine U_if_ne (tgt := 28) dX10_areNodesStill_23 (by decide) (fun hc => ?_) (fun hc => ?_)
      · replace h := h.1 hc
        refine U_iinc dX10_areNodesStill_28 rfl (by decide) rfl h.1 ?_
        replace h := h.2
        refine T_goto (tgt := 2) dX10_areNodesStill_31 (by decide) ?_
        exact T_drop h ⟨Or.inl rfl, Or.inl rfl, Or.inl rfl, Or.inl rfl, trivial⟩
      · replace h := h.2 hc
        refine T_iconst dX10_areNodesStill_26 (by decide) ?_
        exact T_zret dX10_areNodesStill_27 rfl (by decide) (hQ _ h)

theorem W_X10_majority {G : GT} {d : Nat} (hd : 1 ≤ d)    {v : VT} {q : Int → Prop} {Q : Option Vl → List Sh → VT → Prop} (h : P_X10_majority  v q) (hQ : ∀ r, q r → Q (some (vI r)) SH v) : n_T G d 0 0 mX10_majority 0 [vR 0, vS 9, vS 9, vS 9, vS 9] [] SH v Q := by
  unfold P_X10_majority at h
  refine T_iconst dX10_majority_0 (by decide) ?_
  refine T_istore_n dX10_majority_1 (by decide) rfl ?_
  refine T_iconst dX10_majority_2 (by decide) ?_
  refine T_istore_n dX10_majority_3 (by decide) rfl ?_
  refine T_drop (h (fun (i1 : Int) (i2 : Int) => n_T G d 0 0 mX10_majority 4 [vR 0, vI i1, vI i2, vS 9, vS 9] [] SH v Q) (fun i1 i2 h => ?_)) ⟨Or.inl rfl, Or.inl rfl, Or.inl rfl, Or.inr rfl, Or.inr rfl, trivial⟩
  refine T_iload_n dX10_majority_4 rfl ?_
  refine T_aload_n dX10_majority_5 rfl ?_
  refine T_getR (r := 197) dX10_majority_6 fX10_54 rfl SH_0 rfl ?_
  refine T_getI dX10_majority_9 fX10_311 rfl SH_197 ?_
  refine U_icmp_ge (tgt := 79) dX10_majority_12 (by decide) (fun hc => ?_) (fun hc => ?_)
  · replace h := h.1 hc
    refine T_iload_n dX10_majority_79 rfl ?_
    exact T_iret dX10_majority_80 rfl (hQ _ h)
  · replace h := h.2 hc
    refine T_iconst dX10_majority_15 (by decide) ?_
    refine T_istore_n dX10_majority_16 (by decide) rfl ?_
    refine T_iconst dX10_majority_17 (by decide) ?_
    refine T_istore dX10_majority_18 (by decide) rfl ?_
    refine n_cut (h (fun (i3 : Int) => n_T G d 0 0 mX10_majority 57 [vR 0, vI i1, vI i2, vI i3, vS 9] [] SH v Q)) ?_ ?_
    · intro i3 h
      refine T_iconst dX10_majority_57 (by decide) ?_
      refine T_iload_n dX10_majority_58 rfl ?_
      refine U_imul dX10_majority_59 h.1 ?_
      replace h := h.2
      refine T_aload_n dX10_majority_60 rfl ?_
      refine T_getI dX10_majority_61 fX10_95 rfl SH_0 ?_
      refine U_icmp_le (tgt := 73) dX10_majority_64 (by decide) (fun hc => ?_) (fun hc => ?_)
      · replace h := h.1 hc
        refine U_iinc dX10_majority_73 rfl (by decide) rfl h.1 ?_
        replace h := h.2
        refine T_goto (tgt := 4) dX10_majority_76 (by decide) ?_
        exact T_drop h ⟨Or.inl rfl, Or.inl rfl, Or.inl rfl, Or.inr rfl, Or.inr rfl, trivial⟩
      · replace h := h.2 hc
        refine T_iload_n dX10_majority_67 rfl ?_
        refine T_iconst dX10_majority_68 (by decide) ?_
        refine T_iload_n dX10_majority_69 rfl ?_
        refine T_ishl dX10_majority_70 ?_
        refine T_ior dX10_majority_71 ?_
        refine U_istore_n dX10_majority_72 (by decide) rfl (fun l1 el1 => ?_)
        replace h := h l1 el1
        refine U_iinc dX10_majority_73 rfl (by decide) rfl h.1 ?_
        replace h := h.2
        refine T_goto (tgt := 4) dX10_majority_76 (by decide) ?_
        exact T_drop h ⟨Or.inl rfl, Or.inl rfl, Or.inl rfl, Or.inr rfl, Or.inr rfl, trivial⟩
    · intro h
      refine T_drop (h (fun (i3_1 : Int) (i4 : Int) => n_T G d 0 0 mX10_majority 20 [vR 0, vI i1, vI i2, vI i3_1, vI i4] [] SH v Q) (fun i3_1 i4 h => ?_)) ⟨Or.inl rfl, Or.inl rfl, Or.inl rfl, Or.inl rfl, Or.inl rfl, trivial⟩
      refine T_iload dX10_majority_20 rfl ?_
      refine T_aload_n dX10_majority_22 rfl ?_
      refine T_getI dX10_majority_23 fX10_95 rfl SH_0 ?_
      refine U_icmp_ge (tgt := 57) dX10_majority_26 (by decide) (fun hc => ?_) (fun hc => ?_)
      · replace h := h.1 hc
        exact T_drop h ⟨Or.inl rfl, Or.inl rfl, Or.inl rfl, Or.inl rfl, Or.inr rfl, trivial⟩
      · replace h := h.2 hc
        refine T_iload_n dX10_majority_29 rfl ?_
        refine T_aload_n dX10_majority_30 rfl ?_
        refine T_getR (r := 197) dX10_majority_31 fX10_54 rfl SH_0 rfl ?_
        refine T_getR (r := 198) dX10_majority_34 fX10_283 rfl SH_197 rfl ?_
        refine T_aload_n dX10_majority_37 rfl ?_
        refine T_getR (r := 213) dX10_majority_38 fX10_79 rfl SH_0 rfl ?_
        refine T_iload dX10_majority_41 rfl ?_
        refine T_iald dX10_majority_43 SH_213 h.1 ?_
        replace h := h.2
        refine T_iald dX10_majority_44 SH_198 h.1 ?_
        replace h := h.2
        refine T_iload_n dX10_majority_45 rfl ?_
        refine T_ishr dX10_majority_46 ?_
        refine T_iconst dX10_majority_47 (by decide) ?_
        refine T_iand dX10_majority_48 ?_
        refine U_iadd dX10_majority_49 h.1 ?_
        replace h := h.2
        refine U_istore_n dX10_majority_50 (by decide) rfl (fun l3 el3 => ?_)
        replace h := h l3 el3
        refine U_iinc dX10_majority_51 rfl (by decide) rfl h.1 ?_
        replace h := h.2
        refine T_goto (tgt := 20) dX10_majority_54 (by decide) ?_
        exact T_drop h ⟨Or.inl rfl, Or.inl rfl, Or.inl rfl, Or.inl rfl, Or.inl rfl, trivial⟩

theorem W_X10_farFromVotes {G : GT} {d : Nat} (hd : 1 ≤ d) {x1 : Int}   {v : VT} {q : Int → Prop} {Q : Option Vl → List Sh → VT → Prop} (h : P_X10_farFromVotes x1 v q) (hQ : ∀ r, q r → Q (some (vI r)) SH v) : n_T G d 0 0 mX10_farFromVotes 0 [vR 0, vI x1, vS 9, vS 9] [] SH v Q := by
  unfold P_X10_farFromVotes at h
  refine T_iconst dX10_farFromVotes_0 (by decide) ?_
  refine T_istore_n dX10_farFromVotes_1 (by decide) rfl ?_
  refine T_iconst dX10_farFromVotes_2 (by decide) ?_
  refine T_istore_n dX10_farFromVotes_3 (by decide) rfl ?_
  refine T_drop (h (fun (i2 : Int) (i3 : Int) => n_T G d 0 0 mX10_farFromVotes 4 [vR 0, vI x1, vI i2, vI i3] [] SH v Q) (fun i2 i3 h => ?_)) ⟨Or.inl rfl, Or.inl rfl, Or.inl rfl, Or.inl rfl, trivial⟩
  refine T_iload_n dX10_farFromVotes_4 rfl ?_
  refine T_aload_n dX10_farFromVotes_5 rfl ?_
  refine T_getI dX10_farFromVotes_6 fX10_95 rfl SH_0 ?_
  refine U_icmp_ge (tgt := 37) dX10_farFromVotes_9 (by decide) (fun hc => ?_) (fun hc => ?_)
  · replace h := h.1 hc
    refine T_iload_n dX10_farFromVotes_37 rfl ?_
    exact T_iret dX10_farFromVotes_38 rfl (hQ _ h)
  · replace h := h.2 hc
    refine T_iload_n dX10_farFromVotes_12 rfl ?_
    refine T_aload_n dX10_farFromVotes_13 rfl ?_
    refine T_getR (r := 138) dX10_farFromVotes_14 fX10_40 rfl SH_0 rfl ?_
    refine T_getR (r := 140) dX10_farFromVotes_17 fX10_219 rfl SH_138 rfl ?_
    refine T_iload_n dX10_farFromVotes_20 rfl ?_
    have hw21 := row_141 h.1
    refine T_aald3 dX10_farFromVotes_21 SH_140 h.1 (rowq_141 h.1) ?_
    replace h := h.2
    refine T_aload_n dX10_farFromVotes_22 rfl ?_
    refine T_getR (r := 213) dX10_farFromVotes_23 fX10_79 rfl SH_0 rfl ?_
    refine T_iload_n dX10_farFromVotes_26 rfl ?_
    refine T_iald dX10_farFromVotes_27 SH_213 h.1 ?_
    replace h := h.2
    refine T_iald dX10_farFromVotes_28 hw21 h.1 ?_
    replace h := h.2
    refine U_iadd dX10_farFromVotes_29 h.1 ?_
    replace h := h.2
    refine U_istore_n dX10_farFromVotes_30 (by decide) rfl (fun l2 el2 => ?_)
    replace h := h l2 el2
    refine U_iinc dX10_farFromVotes_31 rfl (by decide) rfl h.1 ?_
    replace h := h.2
    refine T_goto (tgt := 4) dX10_farFromVotes_34 (by decide) ?_
    exact T_drop h ⟨Or.inl rfl, Or.inl rfl, Or.inl rfl, Or.inl rfl, trivial⟩

theorem W_X10_winner {G : GT} {d : Nat} (hd : 6 ≤ d) {x1 : Int}   {v : VT} {q : Int → VT → Prop} {Q : Option Vl → List Sh → VT → Prop} (h : P_X10_winner x1 v q) (hQ : ∀ r w, q r w → Q (some (vI r)) SH w) : n_T G d 0 0 mX10_winner 0 [vR 0, vI x1, vS 9, vS 9] [] SH v Q := by
  unfold P_X10_winner at h
  refine T_iload_n dX10_winner_0 rfl ?_
  refine U_if_lt (tgt := 41) dX10_winner_1 (by decide) (fun hc => ?_) (fun hc => ?_)
  · replace h := h.1 hc
    refine T_iconst dX10_winner_41 (by decide) ?_
    exact T_iret dX10_winner_42 rfl (hQ _ _ h)
  · replace h := h.2 hc
    refine T_iload_n dX10_winner_4 rfl ?_
    refine T_iconst dX10_winner_5 (by decide) ?_
    refine U_icmp_gt (tgt := 41) dX10_winner_6 (by decide) (fun hc => ?_) (fun hc => ?_)
    · replace h := h.1 hc
      refine T_iconst dX10_winner_41 (by decide) ?_
      exact T_iret dX10_winner_42 rfl (hQ _ _ h)
    · replace h := h.2 hc
      refine T_aload_n dX10_winner_9 rfl ?_
      refine T_getI dX10_winner_10 fX10_95 rfl SH_0 ?_
      refine U_if_eq (tgt := 41) dX10_winner_13 (by decide) (fun hc => ?_) (fun hc => ?_)
      · replace h := h.1 hc
        refine T_iconst dX10_winner_41 (by decide) ?_
        exact T_iret dX10_winner_42 rfl (hQ _ _ h)
      · replace h := h.2 hc
        refine T_aload_n dX10_winner_16 rfl ?_
        refine U_callV (as := []) (st := []) dX10_winner_17 kX10_measured lX10_203 SH_0 rfl rfl rfl rfl (Nat.le_of_ble_eq_true rfl) (Nat.le_of_ble_eq_true rfl) (by omega) ?_
        refine W_X10_measured (by omega)  h (fun v17 h => ?_)
        show n_T G d 0 0 mX10_winner 20 [vR 0, vI x1, vS 9, vS 9] [vR 138] SH v17 Q
        refine T_getI dX10_winner_20 fX10_326 rfl SH_138 ?_
        refine U_if_eq (tgt := 41) dX10_winner_23 (by decide) (fun hc => ?_) (fun hc => ?_)
        · replace h := h.1 hc
          refine T_iconst dX10_winner_41 (by decide) ?_
          exact T_iret dX10_winner_42 rfl (hQ _ _ h)
        · replace h := h.2 hc
          refine T_aload_n dX10_winner_26 rfl ?_
          refine T_aload_n dX10_winner_27 rfl ?_
          refine T_getR (r := 213) dX10_winner_28 fX10_79 rfl SH_0 rfl ?_
          refine T_aload_n dX10_winner_31 rfl ?_
          refine T_getI dX10_winner_32 fX10_95 rfl SH_0 ?_
          refine U_callV (as := [vR 213, vI (v17 0 15)]) (st := []) dX10_winner_35 kX10_areNodesStill lX10_329 SH_0 rfl rfl rfl rfl (Nat.le_of_ble_eq_true rfl) (Nat.le_of_ble_eq_true rfl) (by omega) ?_
          refine W_X10_areNodesStill (by omega) SH_213 (by decide) h (fun r35 h => ?_)
          show n_T G d 0 0 mX10_winner 38 [vR 0, vI x1, vS 9, vS 9] [vI r35] SH v17 Q
          refine U_if_ne (tgt := 43) dX10_winner_38 (by decide) (fun hc => ?_) (fun hc => ?_)
          · replace h := h.1 hc
            refine T_iload_n dX10_winner_43 rfl ?_
            refine T_iconst dX10_winner_44 (by decide) ?_
            refine U_icmp_ne (tgt := 74) dX10_winner_45 (by decide) (fun hc => ?_) (fun hc => ?_)
            · replace h := h.1 hc
              refine T_iconst dX10_winner_74 (by decide) ?_
              refine T_istore_n dX10_winner_75 (by decide) rfl ?_
              refine T_iconst dX10_winner_76 (by decide) ?_
              refine T_istore_n dX10_winner_77 (by decide) rfl ?_
              refine T_drop (h (fun (i2 : Int) (i3 : Int) => n_T G d 0 0 mX10_winner 78 [vR 0, vI x1, vI i2, vI i3] [] SH v17 Q) (fun i2 i3 h => ?_)) ⟨Or.inl rfl, Or.inl rfl, Or.inl rfl, Or.inl rfl, trivial⟩
              refine T_iload_n dX10_winner_78 rfl ?_
              refine T_aload_n dX10_winner_79 rfl ?_
              refine T_getR (r := 10) dX10_winner_80 fX10_26 rfl SH_0 rfl ?_
              refine T_getI dX10_winner_83 fX10_146 rfl SH_10 ?_
              refine U_icmp_ge (tgt := 110) dX10_winner_86 (by decide) (fun hc => ?_) (fun hc => ?_)
              · replace h := h.1 hc
                refine T_iload_n dX10_winner_110 rfl ?_
                refine U_if_ne (tgt := 118) dX10_winner_111 (by decide) (fun hc => ?_) (fun hc => ?_)
                · replace h := h.1 hc
                  refine T_aload_n dX10_winner_118 rfl ?_
                  refine T_iload_n dX10_winner_119 rfl ?_
                  refine U_callV (as := [vI i2]) (st := []) dX10_winner_120 kX10_farFromVotes lX10_336 SH_0 rfl rfl rfl rfl (Nat.le_of_ble_eq_true rfl) (Nat.le_of_ble_eq_true rfl) (by omega) ?_
                  refine W_X10_farFromVotes (by omega)  h (fun r120 h => ?_)
                  show n_T G d 0 0 mX10_winner 123 [vR 0, vI x1, vI i2, vI i3] [vI r120] SH v17 Q
                  exact T_iret dX10_winner_123 rfl (hQ _ _ h)
                · replace h := h.2 hc
                  refine T_iload_n dX10_winner_114 rfl ?_
                  refine T_goto (tgt := 123) dX10_winner_115 (by decide) ?_
                  exact T_iret dX10_winner_123 rfl (hQ _ _ h)
              · replace h := h.2 hc
                refine T_aload_n dX10_winner_89 rfl ?_
                refine T_iload_n dX10_winner_90 rfl ?_
                refine U_callV (as := [vI i3]) (st := []) dX10_winner_91 kX10_farFromVotes lX10_336 SH_0 rfl rfl rfl rfl (Nat.le_of_ble_eq_true rfl) (Nat.le_of_ble_eq_true rfl) (by omega) ?_
                refine W_X10_farFromVotes (by omega)  h (fun r91 h => ?_)
                show n_T G d 0 0 mX10_winner 94 [vR 0, vI x1, vI i2, vI i3] [vI r91] SH v17 Q
                refine T_aload_n dX10_winner_94 rfl ?_
                refine T_iload_n dX10_winner_95 rfl ?_
                refine U_callV (as := [vI i2]) (st := [vI r91]) dX10_winner_96 kX10_farFromVotes lX10_336 SH_0 rfl rfl rfl rfl (Nat.le_of_ble_eq_true rfl) (Nat.le_of_ble_eq_true rfl) (by omega) ?_
                refine W_X10_farFromVotes (by omega)  h (fun r96 h => ?_)
                show n_T G d 0 0 mX10_winner 99 [vR 0, vI x1, vI i2, vI i3] [vI r96, vI r91] SH v17 Q
                refine U_icmp_ge (tgt := 104) dX10_winner_99 (by decide) (fun hc => ?_) (fun hc => ?_)
                · replace h := h.1 hc
                  refine U_iinc dX10_winner_104 rfl (by decide) rfl h.1 ?_
                  replace h := h.2
                  refine T_goto (tgt := 78) dX10_winner_107 (by decide) ?_
                  exact T_drop h ⟨Or.inl rfl, Or.inl rfl, Or.inl rfl, Or.inl rfl, trivial⟩
                · replace h := h.2 hc
                  refine T_iload_n dX10_winner_102 rfl ?_
                  refine T_istore_n dX10_winner_103 (by decide) rfl ?_
                  refine U_iinc dX10_winner_104 rfl (by decide) rfl h.1 ?_
                  replace h := h.2
                  refine T_goto (tgt := 78) dX10_winner_107 (by decide) ?_
                  exact T_drop h ⟨Or.inl rfl, Or.inl rfl, Or.inl rfl, Or.inl rfl, trivial⟩
            · replace h := h.2 hc
              refine T_aload_n dX10_winner_48 rfl ?_
              refine U_callV (as := []) (st := []) dX10_winner_49 kX10_seated lX10_160 SH_0 rfl rfl rfl rfl (Nat.le_of_ble_eq_true rfl) (Nat.le_of_ble_eq_true rfl) (by omega) ?_
              refine W_X10_seated (by omega)  h (fun v49 h => ?_)
              show n_T G d 0 0 mX10_winner 52 [vR 0, vI x1, vS 9, vS 9] [vR 197] SH v49 Q
              refine T_getI dX10_winner_52 fX10_279 rfl SH_197 ?_
              refine U_if_eq (tgt := 72) dX10_winner_55 (by decide) (fun hc => ?_) (fun hc => ?_)
              · replace h := h.1 hc
                refine T_iconst dX10_winner_72 (by decide) ?_
                exact T_iret dX10_winner_73 rfl (hQ _ _ h)
              · replace h := h.2 hc
                refine T_aload_n dX10_winner_58 rfl ?_
                refine T_getR (r := 197) dX10_winner_59 fX10_54 rfl SH_0 rfl ?_
                refine T_aload_n dX10_winner_62 rfl ?_
                refine U_callV (as := []) (st := [vR 197]) dX10_winner_63 kX10_majority lX10_333 SH_0 rfl rfl rfl rfl (Nat.le_of_ble_eq_true rfl) (Nat.le_of_ble_eq_true rfl) (by omega) ?_
                refine W_X10_majority (by omega)  h (fun r63 h => ?_)
                show n_T G d 0 0 mX10_winner 66 [vR 0, vI x1, vS 9, vS 9] [vI r63, vR 197] SH v49 Q
                refine U_callV (as := [vI r63]) (st := []) dX10_winner_66 kX8_nodeAt lX10_286 SH_197 rfl rfl rfl rfl (Nat.le_of_ble_eq_true rfl) (Nat.le_of_ble_eq_true rfl) (by omega) ?_
                refine W_X8_nodeAt (by omega)  h (fun r66 h => ?_)
                show n_T G d 0 0 mX10_winner 69 [vR 0, vI x1, vS 9, vS 9] [vI r66] SH v49 Q
                refine T_goto (tgt := 73) dX10_winner_69 (by decide) ?_
                exact T_iret dX10_winner_73 rfl (hQ _ _ h)
          · replace h := h.2 hc
            refine T_iconst dX10_winner_41 (by decide) ?_
            exact T_iret dX10_winner_42 rfl (hQ _ _ h)

theorem W_X10_isSet {G : GT} {d : Nat} (hd : 5 ≤ d) {x1 : Int}   {v : VT} {q : Int → VT → Prop} {Q : Option Vl → List Sh → VT → Prop} (h : P_X10_isSet x1 v q) (hQ : ∀ r w, q r w → Q (some (vI r)) SH w) : n_T G d 0 0 mX10_isSet 0 [vR 0, vI x1] [] SH v Q := by
  unfold P_X10_isSet at h
  refine T_aload_n dX10_isSet_0 rfl ?_
  refine T_getR (r := 10) dX10_isSet_1 fX10_26 rfl SH_0 rfl ?_
  refine T_getI dX10_isSet_4 fX10_146 rfl SH_10 ?_
  refine U_if_le (tgt := 41) dX10_isSet_7 (by decide) (fun hc => ?_) (fun hc => ?_)
  · replace h := h.1 hc
    refine T_iconst dX10_isSet_41 (by decide) ?_
    exact T_zret dX10_isSet_42 rfl (by decide) (hQ _ _ h)
  · replace h := h.2 hc
    refine T_aload_n dX10_isSet_10 rfl ?_
    refine U_callV (as := []) (st := []) dX10_isSet_11 kX10_measured lX10_203 SH_0 rfl rfl rfl rfl (Nat.le_of_ble_eq_true rfl) (Nat.le_of_ble_eq_true rfl) (by omega) ?_
    refine W_X10_measured (by omega)  h (fun v11 h => ?_)
    show n_T G d 0 0 mX10_isSet 14 [vR 0, vI x1] [vR 138] SH v11 Q
    refine T_getI dX10_isSet_14 fX10_326 rfl SH_138 ?_
    refine U_if_eq (tgt := 41) dX10_isSet_17 (by decide) (fun hc => ?_) (fun hc => ?_)
    · replace h := h.1 hc
      refine T_iconst dX10_isSet_41 (by decide) ?_
      exact T_zret dX10_isSet_42 rfl (by decide) (hQ _ _ h)
    · replace h := h.2 hc
      refine T_iload_n dX10_isSet_20 rfl ?_
      refine T_aload_n dX10_isSet_21 rfl ?_
      refine T_getR (r := 10) dX10_isSet_22 fX10_26 rfl SH_0 rfl ?_
      refine T_getI dX10_isSet_25 fX10_146 rfl SH_10 ?_
      refine U_callS (as := [vI (v11 10 0)]) (st := [vI x1]) dX10_isSet_28 kX10_allBits lX10_314 rfl rfl (Nat.le_of_ble_eq_true rfl) (Nat.le_of_ble_eq_true rfl) (by omega) ?_
      refine W_X10_allBits (by omega)  h (fun r28 h => ?_)
      show n_T G d 0 0 mX10_isSet 31 [vR 0, vI x1] [vI r28, vI x1] SH v11 Q
      refine T_iconst dX10_isSet_31 (by decide) ?_
      refine T_ixor dX10_isSet_32 ?_
      refine T_iand dX10_isSet_33 ?_
      refine U_if_ne (tgt := 41) dX10_isSet_34 (by decide) (fun hc => ?_) (fun hc => ?_)
      · replace h := h.1 hc
        refine T_iconst dX10_isSet_41 (by decide) ?_
        exact T_zret dX10_isSet_42 rfl (by decide) (hQ _ _ h)
      · replace h := h.2 hc
        refine T_iconst dX10_isSet_37 (by decide) ?_
        refine T_goto (tgt := 42) dX10_isSet_38 (by decide) ?_
        exact T_zret dX10_isSet_42 rfl (by decide) (hQ _ _ h)

theorem W_X10_set {G : GT} {d : Nat} (hd : 6 ≤ d) {x1 : Int} {x2 : Int}   {v : VT} {q : Int → VT → Prop} {Q : Option Vl → List Sh → VT → Prop} (h : P_X10_set x1 x2 v q) (hQ : ∀ r w, q r w → Q (some (vI r)) SH w) : n_T G d 0 0 mX10_set 0 [vR 0, vI x1, vI x2, vS 9] [] SH v Q := by
  unfold P_X10_set at h
  refine T_iload_n dX10_set_0 rfl ?_
  refine U_if_lt (tgt := 17) dX10_set_1 (by decide) (fun hc => ?_) (fun hc => ?_)
  · replace h := h.1 hc
    refine T_iconst dX10_set_17 (by decide) ?_
    exact T_iret dX10_set_18 rfl (hQ _ _ h)
  · replace h := h.2 hc
    refine T_iload_n dX10_set_4 rfl ?_
    refine T_iconst dX10_set_5 (by decide) ?_
    refine U_icmp_gt (tgt := 17) dX10_set_6 (by decide) (fun hc => ?_) (fun hc => ?_)
    · replace h := h.1 hc
      refine T_iconst dX10_set_17 (by decide) ?_
      exact T_iret dX10_set_18 rfl (hQ _ _ h)
    · replace h := h.2 hc
      refine T_aload_n dX10_set_9 rfl ?_
      refine T_iload_n dX10_set_10 rfl ?_
      refine U_callV (as := [vI x1]) (st := []) dX10_set_11 kX10_isSet lX10_339 SH_0 rfl rfl rfl rfl (Nat.le_of_ble_eq_true rfl) (Nat.le_of_ble_eq_true rfl) (by omega) ?_
      refine W_X10_isSet (by omega)  h (fun r11 v11 h => ?_)
      show n_T G d 0 0 mX10_set 14 [vR 0, vI x1, vI x2, vS 9] [vI r11] SH v11 Q
      refine U_if_ne (tgt := 19) dX10_set_14 (by decide) (fun hc => ?_) (fun hc => ?_)
      · replace h := h.1 hc
        refine T_iload_n dX10_set_19 rfl ?_
        refine U_if_ne (tgt := 34) dX10_set_20 (by decide) (fun hc => ?_) (fun hc => ?_)
        · replace h := h.1 hc
          refine T_aload_n dX10_set_34 rfl ?_
          refine T_getR (r := 138) dX10_set_35 fX10_40 rfl SH_0 rfl ?_
          refine T_iload_n dX10_set_38 rfl ?_
          refine U_callV (as := [vI x1]) (st := []) dX10_set_39 kX2_widen lX10_345 SH_138 rfl rfl rfl rfl (Nat.le_of_ble_eq_true rfl) (Nat.le_of_ble_eq_true rfl) (by omega) ?_
          refine W_X2_widen (by omega)  h (fun r39 v39 h => ?_)
          show n_T G d 0 0 mX10_set 42 [vR 0, vI x1, vI x2, vS 9] [vI r39] SH v39 Q
          refine T_iload_n dX10_set_42 rfl ?_
          refine U_icmp_ne (tgt := 50) dX10_set_43 (by decide) (fun hc => ?_) (fun hc => ?_)
          · replace h := h.1 hc
            refine T_iconst dX10_set_50 (by decide) ?_
            refine T_istore_n dX10_set_51 (by decide) rfl ?_
            refine T_iload_n dX10_set_52 rfl ?_
            refine U_if_eq (tgt := 60) dX10_set_53 (by decide) (fun _ => ?_) (fun hc => absurd hc (by decide))
            refine T_iconst dX10_set_60 (by decide) ?_
            exact T_iret dX10_set_61 rfl (hQ _ _ h)
          · replace h := h.2 hc
            refine T_iconst dX10_set_46 (by decide) ?_
            refine T_goto (tgt := 51) dX10_set_47 (by decide) ?_
            refine T_istore_n dX10_set_51 (by decide) rfl ?_
            refine T_iload_n dX10_set_52 rfl ?_
            refine U_if_eq (tgt := 60) dX10_set_53 (by decide) (fun hc => absurd hc (by decide)) (fun _ => ?_)
            refine T_iconst dX10_set_56 (by decide) ?_
            refine T_goto (tgt := 61) dX10_set_57 (by decide) ?_
            exact T_iret dX10_set_61 rfl (hQ _ _ h)
        · replace h := h.2 hc
          refine T_aload_n dX10_set_23 rfl ?_
          refine T_getR (r := 138) dX10_set_24 fX10_40 rfl SH_0 rfl ?_
          refine T_iload_n dX10_set_27 rfl ?_
          refine U_callV (as := [vI x1]) (st := []) dX10_set_28 kX2_isTrue lX10_342 SH_138 rfl rfl rfl rfl (Nat.le_of_ble_eq_true rfl) (Nat.le_of_ble_eq_true rfl) (by omega) ?_
          refine W_X2_isTrue (by omega)  h (fun r28 h => ?_)
          show n_T G d 0 0 mX10_set 31 [vR 0, vI x1, vI x2, vS 9] [vI r28] SH v11 Q
          refine T_goto (tgt := 51) dX10_set_31 (by decide) ?_
          refine T_istore_n dX10_set_51 (by decide) rfl ?_
          refine T_iload_n dX10_set_52 rfl ?_
          refine U_if_eq (tgt := 60) dX10_set_53 (by decide) (fun hc => ?_) (fun hc => ?_)
          · replace h := h.1 hc
            refine T_iconst dX10_set_60 (by decide) ?_
            exact T_iret dX10_set_61 rfl (hQ _ _ h)
          · replace h := h.2 hc
            refine T_iconst dX10_set_56 (by decide) ?_
            refine T_goto (tgt := 61) dX10_set_57 (by decide) ?_
            exact T_iret dX10_set_61 rfl (hQ _ _ h)
      · replace h := h.2 hc
        refine T_iconst dX10_set_17 (by decide) ?_
        exact T_iret dX10_set_18 rfl (hQ _ _ h)

theorem W_X10_hull {G : GT} {d : Nat} (hd : 6 ≤ d) {x1 : Int}   {v : VT} {q : Int → VT → Prop} {Q : Option Vl → List Sh → VT → Prop} (h : P_X10_hull x1 v q) (hQ : ∀ r w, q r w → Q (some (vI r)) SH w) : n_T G d 0 0 mX10_hull 0 [vR 0, vI x1] [] SH v Q := by
  unfold P_X10_hull at h
  refine T_aload_n dX10_hull_0 rfl ?_
  refine T_iload_n dX10_hull_1 rfl ?_
  refine U_callV (as := [vI x1]) (st := []) dX10_hull_2 kX10_isSet lX10_339 SH_0 rfl rfl rfl rfl (Nat.le_of_ble_eq_true rfl) (Nat.le_of_ble_eq_true rfl) (by omega) ?_
  refine W_X10_isSet (by omega)  h (fun r2 v2 h => ?_)
  show n_T G d 0 0 mX10_hull 5 [vR 0, vI x1] [vI r2] SH v2 Q
  refine U_if_eq (tgt := 19) dX10_hull_5 (by decide) (fun hc => ?_) (fun hc => ?_)
  · replace h := h.1 hc
    refine T_iconst dX10_hull_19 (by decide) ?_
    exact T_iret dX10_hull_20 rfl (hQ _ _ h)
  · replace h := h.2 hc
    refine T_aload_n dX10_hull_8 rfl ?_
    refine T_getR (r := 138) dX10_hull_9 fX10_40 rfl SH_0 rfl ?_
    refine T_iload_n dX10_hull_12 rfl ?_
    refine U_callV (as := [vI x1]) (st := []) dX10_hull_13 kX2_close lX10_348 SH_138 rfl rfl rfl rfl (Nat.le_of_ble_eq_true rfl) (Nat.le_of_ble_eq_true rfl) (by omega) ?_
    refine W_X2_close (by omega)  h (fun r13 v13 h => ?_)
    show n_T G d 0 0 mX10_hull 16 [vR 0, vI x1] [vI r13] SH v13 Q
    refine T_goto (tgt := 20) dX10_hull_16 (by decide) ?_
    exact T_iret dX10_hull_20 rfl (hQ _ _ h)

theorem W_X10_gate {G : GT} {d : Nat} (hd : 6 ≤ d) {x1 : Int} {x2 : Int}   {v : VT} {q : Int → VT → Prop} {Q : Option Vl → List Sh → VT → Prop} (h : P_X10_gate x1 x2 v q) (hQ : ∀ r w, q r w → Q (some (vI r)) SH w) : n_T G d 0 0 mX10_gate 0 [vR 0, vI x1, vI x2] [] SH v Q := by
  unfold P_X10_gate at h
  refine T_aload_n dX10_gate_0 rfl ?_
  refine T_getR (r := 10) dX10_gate_1 fX10_26 rfl SH_0 rfl ?_
  refine T_iload_n dX10_gate_4 rfl ?_
  refine U_callV (as := [vI x1]) (st := []) dX10_gate_5 kX0_isNode lX10_171 SH_10 rfl rfl rfl rfl (Nat.le_of_ble_eq_true rfl) (Nat.le_of_ble_eq_true rfl) (by omega) ?_
  refine W_X0_isNode (by omega) isG_at10 h (fun r5 h => ?_)
  show n_T G d 0 0 mX10_gate 8 [vR 0, vI x1, vI x2] [vI r5] SH v Q
  refine U_if_eq (tgt := 19) dX10_gate_8 (by decide) (fun hc => ?_) (fun hc => ?_)
  · replace h := h.1 hc
    refine T_iconst dX10_gate_19 (by decide) ?_
    exact T_iret dX10_gate_20 rfl (hQ _ _ h)
  · replace h := h.2 hc
    refine T_aload_n dX10_gate_11 rfl ?_
    refine T_iload_n dX10_gate_12 rfl ?_
    refine U_callV (as := [vI x2]) (st := []) dX10_gate_13 kX10_isSet lX10_339 SH_0 rfl rfl rfl rfl (Nat.le_of_ble_eq_true rfl) (Nat.le_of_ble_eq_true rfl) (by omega) ?_
    refine W_X10_isSet (by omega)  h (fun r13 v13 h => ?_)
    show n_T G d 0 0 mX10_gate 16 [vR 0, vI x1, vI x2] [vI r13] SH v13 Q
    refine U_if_ne (tgt := 21) dX10_gate_16 (by decide) (fun hc => ?_) (fun hc => ?_)
    · replace h := h.1 hc
      refine T_aload_n dX10_gate_21 rfl ?_
      refine T_getR (r := 138) dX10_gate_22 fX10_40 rfl SH_0 rfl ?_
      refine T_iload_n dX10_gate_25 rfl ?_
      refine T_iload_n dX10_gate_26 rfl ?_
      refine U_callV (as := [vI x1, vI x2]) (st := []) dX10_gate_27 kX2_findGate lX10_351 SH_138 rfl rfl rfl rfl (Nat.le_of_ble_eq_true rfl) (Nat.le_of_ble_eq_true rfl) (by omega) ?_
      refine W_X2_findGate (by omega)  h (fun r27 h => ?_)
      show n_T G d 0 0 mX10_gate 30 [vR 0, vI x1, vI x2] [vI r27] SH v13 Q
      exact T_iret dX10_gate_30 rfl (hQ _ _ h)
    · replace h := h.2 hc
      refine T_iconst dX10_gate_19 (by decide) ?_
      exact T_iret dX10_gate_20 rfl (hQ _ _ h)

theorem W_X10_see {G : GT} {d : Nat} (hd : 2 ≤ d)    {v : VT} {q : Int → VT → Prop} {Q : Option Vl → List Sh → VT → Prop} (h : P_X10_see  v q) (hQ : ∀ r w, q r w → Q (some (vI r)) SH w) : n_T G d 0 0 mX10_see 0 [vR 0, vS 9, vS 9, vS 9] [] SH v Q := by
  unfold P_X10_see at h
  refine T_aload_n dX10_see_0 rfl ?_
  refine T_getR (r := 1) dX10_see_1 fX10_10 rfl SH_0 rfl ?_
  refine T_getI dX10_see_4 fX10_105 rfl SH_1 ?_
  refine T_istore_n dX10_see_7 (by decide) rfl ?_
  refine T_aload_n dX10_see_8 rfl ?_
  refine T_getR (r := 1) dX10_see_9 fX10_10 rfl SH_0 rfl ?_
  refine T_iconst dX10_see_12 (by decide) ?_
  refine U_putI dX10_see_13 fX10_105 rfl rfl SH_1 (fun v13 ev13 => ?_)
  replace h := h v13 ev13
  refine T_iload_n dX10_see_16 rfl ?_
  refine T_iconst dX10_see_17 (by decide) ?_
  refine n_cut (h (fun (s0 : Int) => n_T G d 0 0 mX10_see 38 [vR 0, vI (v 1 1), vS 9, vS 9] [vI s0] SH v13 Q)) ?_ ?_
  · intro s0 h
    refine T_istore_n dX10_see_38 (by decide) rfl ?_
    refine T_iconst dX10_see_39 (by decide) ?_
    refine T_istore_n dX10_see_40 (by decide) rfl ?_
    refine n_cut (h (fun (i2 : Int) => n_T G d 0 0 mX10_see 99 [vR 0, vI (v 1 1), vI i2, vS 9] [] SH v13 Q)) ?_ ?_
    · intro i2 h
      refine T_iload_n dX10_see_99 rfl ?_
      refine U_if_ne (tgt := 109) dX10_see_100 (by decide) (fun hc => ?_) (fun hc => ?_)
      · replace h := h.1 hc
        refine T_aload_n dX10_see_109 rfl ?_
        refine T_iload_n dX10_see_110 rfl ?_
        refine T_iconst dX10_see_111 (by decide) ?_
        refine T_idiv dX10_see_112 (by decide) ?_
        refine U_putI dX10_see_113 fX10_99 rfl rfl SH_0 (fun v113 ev113 => ?_)
        replace h := h v113 ev113
        refine T_iconst dX10_see_116 (by decide) ?_
        refine T_istore_n dX10_see_117 (by decide) rfl ?_
        refine T_drop (h (fun (i3 : Int) (v118 : VT) => n_T G d 0 0 mX10_see 118 [vR 0, vS 9, vS 9, vI i3] [] SH v118 Q) (fun i3 v118 h => ?_)) ⟨Or.inl rfl, Or.inr rfl, Or.inr rfl, Or.inl rfl, trivial⟩
        refine T_iload_n dX10_see_118 rfl ?_
        refine T_aload_n dX10_see_119 rfl ?_
        refine T_getI dX10_see_120 fX10_99 rfl SH_0 ?_
        refine U_icmp_ge (tgt := 168) dX10_see_123 (by decide) (fun hc => ?_) (fun hc => ?_)
        · replace h := h.1 hc
          refine T_aload_n dX10_see_168 rfl ?_
          refine T_getI dX10_see_169 fX10_99 rfl SH_0 ?_
          exact T_iret dX10_see_172 rfl (hQ _ _ h)
        · replace h := h.2 hc
          refine T_aload_n dX10_see_126 rfl ?_
          refine T_getR (r := 214) dX10_see_127 fX10_83 rfl SH_0 rfl ?_
          refine T_iload_n dX10_see_130 rfl ?_
          refine T_aload_n dX10_see_131 rfl ?_
          refine T_getR (r := 1) dX10_see_132 fX10_10 rfl SH_0 rfl ?_
          refine T_getR (r := 2) dX10_see_135 fX10_323 rfl SH_1 rfl ?_
          refine T_iconst dX10_see_138 (by decide) ?_
          refine T_iload_n dX10_see_139 rfl ?_
          refine U_imul dX10_see_140 h.1 ?_
          replace h := h.2
          refine T_iald dX10_see_141 SH_2 h.1 ?_
          replace h := h.2
          refine U_iast dX10_see_142 SH_214 h.1 (fun v142 ev142 => ?_)
          replace h := h.2 v142 ev142
          refine T_aload_n dX10_see_143 rfl ?_
          refine T_getR (r := 215) dX10_see_144 fX10_86 rfl SH_0 rfl ?_
          refine T_iload_n dX10_see_147 rfl ?_
          refine T_aload_n dX10_see_148 rfl ?_
          refine T_getR (r := 1) dX10_see_149 fX10_10 rfl SH_0 rfl ?_
          refine T_getR (r := 2) dX10_see_152 fX10_323 rfl SH_1 rfl ?_
          refine T_iconst dX10_see_155 (by decide) ?_
          refine T_iload_n dX10_see_156 rfl ?_
          refine U_imul dX10_see_157 h.1 ?_
          replace h := h.2
          refine T_iconst dX10_see_158 (by decide) ?_
          refine U_iadd dX10_see_159 h.1 ?_
          replace h := h.2
          refine T_iald dX10_see_160 SH_2 h.1 ?_
          replace h := h.2
          refine U_iast dX10_see_161 SH_215 h.1 (fun v161 ev161 => ?_)
          replace h := h.2 v161 ev161
          refine U_iinc dX10_see_162 rfl (by decide) rfl h.1 ?_
          replace h := h.2
          refine T_goto (tgt := 118) dX10_see_165 (by decide) ?_
          exact T_drop h ⟨Or.inl rfl, Or.inr rfl, Or.inr rfl, Or.inl rfl, trivial⟩
      · replace h := h.2 hc
        refine T_aload_n dX10_see_103 rfl ?_
        refine T_iconst dX10_see_104 (by decide) ?_
        refine U_callV (as := [vI 1]) (st := []) dX10_see_105 kX10_refuse lX10_108 SH_0 rfl rfl rfl rfl (Nat.le_of_ble_eq_true rfl) (Nat.le_of_ble_eq_true rfl) (by omega) ?_
        refine W_X10_refuse (by omega)  h (fun r105 v105 h => ?_)
        show n_T G d 0 0 mX10_see 108 [vR 0, vI (v 1 1), vI i2, vS 9] [vI r105] SH v105 Q
        exact T_iret dX10_see_108 rfl (hQ _ _ h)
    · intro h
      refine T_drop (h (fun (i2_1 : Int) (i3_1 : Int) => n_T G d 0 0 mX10_see 41 [vR 0, vI (v 1 1), vI i2_1, vI i3_1] [] SH v13 Q) (fun i2_1 i3_1 h => ?_)) ⟨Or.inl rfl, Or.inl rfl, Or.inl rfl, Or.inl rfl, trivial⟩
      refine T_iload_n dX10_see_41 rfl ?_
      refine U_if_eq (tgt := 99) dX10_see_42 (by decide) (fun hc => ?_) (fun hc => ?_)
      · replace h := h.1 hc
        exact T_drop h ⟨Or.inl rfl, Or.inl rfl, Or.inl rfl, Or.inr rfl, trivial⟩
      · replace h := h.2 hc
        refine T_iload_n dX10_see_45 rfl ?_
        refine T_iconst dX10_see_46 (by decide) ?_
        refine U_iadd dX10_see_47 h.1 ?_
        replace h := h.2
        refine T_iload_n dX10_see_48 rfl ?_
        refine U_icmp_ge (tgt := 99) dX10_see_49 (by decide) (fun hc => ?_) (fun hc => ?_)
        · replace h := h.1 hc
          exact T_drop h ⟨Or.inl rfl, Or.inl rfl, Or.inl rfl, Or.inr rfl, trivial⟩
        · replace h := h.2 hc
          refine T_aload_n dX10_see_52 rfl ?_
          refine T_getR (r := 10) dX10_see_53 fX10_26 rfl SH_0 rfl ?_
          refine T_aload_n dX10_see_56 rfl ?_
          refine T_getR (r := 1) dX10_see_57 fX10_10 rfl SH_0 rfl ?_
          refine T_getR (r := 2) dX10_see_60 fX10_323 rfl SH_1 rfl ?_
          refine T_iload_n dX10_see_63 rfl ?_
          refine T_iald dX10_see_64 SH_2 h.1 ?_
          replace h := h.2
          refine U_callV (as := [vI (v13 2 i3_1.toNat)]) (st := []) dX10_see_65 kX0_isNode lX10_171 SH_10 rfl rfl rfl rfl (Nat.le_of_ble_eq_true rfl) (Nat.le_of_ble_eq_true rfl) (by omega) ?_
          refine W_X0_isNode (by omega) isG_at10 h (fun r65 h => ?_)
          show n_T G d 0 0 mX10_see 68 [vR 0, vI (v 1 1), vI i2_1, vI i3_1] [vI r65] SH v13 Q
          refine U_if_eq (tgt := 91) dX10_see_68 (by decide) (fun hc => ?_) (fun hc => ?_)
          · replace h := h.1 hc
            refine T_iconst dX10_see_91 (by decide) ?_
            refine T_istore_n dX10_see_92 (by decide) rfl ?_
            refine U_iinc dX10_see_93 rfl (by decide) rfl h.1 ?_
            replace h := h.2
            refine T_goto (tgt := 41) dX10_see_96 (by decide) ?_
            exact T_drop h ⟨Or.inl rfl, Or.inl rfl, Or.inl rfl, Or.inl rfl, trivial⟩
          · replace h := h.2 hc
            refine T_aload_n dX10_see_71 rfl ?_
            refine T_getR (r := 1) dX10_see_72 fX10_10 rfl SH_0 rfl ?_
            refine T_getR (r := 2) dX10_see_75 fX10_323 rfl SH_1 rfl ?_
            refine T_iload_n dX10_see_78 rfl ?_
            refine T_iconst dX10_see_79 (by decide) ?_
            refine U_iadd dX10_see_80 h.1 ?_
            replace h := h.2
            refine T_iald dX10_see_81 SH_2 h.1 ?_
            replace h := h.2
            refine T_bipush dX10_see_82 (by decide) ?_
            refine U_icmp_gt (tgt := 91) dX10_see_84 (by decide) (fun hc => ?_) (fun hc => ?_)
            · replace h := h.1 hc
              refine T_iconst dX10_see_91 (by decide) ?_
              refine T_istore_n dX10_see_92 (by decide) rfl ?_
              refine U_iinc dX10_see_93 rfl (by decide) rfl h.1 ?_
              replace h := h.2
              refine T_goto (tgt := 41) dX10_see_96 (by decide) ?_
              exact T_drop h ⟨Or.inl rfl, Or.inl rfl, Or.inl rfl, Or.inl rfl, trivial⟩
            · replace h := h.2 hc
              refine T_iconst dX10_see_87 (by decide) ?_
              refine T_goto (tgt := 92) dX10_see_88 (by decide) ?_
              refine T_istore_n dX10_see_92 (by decide) rfl ?_
              refine U_iinc dX10_see_93 rfl (by decide) rfl h.1 ?_
              replace h := h.2
              refine T_goto (tgt := 41) dX10_see_96 (by decide) ?_
              exact T_drop h ⟨Or.inl rfl, Or.inl rfl, Or.inl rfl, Or.inl rfl, trivial⟩
  · intro h
    refine n_cut (h (n_T G d 0 0 mX10_see 37 [vR 0, vI (v 1 1), vS 9, vS 9] [] SH v13 Q)) ?_ ?_
    · intro h
      refine T_iconst dX10_see_37 (by decide) ?_
      exact T_drop h ⟨Or.inl rfl, Or.inl rfl, Or.inr rfl, Or.inr rfl, trivial⟩
    · intro h
      refine U_icmp_lt (tgt := 37) dX10_see_18 (by decide) (fun hc => ?_) (fun hc => ?_)
      · replace h := h.1 hc
        exact T_drop h ⟨Or.inl rfl, Or.inl rfl, Or.inr rfl, Or.inr rfl, trivial⟩
      · replace h := h.2 hc
        refine T_iload_n dX10_see_21 rfl ?_
        refine T_bipush dX10_see_22 (by decide) ?_
        refine U_icmp_gt (tgt := 37) dX10_see_24 (by decide) (fun hc => ?_) (fun hc => ?_)
        · replace h := h.1 hc
          exact T_drop h ⟨Or.inl rfl, Or.inl rfl, Or.inr rfl, Or.inr rfl, trivial⟩
        · replace h := h.2 hc
          refine T_iload_n dX10_see_27 rfl ?_
          refine T_iconst dX10_see_28 (by decide) ?_
          refine T_irem dX10_see_29 (by decide) ?_
          refine U_if_ne (tgt := 37) dX10_see_30 (by decide) (fun hc => ?_) (fun hc => ?_)
          · replace h := h.1 hc
            exact T_drop h ⟨Or.inl rfl, Or.inl rfl, Or.inr rfl, Or.inr rfl, trivial⟩
          · replace h := h.2 hc
            refine T_iconst dX10_see_33 (by decide) ?_
            refine T_goto (tgt := 38) dX10_see_34 (by decide) ?_
            exact T_drop h ⟨Or.inl rfl, Or.inl rfl, Or.inr rfl, Or.inr rfl, trivial⟩

theorem W_X10_isAsSeen {G : GT} {d : Nat} (hd : 1 ≤ d) {x1 : Int}   {v : VT} {q : Int → Prop} {Q : Option Vl → List Sh → VT → Prop} (h : P_X10_isAsSeen x1 v q) (hQ : ∀ r, q r → Q (some (vI r)) SH v) : n_T G d 0 0 mX10_isAsSeen 0 [vR 0, vI x1, vS 9] [] SH v Q := by
  unfold P_X10_isAsSeen at h
  refine T_iconst dX10_isAsSeen_0 (by decide) ?_
  refine T_istore_n dX10_isAsSeen_1 (by decide) rfl ?_
  refine T_drop (h (fun (i2 : Int) => n_T G d 0 0 mX10_isAsSeen 2 [vR 0, vI x1, vI i2] [] SH v Q) (fun i2 h => ?_)) ⟨Or.inl rfl, Or.inl rfl, Or.inl rfl, trivial⟩
  refine T_iload_n dX10_isAsSeen_2 rfl ?_
  refine T_aload_n dX10_isAsSeen_3 rfl ?_
  refine T_getI dX10_isAsSeen_4 fX10_99 rfl SH_0 ?_
  refine U_icmp_ge (tgt := 43) dX10_isAsSeen_7 (by decide) (fun hc => ?_) (fun hc => ?_)
  · replace h := h.1 hc
    refine T_iconst dX10_isAsSeen_43 (by decide) ?_
    exact T_zret dX10_isAsSeen_44 rfl (by decide) (hQ _ h)
  · replace h := h.2 hc
    refine T_aload_n dX10_isAsSeen_10 rfl ?_
    refine T_getR (r := 138) dX10_isAsSeen_11 fX10_40 rfl SH_0 rfl ?_
    refine T_getR (r := 140) dX10_isAsSeen_14 fX10_219 rfl SH_138 rfl ?_
    refine T_iload_n dX10_isAsSeen_17 rfl ?_
    have hw18 := row_141 h.1
    refine T_aald3 dX10_isAsSeen_18 SH_140 h.1 (rowq_141 h.1) ?_
    replace h := h.2
    refine T_aload_n dX10_isAsSeen_19 rfl ?_
    refine T_getR (r := 214) dX10_isAsSeen_20 fX10_83 rfl SH_0 rfl ?_
    refine T_iload_n dX10_isAsSeen_23 rfl ?_
    refine T_iald dX10_isAsSeen_24 SH_214 h.1 ?_
    replace h := h.2
    refine T_iald dX10_isAsSeen_25 hw18 h.1 ?_
    replace h := h.2
    refine T_aload_n dX10_isAsSeen_26 rfl ?_
    refine T_getR (r := 215) dX10_isAsSeen_27 fX10_86 rfl SH_0 rfl ?_
    refine T_iload_n dX10_isAsSeen_30 rfl ?_
    refine T_iald dX10_isAsSeen_31 SH_215 h.1 ?_
    replace h := h.2
    refine U_icmp_eq (tgt := 37) dX10_isAsSeen_32 (by decide) (fun hc => ?_) (fun hc => ?_)
    · replace h := h.1 hc
      refine U_iinc dX10_isAsSeen_37 rfl (by decide) rfl h.1 ?_
      replace h := h.2
      refine T_goto (tgt := 2) dX10_isAsSeen_40 (by decide) ?_
      exact T_drop h ⟨Or.inl rfl, Or.inl rfl, Or.inl rfl, trivial⟩
    · replace h := h.2 hc
      refine T_iconst dX10_isAsSeen_35 (by decide) ?_
      exact T_zret dX10_isAsSeen_36 rfl (by decide) (hQ _ h)

theorem W_X10_fits {G : GT} {d : Nat} (hd : 5 ≤ d)    {v : VT} {q : Int → VT → Prop} {Q : Option Vl → List Sh → VT → Prop} (h : P_X10_fits  v q) (hQ : ∀ r w, q r w → Q (some (vI r)) SH w) : n_T G d 0 0 mX10_fits 0 [vR 0, vS 9, vS 9] [] SH v Q := by
  unfold P_X10_fits at h
  refine T_aload_n dX10_fits_0 rfl ?_
  refine T_getI dX10_fits_1 fX10_99 rfl SH_0 ?_
  refine U_if_eq (tgt := 22) dX10_fits_4 (by decide) (fun hc => ?_) (fun hc => ?_)
  · replace h := h.1 hc
    refine T_iconst dX10_fits_22 (by decide) ?_
    exact T_iret dX10_fits_23 rfl (hQ _ _ h)
  · replace h := h.2 hc
    refine T_aload_n dX10_fits_7 rfl ?_
    refine T_aload_n dX10_fits_8 rfl ?_
    refine T_getR (r := 214) dX10_fits_9 fX10_83 rfl SH_0 rfl ?_
    refine T_aload_n dX10_fits_12 rfl ?_
    refine T_getI dX10_fits_13 fX10_99 rfl SH_0 ?_
    refine U_callV (as := [vR 214, vI (v 0 16)]) (st := []) dX10_fits_16 kX10_areNodesStill lX10_329 SH_0 rfl rfl rfl rfl (Nat.le_of_ble_eq_true rfl) (Nat.le_of_ble_eq_true rfl) (by omega) ?_
    refine W_X10_areNodesStill (by omega) SH_214 (by decide) h (fun r16 h => ?_)
    show n_T G d 0 0 mX10_fits 19 [vR 0, vS 9, vS 9] [vI r16] SH v Q
    refine U_if_ne (tgt := 24) dX10_fits_19 (by decide) (fun hc => ?_) (fun hc => ?_)
    · replace h := h.1 hc
      refine T_aload_n dX10_fits_24 rfl ?_
      refine U_callV (as := []) (st := []) dX10_fits_25 kX10_measured lX10_203 SH_0 rfl rfl rfl rfl (Nat.le_of_ble_eq_true rfl) (Nat.le_of_ble_eq_true rfl) (by omega) ?_
      refine W_X10_measured (by omega)  h (fun v25 h => ?_)
      show n_T G d 0 0 mX10_fits 28 [vR 0, vS 9, vS 9] [vR 138] SH v25 Q
      refine T_pop dX10_fits_28 rfl ?_
      refine T_iconst dX10_fits_29 (by decide) ?_
      refine T_istore_n dX10_fits_30 (by decide) rfl ?_
      refine T_iconst dX10_fits_31 (by decide) ?_
      refine T_istore_n dX10_fits_32 (by decide) rfl ?_
      refine T_drop (h (fun (i1 : Int) (i2 : Int) => n_T G d 0 0 mX10_fits 33 [vR 0, vI i1, vI i2] [] SH v25 Q) (fun i1 i2 h => ?_)) ⟨Or.inl rfl, Or.inl rfl, Or.inl rfl, trivial⟩
      refine T_iload_n dX10_fits_33 rfl ?_
      refine T_aload_n dX10_fits_34 rfl ?_
      refine T_getR (r := 10) dX10_fits_35 fX10_26 rfl SH_0 rfl ?_
      refine T_getI dX10_fits_38 fX10_146 rfl SH_10 ?_
      refine U_icmp_ge (tgt := 64) dX10_fits_41 (by decide) (fun hc => ?_) (fun hc => ?_)
      · replace h := h.1 hc
        refine T_iload_n dX10_fits_64 rfl ?_
        exact T_iret dX10_fits_65 rfl (hQ _ _ h)
      · replace h := h.2 hc
        refine T_aload_n dX10_fits_44 rfl ?_
        refine T_iload_n dX10_fits_45 rfl ?_
        refine U_callV (as := [vI i2]) (st := []) dX10_fits_46 kX10_isAsSeen lX10_354 SH_0 rfl rfl rfl rfl (Nat.le_of_ble_eq_true rfl) (Nat.le_of_ble_eq_true rfl) (by omega) ?_
        refine W_X10_isAsSeen (by omega)  h (fun r46 h => ?_)
        show n_T G d 0 0 mX10_fits 49 [vR 0, vI i1, vI i2] [vI r46] SH v25 Q
        refine U_if_eq (tgt := 58) dX10_fits_49 (by decide) (fun hc => ?_) (fun hc => ?_)
        · replace h := h.1 hc
          refine U_iinc dX10_fits_58 rfl (by decide) rfl h.1 ?_
          replace h := h.2
          refine T_goto (tgt := 33) dX10_fits_61 (by decide) ?_
          exact T_drop h ⟨Or.inl rfl, Or.inl rfl, Or.inl rfl, trivial⟩
        · replace h := h.2 hc
          refine T_iload_n dX10_fits_52 rfl ?_
          refine T_iconst dX10_fits_53 (by decide) ?_
          refine T_iload_n dX10_fits_54 rfl ?_
          refine T_ishl dX10_fits_55 ?_
          refine T_ior dX10_fits_56 ?_
          refine U_istore_n dX10_fits_57 (by decide) rfl (fun l1 el1 => ?_)
          replace h := h l1 el1
          refine U_iinc dX10_fits_58 rfl (by decide) rfl h.1 ?_
          replace h := h.2
          refine T_goto (tgt := 33) dX10_fits_61 (by decide) ?_
          exact T_drop h ⟨Or.inl rfl, Or.inl rfl, Or.inl rfl, trivial⟩
    · replace h := h.2 hc
      refine T_iconst dX10_fits_22 (by decide) ?_
      exact T_iret dX10_fits_23 rfl (hQ _ _ h)

theorem W_X10_mostLeft {G : GT} {d : Nat} (hd : 7 ≤ d) {x1 : Int} {x2 : Int}   {v : VT} {q : Int → VT → Prop} {Q : Option Vl → List Sh → VT → Prop} (h : P_X10_mostLeft x1 x2 v q) (hQ : ∀ r w, q r w → Q (some (vI r)) SH w) : n_T G d 0 0 mX10_mostLeft 0 [vR 0, vI x1, vI x2, vS 9, vS 9, vS 9, vS 9] [] SH v Q := by
  unfold P_X10_mostLeft at h
  refine T_iconst dX10_mostLeft_0 (by decide) ?_
  refine T_istore_n dX10_mostLeft_1 (by decide) rfl ?_
  refine n_cut (h (fun (v24 : VT) => n_T G d 0 0 mX10_mostLeft 24 [vR 0, vI x1, vI x2, vS 9, vS 9, vS 9, vS 9] [] SH v24 Q)) ?_ ?_
  · intro v24 h
    refine T_iconst dX10_mostLeft_24 (by decide) ?_
    refine T_istore_n dX10_mostLeft_25 (by decide) rfl ?_
    refine T_iconst dX10_mostLeft_26 (by decide) ?_
    refine T_istore dX10_mostLeft_27 (by decide) rfl ?_
    refine T_drop (h (fun (i3 : Int) (i4 : Int) (v29 : VT) => n_T G d 0 0 mX10_mostLeft 29 [vR 0, vI x1, vI x2, vI i3, vI i4, vS 9, vS 9] [] SH v29 Q) (fun i3 i4 v29 h => ?_)) ⟨Or.inl rfl, Or.inl rfl, Or.inl rfl, Or.inl rfl, Or.inl rfl, Or.inr rfl, Or.inr rfl, trivial⟩
    refine T_iload dX10_mostLeft_29 rfl ?_
    refine T_aload_n dX10_mostLeft_31 rfl ?_
    refine T_getR (r := 10) dX10_mostLeft_32 fX10_26 rfl SH_0 rfl ?_
    refine T_getI dX10_mostLeft_35 fX10_146 rfl SH_10 ?_
    refine U_icmp_ge (tgt := 108) dX10_mostLeft_38 (by decide) (fun hc => ?_) (fun hc => ?_)
    · replace h := h.1 hc
      refine T_iload_n dX10_mostLeft_108 rfl ?_
      exact T_iret dX10_mostLeft_109 rfl (hQ _ _ h)
    · replace h := h.2 hc
      refine T_iload_n dX10_mostLeft_41 rfl ?_
      refine T_iload dX10_mostLeft_42 rfl ?_
      refine U_callS (as := [vI x2, vI i4]) (st := []) dX10_mostLeft_44 kX10_hasBit lX10_427 rfl rfl (Nat.le_of_ble_eq_true rfl) (Nat.le_of_ble_eq_true rfl) (by omega) ?_
      refine W_X10_hasBit (by omega)  h (fun r44 h => ?_)
      show n_T G d 0 0 mX10_mostLeft 47 [vR 0, vI x1, vI x2, vI i3, vI i4, vS 9, vS 9] [vI r44] SH v29 Q
      refine U_if_eq (tgt := 102) dX10_mostLeft_47 (by decide) (fun hc => ?_) (fun hc => ?_)
      · replace h := h.1 hc
        refine U_iinc dX10_mostLeft_102 rfl (by decide) rfl h.1 ?_
        replace h := h.2
        refine T_goto (tgt := 29) dX10_mostLeft_105 (by decide) ?_
        exact T_drop h ⟨Or.inl rfl, Or.inl rfl, Or.inl rfl, Or.inl rfl, Or.inl rfl, Or.inr rfl, Or.inr rfl, trivial⟩
      · replace h := h.2 hc
        refine T_aload_n dX10_mostLeft_50 rfl ?_
        refine T_getR (r := 138) dX10_mostLeft_51 fX10_40 rfl SH_0 rfl ?_
        refine T_getR (r := 140) dX10_mostLeft_54 fX10_219 rfl SH_138 rfl ?_
        refine T_iload_n dX10_mostLeft_57 rfl ?_
        have hw58 := row_141 h.1
        refine T_aald3 dX10_mostLeft_58 SH_140 h.1 (rowq_141 h.1) ?_
        replace h := h.2
        refine T_iload dX10_mostLeft_59 rfl ?_
        refine T_iald dX10_mostLeft_61 hw58 h.1 ?_
        replace h := h.2
        refine U_istore dX10_mostLeft_62 (by decide) rfl (fun l5 el5 => ?_)
        replace h := h l5 el5
        refine T_iload dX10_mostLeft_64 rfl ?_
        refine T_iconst dX10_mostLeft_66 (by decide) ?_
        refine n_cut (h (fun (s0 : Int) => n_T G d 0 0 mX10_mostLeft 77 [vR 0, vI x1, vI x2, vI i3, vI i4, vS 9, vS 9] [vI s0] SH v29 Q)) ?_ ?_
        · intro s0 h
          refine T_istore dX10_mostLeft_77 (by decide) rfl ?_
          refine T_aload_n dX10_mostLeft_79 rfl ?_
          refine T_getR (r := 216) dX10_mostLeft_80 fX10_89 rfl SH_0 rfl ?_
          refine T_iload dX10_mostLeft_83 rfl ?_
          refine T_dup2 dX10_mostLeft_85 rfl rfl ?_
          refine T_iald dX10_mostLeft_86 SH_216 h.1 ?_
          replace h := h.2
          refine T_iconst dX10_mostLeft_87 (by decide) ?_
          refine U_iadd dX10_mostLeft_88 h.1 ?_
          replace h := h.2
          refine U_iast dX10_mostLeft_89 SH_216 h.1 (fun v89 ev89 => ?_)
          replace h := h.2 v89 ev89
          refine T_iload_n dX10_mostLeft_90 rfl ?_
          refine T_aload_n dX10_mostLeft_91 rfl ?_
          refine T_getR (r := 216) dX10_mostLeft_92 fX10_89 rfl SH_0 rfl ?_
          refine T_iload dX10_mostLeft_95 rfl ?_
          refine T_iald dX10_mostLeft_97 SH_216 h.1 ?_
          replace h := h.2
          refine U_max dX10_mostLeft_98 lX10_430 (by omega) (Nat.le_of_ble_eq_true rfl) ?_
          refine U_istore_n dX10_mostLeft_101 (by decide) rfl (fun l3 el3 => ?_)
          replace h := h l3 el3
          refine U_iinc dX10_mostLeft_102 rfl (by decide) rfl h.1 ?_
          replace h := h.2
          refine T_goto (tgt := 29) dX10_mostLeft_105 (by decide) ?_
          exact T_drop h ⟨Or.inl rfl, Or.inl rfl, Or.inl rfl, Or.inl rfl, Or.inl rfl, Or.inr rfl, Or.inr rfl, trivial⟩
        · intro h
          refine U_icmp_ne (tgt := 75) dX10_mostLeft_67 (by decide) (fun hc => ?_) (fun hc => ?_)
          · replace h := h.1 hc
            refine T_iload dX10_mostLeft_75 rfl ?_
            exact T_drop h ⟨Or.inl rfl, Or.inl rfl, Or.inl rfl, Or.inl rfl, Or.inl rfl, Or.inr rfl, Or.inr rfl, trivial⟩
          · replace h := h.2 hc
            refine T_bipush dX10_mostLeft_70 (by decide) ?_
            refine T_goto (tgt := 77) dX10_mostLeft_72 (by decide) ?_
            exact T_drop h ⟨Or.inl rfl, Or.inl rfl, Or.inl rfl, Or.inl rfl, Or.inl rfl, Or.inr rfl, Or.inr rfl, trivial⟩
  · intro h
    refine T_drop (h (fun (i3_1 : Int) (v2 : VT) => n_T G d 0 0 mX10_mostLeft 2 [vR 0, vI x1, vI x2, vI i3_1, vS 9, vS 9, vS 9] [] SH v2 Q) (fun i3_1 v2 h => ?_)) ⟨Or.inl rfl, Or.inl rfl, Or.inl rfl, Or.inl rfl, Or.inr rfl, Or.inr rfl, Or.inr rfl, trivial⟩
    refine T_iload_n dX10_mostLeft_2 rfl ?_
    refine T_aload_n dX10_mostLeft_3 rfl ?_
    refine T_getR (r := 216) dX10_mostLeft_4 fX10_89 rfl SH_0 rfl ?_
    refine T_alen dX10_mostLeft_7 SH_216 (by decide) ?_
    show n_T G d 0 0 mX10_mostLeft 8 [vR 0, vI x1, vI x2, vI i3_1, vS 9, vS 9, vS 9] [vI 25, vI i3_1] SH v2 Q
    refine U_icmp_ge (tgt := 24) dX10_mostLeft_8 (by decide) (fun hc => ?_) (fun hc => ?_)
    · replace h := h.1 hc
      exact T_drop h ⟨Or.inl rfl, Or.inl rfl, Or.inl rfl, Or.inr rfl, Or.inr rfl, Or.inr rfl, Or.inr rfl, trivial⟩
    · replace h := h.2 hc
      refine T_aload_n dX10_mostLeft_11 rfl ?_
      refine T_getR (r := 216) dX10_mostLeft_12 fX10_89 rfl SH_0 rfl ?_
      refine T_iload_n dX10_mostLeft_15 rfl ?_
      refine T_iconst dX10_mostLeft_16 (by decide) ?_
      refine U_iast dX10_mostLeft_17 SH_216 h.1 (fun v17 ev17 => ?_)
      replace h := h.2 v17 ev17
      refine U_iinc dX10_mostLeft_18 rfl (by decide) rfl h.1 ?_
      replace h := h.2
      refine T_goto (tgt := 2) dX10_mostLeft_21 (by decide) ?_
      exact T_drop h ⟨Or.inl rfl, Or.inl rfl, Or.inl rfl, Or.inl rfl, Or.inr rfl, Or.inr rfl, Or.inr rfl, trivial⟩

theorem W_X10_tells {G : GT} {d : Nat} (hd : 8 ≤ d) {x1 : Int}   {v : VT} {q : Int → VT → Prop} {Q : Option Vl → List Sh → VT → Prop} (h : P_X10_tells x1 v q) (hQ : ∀ r w, q r w → Q (some (vI r)) SH w) : n_T G d 0 0 mX10_tells 0 [vR 0, vI x1, vS 9, vS 9, vS 9, vS 9, vS 9] [] SH v Q := by
  unfold P_X10_tells at h
  refine T_iload_n dX10_tells_0 rfl ?_
  refine n_cut (h (fun (s0 : Int) (v17 : VT) => n_T G d 0 0 mX10_tells 17 [vR 0, vI x1, vS 9, vS 9, vS 9, vS 9, vS 9] [vI s0] SH v17 Q)) ?_ ?_
  · intro s0 v17 h
    refine T_istore_n dX10_tells_17 (by decide) rfl ?_
    refine T_iload_n dX10_tells_18 rfl ?_
    refine T_iconst dX10_tells_19 (by decide) ?_
    refine U_icmp_eq (tgt := 27) dX10_tells_20 (by decide) (fun hc => ?_) (fun hc => ?_)
    · replace h := h.1 hc
      refine T_iconst dX10_tells_27 (by decide) ?_
      exact T_iret dX10_tells_28 rfl (hQ _ _ h)
    · replace h := h.2 hc
      refine T_iload_n dX10_tells_23 rfl ?_
      refine U_if_ne (tgt := 29) dX10_tells_24 (by decide) (fun hc => ?_) (fun hc => ?_)
      · replace h := h.1 hc
        refine T_iconst dX10_tells_29 (by decide) ?_
        refine T_istore_n dX10_tells_30 (by decide) rfl ?_
        refine T_aload_n dX10_tells_31 rfl ?_
        refine T_iconst dX10_tells_32 (by decide) ?_
        refine T_iload_n dX10_tells_33 rfl ?_
        refine U_callV (as := [vI 0, vI s0]) (st := []) dX10_tells_34 kX10_mostLeft lX10_360 SH_0 rfl rfl rfl rfl (Nat.le_of_ble_eq_true rfl) (Nat.le_of_ble_eq_true rfl) (by omega) ?_
        refine W_X10_mostLeft (by omega)  h (fun r34 v34 h => ?_)
        show n_T G d 0 0 mX10_tells 37 [vR 0, vI x1, vI s0, vI 0, vS 9, vS 9, vS 9] [vI r34] SH v34 Q
        refine T_istore dX10_tells_37 (by decide) rfl ?_
        refine T_iconst dX10_tells_39 (by decide) ?_
        refine T_istore dX10_tells_40 (by decide) rfl ?_
        refine T_drop (h (fun (i3 : Int) (i4 : Int) (i5 : Int) (v42 : VT) => n_T G d 0 0 mX10_tells 42 [vR 0, vI x1, vI s0, vI i3, vI i4, vI i5, vS 9] [] SH v42 Q) (fun i3 i4 i5 v42 h => ?_)) ⟨Or.inl rfl, Or.inl rfl, Or.inl rfl, Or.inl rfl, Or.inl rfl, Or.inl rfl, Or.inr rfl, trivial⟩
        refine T_iload dX10_tells_42 rfl ?_
        refine T_aload_n dX10_tells_44 rfl ?_
        refine T_getR (r := 10) dX10_tells_45 fX10_26 rfl SH_0 rfl ?_
        refine T_getI dX10_tells_48 fX10_146 rfl SH_10 ?_
        refine U_icmp_ge (tgt := 83) dX10_tells_51 (by decide) (fun hc => ?_) (fun hc => ?_)
        · replace h := h.1 hc
          refine T_iload_n dX10_tells_83 rfl ?_
          refine U_if_ne (tgt := 91) dX10_tells_84 (by decide) (fun hc => ?_) (fun hc => ?_)
          · replace h := h.1 hc
            refine T_iload dX10_tells_91 rfl ?_
            exact T_iret dX10_tells_93 rfl (hQ _ _ h)
          · replace h := h.2 hc
            refine T_iload_n dX10_tells_87 rfl ?_
            refine T_goto (tgt := 93) dX10_tells_88 (by decide) ?_
            exact T_iret dX10_tells_93 rfl (hQ _ _ h)
        · replace h := h.2 hc
          refine T_aload_n dX10_tells_54 rfl ?_
          refine T_iload dX10_tells_55 rfl ?_
          refine T_iload_n dX10_tells_57 rfl ?_
          refine U_callV (as := [vI i5, vI s0]) (st := []) dX10_tells_58 kX10_mostLeft lX10_360 SH_0 rfl rfl rfl rfl (Nat.le_of_ble_eq_true rfl) (Nat.le_of_ble_eq_true rfl) (by omega) ?_
          refine W_X10_mostLeft (by omega)  h (fun r58 v58 h => ?_)
          show n_T G d 0 0 mX10_tells 61 [vR 0, vI x1, vI s0, vI i3, vI i4, vI i5, vS 9] [vI r58] SH v58 Q
          refine T_istore dX10_tells_61 (by decide) rfl ?_
          refine T_iload dX10_tells_63 rfl ?_
          refine T_iload dX10_tells_65 rfl ?_
          refine U_icmp_ge (tgt := 77) dX10_tells_67 (by decide) (fun hc => ?_) (fun hc => ?_)
          · replace h := h.1 hc
            refine U_iinc dX10_tells_77 rfl (by decide) rfl h.1 ?_
            replace h := h.2
            refine T_goto (tgt := 42) dX10_tells_80 (by decide) ?_
            exact T_drop h ⟨Or.inl rfl, Or.inl rfl, Or.inl rfl, Or.inl rfl, Or.inl rfl, Or.inl rfl, Or.inr rfl, trivial⟩
          · replace h := h.2 hc
            refine T_iload dX10_tells_70 rfl ?_
            refine T_istore_n dX10_tells_72 (by decide) rfl ?_
            refine T_iload dX10_tells_73 rfl ?_
            refine T_istore dX10_tells_75 (by decide) rfl ?_
            refine U_iinc dX10_tells_77 rfl (by decide) rfl h.1 ?_
            replace h := h.2
            refine T_goto (tgt := 42) dX10_tells_80 (by decide) ?_
            exact T_drop h ⟨Or.inl rfl, Or.inl rfl, Or.inl rfl, Or.inl rfl, Or.inl rfl, Or.inl rfl, Or.inr rfl, trivial⟩
      · replace h := h.2 hc
        refine T_iconst dX10_tells_27 (by decide) ?_
        exact T_iret dX10_tells_28 rfl (hQ _ _ h)
  · intro h
    refine n_cut (h (n_T G d 0 0 mX10_tells 9 [vR 0, vI x1, vS 9, vS 9, vS 9, vS 9, vS 9] [] SH v Q)) ?_ ?_
    · intro h
      refine T_iconst dX10_tells_9 (by decide) ?_
      refine T_goto (tgt := 17) dX10_tells_10 (by decide) ?_
      exact T_drop h ⟨Or.inl rfl, Or.inl rfl, Or.inr rfl, Or.inr rfl, Or.inr rfl, Or.inr rfl, Or.inr rfl, trivial⟩
    · intro h
      refine U_if_lt (tgt := 9) dX10_tells_1 (by decide) (fun hc => ?_) (fun hc => ?_)
      · replace h := h.1 hc
        exact T_drop h ⟨Or.inl rfl, Or.inl rfl, Or.inr rfl, Or.inr rfl, Or.inr rfl, Or.inr rfl, Or.inr rfl, trivial⟩
      · replace h := h.2 hc
        refine T_iload_n dX10_tells_4 rfl ?_
        refine T_iconst dX10_tells_5 (by decide) ?_
        refine U_icmp_le (tgt := 13) dX10_tells_6 (by decide) (fun hc => ?_) (fun hc => ?_)
        · replace h := h.1 hc
          refine T_aload_n dX10_tells_13 rfl ?_
          refine U_callV (as := []) (st := []) dX10_tells_14 kX10_fits lX10_357 SH_0 rfl rfl rfl rfl (Nat.le_of_ble_eq_true rfl) (Nat.le_of_ble_eq_true rfl) (by omega) ?_
          refine W_X10_fits (by omega)  h (fun r14 v14 h => ?_)
          show n_T G d 0 0 mX10_tells 17 [vR 0, vI x1, vS 9, vS 9, vS 9, vS 9, vS 9] [vI r14] SH v14 Q
          exact T_drop h ⟨Or.inl rfl, Or.inl rfl, Or.inr rfl, Or.inr rfl, Or.inr rfl, Or.inr rfl, Or.inr rfl, trivial⟩
        · replace h := h.2 hc
          exact T_drop h ⟨Or.inl rfl, Or.inl rfl, Or.inr rfl, Or.inr rfl, Or.inr rfl, Or.inr rfl, Or.inr rfl, trivial⟩

theorem W_X10_join {G : GT} {d : Nat} (hd : 9 ≤ d) {x1 : Int} {x2 : Int}   {v : VT} {q : Int → VT → Prop} {Q : Option Vl → List Sh → VT → Prop} (h : P_X10_join x1 x2 v q) (hQ : ∀ r w, q r w → Q (some (vI r)) SH w) : n_T G d 0 0 mX10_join 0 [vR 0, vI x1, vI x2] [] SH v Q := by
  unfold P_X10_join at h
  refine T_aload_n dX10_join_0 rfl ?_
  refine T_getR (r := 10) dX10_join_1 fX10_26 rfl SH_0 rfl ?_
  refine T_iload_n dX10_join_4 rfl ?_
  refine T_iload_n dX10_join_5 rfl ?_
  refine U_callV (as := [vI x1, vI x2]) (st := []) dX10_join_6 kX0_canJoin lX10_363 SH_10 rfl rfl rfl rfl (Nat.le_of_ble_eq_true rfl) (Nat.le_of_ble_eq_true rfl) (by omega) ?_
  refine W_X0_canJoin (by omega) isG_at10 h (fun r6 h => ?_)
  show n_T G d 0 0 mX10_join 9 [vR 0, vI x1, vI x2] [vI r6] SH v Q
  refine U_if_ne (tgt := 18) dX10_join_9 (by decide) (fun hc => ?_) (fun hc => ?_)
  · replace h := h.1 hc
    refine T_aload_n dX10_join_18 rfl ?_
    refine T_getR (r := 16) dX10_join_19 fX10_33 rfl SH_0 rfl ?_
    refine T_aload_n dX10_join_22 rfl ?_
    refine T_getR (r := 10) dX10_join_23 fX10_26 rfl SH_0 rfl ?_
    refine U_callV (as := [vR 10]) (st := []) dX10_join_26 kX3_keep lX10_366 SH_16 rfl rfl rfl rfl (Nat.le_of_ble_eq_true rfl) (Nat.le_of_ble_eq_true rfl) (by omega) ?_
    refine W_X3_keep (by omega)  h (fun v26 h => ?_)
    show n_T G d 0 0 mX10_join 29 [vR 0, vI x1, vI x2] [] SH v26 Q
    refine T_aload_n dX10_join_29 rfl ?_
    refine T_getR (r := 10) dX10_join_30 fX10_26 rfl SH_0 rfl ?_
    refine T_iload_n dX10_join_33 rfl ?_
    refine T_iload_n dX10_join_34 rfl ?_
    refine T_iconst dX10_join_35 (by decide) ?_
    refine U_callV (as := [vI x1, vI x2, vI 1]) (st := []) dX10_join_36 kX0_addLine lX10_369 SH_10 rfl rfl rfl rfl (Nat.le_of_ble_eq_true rfl) (Nat.le_of_ble_eq_true rfl) (by omega) ?_
    refine W_X0_addLine (by omega) isG_at10 h (fun v36 h => ?_)
    show n_T G d 0 0 mX10_join 39 [vR 0, vI x1, vI x2] [] SH v36 Q
    refine T_aload_n dX10_join_39 rfl ?_
    refine U_callV (as := []) (st := []) dX10_join_40 kX10_changed lX10_137 SH_0 rfl rfl rfl rfl (Nat.le_of_ble_eq_true rfl) (Nat.le_of_ble_eq_true rfl) (by omega) ?_
    refine W_X10_changed (by omega)  h (fun v40 h => ?_)
    show n_T G d 0 0 mX10_join 43 [vR 0, vI x1, vI x2] [] SH v40 Q
    refine T_aload_n dX10_join_43 rfl ?_
    refine T_getR (r := 10) dX10_join_44 fX10_26 rfl SH_0 rfl ?_
    refine T_getI dX10_join_47 fX10_149 rfl SH_10 ?_
    refine T_iconst dX10_join_50 (by decide) ?_
    refine U_isub dX10_join_51 h.1 ?_
    replace h := h.2
    exact T_iret dX10_join_52 rfl (hQ _ _ h)
  · replace h := h.2 hc
    refine T_aload_n dX10_join_12 rfl ?_
    refine T_iconst dX10_join_13 (by decide) ?_
    refine U_callV (as := [vI 2]) (st := []) dX10_join_14 kX10_refuse lX10_108 SH_0 rfl rfl rfl rfl (Nat.le_of_ble_eq_true rfl) (Nat.le_of_ble_eq_true rfl) (by omega) ?_
    refine W_X10_refuse (by omega)  h (fun r14 v14 h => ?_)
    show n_T G d 0 0 mX10_join 17 [vR 0, vI x1, vI x2] [vI r14] SH v14 Q
    exact T_iret dX10_join_17 rfl (hQ _ _ h)

theorem W_X10_cut {G : GT} {d : Nat} (hd : 9 ≤ d) {x1 : Int}   {v : VT} {q : Int → VT → Prop} {Q : Option Vl → List Sh → VT → Prop} (h : P_X10_cut x1 v q) (hQ : ∀ r w, q r w → Q (some (vI r)) SH w) : n_T G d 0 0 mX10_cut 0 [vR 0, vI x1] [] SH v Q := by
  unfold P_X10_cut at h
  refine T_aload_n dX10_cut_0 rfl ?_
  refine T_getR (r := 10) dX10_cut_1 fX10_26 rfl SH_0 rfl ?_
  refine T_iload_n dX10_cut_4 rfl ?_
  refine U_callV (as := [vI x1]) (st := []) dX10_cut_5 kX0_isLine lX10_188 SH_10 rfl rfl rfl rfl (Nat.le_of_ble_eq_true rfl) (Nat.le_of_ble_eq_true rfl) (by omega) ?_
  refine W_X0_isLine (by omega) isG_at10 h (fun r5 h => ?_)
  show n_T G d 0 0 mX10_cut 8 [vR 0, vI x1] [vI r5] SH v Q
  refine U_if_ne (tgt := 17) dX10_cut_8 (by decide) (fun hc => ?_) (fun hc => ?_)
  · replace h := h.1 hc
    refine T_aload_n dX10_cut_17 rfl ?_
    refine T_getR (r := 16) dX10_cut_18 fX10_33 rfl SH_0 rfl ?_
    refine T_aload_n dX10_cut_21 rfl ?_
    refine T_getR (r := 10) dX10_cut_22 fX10_26 rfl SH_0 rfl ?_
    refine U_callV (as := [vR 10]) (st := []) dX10_cut_25 kX3_keep lX10_366 SH_16 rfl rfl rfl rfl (Nat.le_of_ble_eq_true rfl) (Nat.le_of_ble_eq_true rfl) (by omega) ?_
    refine W_X3_keep (by omega)  h (fun v25 h => ?_)
    show n_T G d 0 0 mX10_cut 28 [vR 0, vI x1] [] SH v25 Q
    refine T_aload_n dX10_cut_28 rfl ?_
    refine T_getR (r := 10) dX10_cut_29 fX10_26 rfl SH_0 rfl ?_
    refine T_iload_n dX10_cut_32 rfl ?_
    refine U_callV (as := [vI x1]) (st := []) dX10_cut_33 kX0_removeLine lX10_373 SH_10 rfl rfl rfl rfl (Nat.le_of_ble_eq_true rfl) (Nat.le_of_ble_eq_true rfl) (by omega) ?_
    refine W_X0_removeLine (by omega) isG_at10 h (fun v33 h => ?_)
    show n_T G d 0 0 mX10_cut 36 [vR 0, vI x1] [] SH v33 Q
    refine T_aload_n dX10_cut_36 rfl ?_
    refine U_callV (as := []) (st := []) dX10_cut_37 kX10_changed lX10_137 SH_0 rfl rfl rfl rfl (Nat.le_of_ble_eq_true rfl) (Nat.le_of_ble_eq_true rfl) (by omega) ?_
    refine W_X10_changed (by omega)  h (fun v37 h => ?_)
    show n_T G d 0 0 mX10_cut 40 [vR 0, vI x1] [] SH v37 Q
    refine T_iconst dX10_cut_40 (by decide) ?_
    exact T_zret dX10_cut_41 rfl (by decide) (hQ _ _ h)
  · replace h := h.2 hc
    refine T_aload_n dX10_cut_11 rfl ?_
    refine T_iconst dX10_cut_12 (by decide) ?_
    refine U_callV (as := [vI 2]) (st := []) dX10_cut_13 kX10_deny lX10_116 SH_0 rfl rfl rfl rfl (Nat.le_of_ble_eq_true rfl) (Nat.le_of_ble_eq_true rfl) (by omega) ?_
    refine W_X10_deny (by omega)  h (fun r13 v13 h => ?_)
    show n_T G d 0 0 mX10_cut 16 [vR 0, vI x1] [vI r13] SH v13 Q
    exact T_zret dX10_cut_16 rfl h.1 (hQ _ _ h.2)

theorem W_X10_toll {G : GT} {d : Nat} (hd : 9 ≤ d) {x1 : Int} {x2 : Int}   {v : VT} {q : Int → VT → Prop} {Q : Option Vl → List Sh → VT → Prop} (h : P_X10_toll x1 x2 v q) (hQ : ∀ r w, q r w → Q (some (vI r)) SH w) : n_T G d 0 0 mX10_toll 0 [vR 0, vI x1, vI x2] [] SH v Q := by
  unfold P_X10_toll at h
  refine T_aload_n dX10_toll_0 rfl ?_
  refine T_getR (r := 10) dX10_toll_1 fX10_26 rfl SH_0 rfl ?_
  refine T_iload_n dX10_toll_4 rfl ?_
  refine U_callV (as := [vI x1]) (st := []) dX10_toll_5 kX0_isLine lX10_188 SH_10 rfl rfl rfl rfl (Nat.le_of_ble_eq_true rfl) (Nat.le_of_ble_eq_true rfl) (by omega) ?_
  refine W_X0_isLine (by omega) isG_at10 h (fun r5 h => ?_)
  show n_T G d 0 0 mX10_toll 8 [vR 0, vI x1, vI x2] [vI r5] SH v Q
  refine U_if_eq (tgt := 35) dX10_toll_8 (by decide) (fun hc => ?_) (fun hc => ?_)
  · replace h := h.1 hc
    refine T_aload_n dX10_toll_35 rfl ?_
    refine T_iconst dX10_toll_36 (by decide) ?_
    refine U_callV (as := [vI 2]) (st := []) dX10_toll_37 kX10_deny lX10_116 SH_0 rfl rfl rfl rfl (Nat.le_of_ble_eq_true rfl) (Nat.le_of_ble_eq_true rfl) (by omega) ?_
    refine W_X10_deny (by omega)  h (fun r37 v37 h => ?_)
    show n_T G d 0 0 mX10_toll 40 [vR 0, vI x1, vI x2] [vI r37] SH v37 Q
    exact T_zret dX10_toll_40 rfl h.1 (hQ _ _ h.2)
  · replace h := h.2 hc
    refine T_iload_n dX10_toll_11 rfl ?_
    refine T_iconst dX10_toll_12 (by decide) ?_
    refine U_icmp_lt (tgt := 35) dX10_toll_13 (by decide) (fun hc => ?_) (fun hc => ?_)
    · replace h := h.1 hc
      refine T_aload_n dX10_toll_35 rfl ?_
      refine T_iconst dX10_toll_36 (by decide) ?_
      refine U_callV (as := [vI 2]) (st := []) dX10_toll_37 kX10_deny lX10_116 SH_0 rfl rfl rfl rfl (Nat.le_of_ble_eq_true rfl) (Nat.le_of_ble_eq_true rfl) (by omega) ?_
      refine W_X10_deny (by omega)  h (fun r37_1 v37_1 h => ?_)
      show n_T G d 0 0 mX10_toll 40 [vR 0, vI x1, vI x2] [vI r37_1] SH v37_1 Q
      exact T_zret dX10_toll_40 rfl h.1 (hQ _ _ h.2)
    · replace h := h.2 hc
      refine T_iload_n dX10_toll_16 rfl ?_
      refine T_bipush dX10_toll_17 (by decide) ?_
      refine U_icmp_gt (tgt := 35) dX10_toll_19 (by decide) (fun hc => ?_) (fun hc => ?_)
      · replace h := h.1 hc
        refine T_aload_n dX10_toll_35 rfl ?_
        refine T_iconst dX10_toll_36 (by decide) ?_
        refine U_callV (as := [vI 2]) (st := []) dX10_toll_37 kX10_deny lX10_116 SH_0 rfl rfl rfl rfl (Nat.le_of_ble_eq_true rfl) (Nat.le_of_ble_eq_true rfl) (by omega) ?_
        refine W_X10_deny (by omega)  h (fun r37_2 v37_2 h => ?_)
        show n_T G d 0 0 mX10_toll 40 [vR 0, vI x1, vI x2] [vI r37_2] SH v37_2 Q
        exact T_zret dX10_toll_40 rfl h.1 (hQ _ _ h.2)
      · replace h := h.2 hc
        refine T_aload_n dX10_toll_22 rfl ?_
        refine T_getR (r := 10) dX10_toll_23 fX10_26 rfl SH_0 rfl ?_
        refine T_getR (r := 14) dX10_toll_26 fX10_200 rfl SH_10 rfl ?_
        refine T_iload_n dX10_toll_29 rfl ?_
        refine T_iald dX10_toll_30 SH_14 h.1 ?_
        replace h := h.2
        refine T_iload_n dX10_toll_31 rfl ?_
        refine U_icmp_ne (tgt := 41) dX10_toll_32 (by decide) (fun hc => ?_) (fun hc => ?_)
        · replace h := h.1 hc
          refine T_aload_n dX10_toll_41 rfl ?_
          refine T_getR (r := 16) dX10_toll_42 fX10_33 rfl SH_0 rfl ?_
          refine T_aload_n dX10_toll_45 rfl ?_
          refine T_getR (r := 10) dX10_toll_46 fX10_26 rfl SH_0 rfl ?_
          refine U_callV (as := [vR 10]) (st := []) dX10_toll_49 kX3_keep lX10_366 SH_16 rfl rfl rfl rfl (Nat.le_of_ble_eq_true rfl) (Nat.le_of_ble_eq_true rfl) (by omega) ?_
          refine W_X3_keep (by omega)  h (fun v49 h => ?_)
          show n_T G d 0 0 mX10_toll 52 [vR 0, vI x1, vI x2] [] SH v49 Q
          refine T_aload_n dX10_toll_52 rfl ?_
          refine T_getR (r := 10) dX10_toll_53 fX10_26 rfl SH_0 rfl ?_
          refine T_getR (r := 14) dX10_toll_56 fX10_200 rfl SH_10 rfl ?_
          refine T_iload_n dX10_toll_59 rfl ?_
          refine T_iload_n dX10_toll_60 rfl ?_
          refine U_iast dX10_toll_61 SH_14 h.1 (fun v61 ev61 => ?_)
          replace h := h.2 v61 ev61
          refine T_iconst dX10_toll_62 (by decide) ?_
          exact T_zret dX10_toll_63 rfl (by decide) (hQ _ _ h)
        · replace h := h.2 hc
          refine T_aload_n dX10_toll_35 rfl ?_
          refine T_iconst dX10_toll_36 (by decide) ?_
          refine U_callV (as := [vI 2]) (st := []) dX10_toll_37 kX10_deny lX10_116 SH_0 rfl rfl rfl rfl (Nat.le_of_ble_eq_true rfl) (Nat.le_of_ble_eq_true rfl) (by omega) ?_
          refine W_X10_deny (by omega)  h (fun r37_3 v37_3 h => ?_)
          show n_T G d 0 0 mX10_toll 40 [vR 0, vI x1, vI x2] [vI r37_3] SH v37_3 Q
          exact T_zret dX10_toll_40 rfl h.1 (hQ _ _ h.2)

theorem W_X10_grow {G : GT} {d : Nat} (hd : 9 ≤ d) {x1 : Int}   {v : VT} {q : Int → VT → Prop} {Q : Option Vl → List Sh → VT → Prop} (h : P_X10_grow x1 v q) (hQ : ∀ r w, q r w → Q (some (vI r)) SH w) : n_T G d 0 0 mX10_grow 0 [vR 0, vI x1] [] SH v Q := by
  unfold P_X10_grow at h
  refine T_aload_n dX10_grow_0 rfl ?_
  refine T_getR (r := 10) dX10_grow_1 fX10_26 rfl SH_0 rfl ?_
  refine T_iload_n dX10_grow_4 rfl ?_
  refine U_callV (as := [vI x1]) (st := []) dX10_grow_5 kX0_canGrow lX10_376 SH_10 rfl rfl rfl rfl (Nat.le_of_ble_eq_true rfl) (Nat.le_of_ble_eq_true rfl) (by omega) ?_
  refine W_X0_canGrow (by omega) isG_at10 h (fun r5 h => ?_)
  show n_T G d 0 0 mX10_grow 8 [vR 0, vI x1] [vI r5] SH v Q
  refine U_if_ne (tgt := 17) dX10_grow_8 (by decide) (fun hc => ?_) (fun hc => ?_)
  · replace h := h.1 hc
    refine T_aload_n dX10_grow_17 rfl ?_
    refine T_getR (r := 16) dX10_grow_18 fX10_33 rfl SH_0 rfl ?_
    refine T_aload_n dX10_grow_21 rfl ?_
    refine T_getR (r := 10) dX10_grow_22 fX10_26 rfl SH_0 rfl ?_
    refine U_callV (as := [vR 10]) (st := []) dX10_grow_25 kX3_keep lX10_366 SH_16 rfl rfl rfl rfl (Nat.le_of_ble_eq_true rfl) (Nat.le_of_ble_eq_true rfl) (by omega) ?_
    refine W_X3_keep (by omega)  h (fun v25 h => ?_)
    show n_T G d 0 0 mX10_grow 28 [vR 0, vI x1] [] SH v25 Q
    refine T_aload_n dX10_grow_28 rfl ?_
    refine T_getR (r := 10) dX10_grow_29 fX10_26 rfl SH_0 rfl ?_
    refine T_iload_n dX10_grow_32 rfl ?_
    refine U_callV (as := [vI x1]) (st := []) dX10_grow_33 kX0_addLeaf lX10_379 SH_10 rfl rfl rfl rfl (Nat.le_of_ble_eq_true rfl) (Nat.le_of_ble_eq_true rfl) (by omega) ?_
    refine W_X0_addLeaf (by omega) isG_at10 h (fun v33 h => ?_)
    show n_T G d 0 0 mX10_grow 36 [vR 0, vI x1] [] SH v33 Q
    refine T_aload_n dX10_grow_36 rfl ?_
    refine U_callV (as := []) (st := []) dX10_grow_37 kX10_changed lX10_137 SH_0 rfl rfl rfl rfl (Nat.le_of_ble_eq_true rfl) (Nat.le_of_ble_eq_true rfl) (by omega) ?_
    refine W_X10_changed (by omega)  h (fun v37 h => ?_)
    show n_T G d 0 0 mX10_grow 40 [vR 0, vI x1] [] SH v37 Q
    refine T_aload_n dX10_grow_40 rfl ?_
    refine T_getR (r := 10) dX10_grow_41 fX10_26 rfl SH_0 rfl ?_
    refine T_getI dX10_grow_44 fX10_146 rfl SH_10 ?_
    refine T_iconst dX10_grow_47 (by decide) ?_
    refine U_isub dX10_grow_48 h.1 ?_
    replace h := h.2
    exact T_iret dX10_grow_49 rfl (hQ _ _ h)
  · replace h := h.2 hc
    refine T_aload_n dX10_grow_11 rfl ?_
    refine T_iconst dX10_grow_12 (by decide) ?_
    refine U_callV (as := [vI 2]) (st := []) dX10_grow_13 kX10_refuse lX10_108 SH_0 rfl rfl rfl rfl (Nat.le_of_ble_eq_true rfl) (Nat.le_of_ble_eq_true rfl) (by omega) ?_
    refine W_X10_refuse (by omega)  h (fun r13 v13 h => ?_)
    show n_T G d 0 0 mX10_grow 16 [vR 0, vI x1] [vI r13] SH v13 Q
    exact T_iret dX10_grow_16 rfl (hQ _ _ h)

theorem W_X10_drop {G : GT} {d : Nat} (hd : 9 ≤ d) {x1 : Int}   {v : VT} {q : Int → VT → Prop} {Q : Option Vl → List Sh → VT → Prop} (h : P_X10_drop x1 v q) (hQ : ∀ r w, q r w → Q (some (vI r)) SH w) : n_T G d 0 0 mX10_drop 0 [vR 0, vI x1] [] SH v Q := by
  unfold P_X10_drop at h
  refine T_aload_n dX10_drop_0 rfl ?_
  refine T_getR (r := 10) dX10_drop_1 fX10_26 rfl SH_0 rfl ?_
  refine T_iload_n dX10_drop_4 rfl ?_
  refine U_callV (as := [vI x1]) (st := []) dX10_drop_5 kX0_isNode lX10_171 SH_10 rfl rfl rfl rfl (Nat.le_of_ble_eq_true rfl) (Nat.le_of_ble_eq_true rfl) (by omega) ?_
  refine W_X0_isNode (by omega) isG_at10 h (fun r5 h => ?_)
  show n_T G d 0 0 mX10_drop 8 [vR 0, vI x1] [vI r5] SH v Q
  refine U_if_eq (tgt := 22) dX10_drop_8 (by decide) (fun hc => ?_) (fun hc => ?_)
  · replace h := h.1 hc
    refine T_aload_n dX10_drop_22 rfl ?_
    refine T_iconst dX10_drop_23 (by decide) ?_
    refine U_callV (as := [vI 2]) (st := []) dX10_drop_24 kX10_deny lX10_116 SH_0 rfl rfl rfl rfl (Nat.le_of_ble_eq_true rfl) (Nat.le_of_ble_eq_true rfl) (by omega) ?_
    refine W_X10_deny (by omega)  h (fun r24 v24 h => ?_)
    show n_T G d 0 0 mX10_drop 27 [vR 0, vI x1] [vI r24] SH v24 Q
    exact T_zret dX10_drop_27 rfl h.1 (hQ _ _ h.2)
  · replace h := h.2 hc
    refine T_aload_n dX10_drop_11 rfl ?_
    refine T_getR (r := 10) dX10_drop_12 fX10_26 rfl SH_0 rfl ?_
    refine T_getI dX10_drop_15 fX10_146 rfl SH_10 ?_
    refine T_iconst dX10_drop_18 (by decide) ?_
    refine U_icmp_ne (tgt := 28) dX10_drop_19 (by decide) (fun hc => ?_) (fun hc => ?_)
    · replace h := h.1 hc
      refine T_aload_n dX10_drop_28 rfl ?_
      refine T_getR (r := 16) dX10_drop_29 fX10_33 rfl SH_0 rfl ?_
      refine T_aload_n dX10_drop_32 rfl ?_
      refine T_getR (r := 10) dX10_drop_33 fX10_26 rfl SH_0 rfl ?_
      refine U_callV (as := [vR 10]) (st := []) dX10_drop_36 kX3_keep lX10_366 SH_16 rfl rfl rfl rfl (Nat.le_of_ble_eq_true rfl) (Nat.le_of_ble_eq_true rfl) (by omega) ?_
      refine W_X3_keep (by omega)  h (fun v36 h => ?_)
      show n_T G d 0 0 mX10_drop 39 [vR 0, vI x1] [] SH v36 Q
      refine T_aload_n dX10_drop_39 rfl ?_
      refine T_getR (r := 10) dX10_drop_40 fX10_26 rfl SH_0 rfl ?_
      refine T_iload_n dX10_drop_43 rfl ?_
      refine U_callV (as := [vI x1]) (st := []) dX10_drop_44 kX0_removeNode lX10_382 SH_10 rfl rfl rfl rfl (Nat.le_of_ble_eq_true rfl) (Nat.le_of_ble_eq_true rfl) (by omega) ?_
      refine W_X0_removeNode (by omega) isG_at10 h (fun v44 h => ?_)
      show n_T G d 0 0 mX10_drop 47 [vR 0, vI x1] [] SH v44 Q
      refine T_aload_n dX10_drop_47 rfl ?_
      refine U_callV (as := []) (st := []) dX10_drop_48 kX10_changed lX10_137 SH_0 rfl rfl rfl rfl (Nat.le_of_ble_eq_true rfl) (Nat.le_of_ble_eq_true rfl) (by omega) ?_
      refine W_X10_changed (by omega)  h (fun v48 h => ?_)
      show n_T G d 0 0 mX10_drop 51 [vR 0, vI x1] [] SH v48 Q
      refine T_iconst dX10_drop_51 (by decide) ?_
      exact T_zret dX10_drop_52 rfl (by decide) (hQ _ _ h)
    · replace h := h.2 hc
      refine T_aload_n dX10_drop_22 rfl ?_
      refine T_iconst dX10_drop_23 (by decide) ?_
      refine U_callV (as := [vI 2]) (st := []) dX10_drop_24 kX10_deny lX10_116 SH_0 rfl rfl rfl rfl (Nat.le_of_ble_eq_true rfl) (Nat.le_of_ble_eq_true rfl) (by omega) ?_
      refine W_X10_deny (by omega)  h (fun r24_1 v24_1 h => ?_)
      show n_T G d 0 0 mX10_drop 27 [vR 0, vI x1] [vI r24_1] SH v24_1 Q
      exact T_zret dX10_drop_27 rfl h.1 (hQ _ _ h.2)

theorem W_X10_pressKind {G : GT} {d : Nat} (hd : 9 ≤ d) {x1 : Int}   {v : VT} {q : VT → Prop} {Q : Option Vl → List Sh → VT → Prop} (h : P_X10_pressKind x1 v q) (hQ : ∀ w, q w → Q none SH w) : n_T G d 0 0 mX10_pressKind 0 [vR 0, vI x1] [] SH v Q := by
  unfold P_X10_pressKind at h
  refine T_aload_n dX10_pressKind_0 rfl ?_
  refine T_getR (r := 191) dX10_pressKind_1 fX10_47 rfl SH_0 rfl ?_
  refine T_aload_n dX10_pressKind_4 rfl ?_
  refine T_getR (r := 10) dX10_pressKind_5 fX10_26 rfl SH_0 rfl ?_
  refine T_iload_n dX10_pressKind_8 rfl ?_
  refine U_callV (as := [vR 10, vI x1]) (st := []) dX10_pressKind_9 kX1_gather lX10_435 SH_191 rfl rfl rfl rfl (Nat.le_of_ble_eq_true rfl) (Nat.le_of_ble_eq_true rfl) (by omega) ?_
  refine W_X1_gather (by omega)  h (fun v9 h => ?_)
  show n_T G d 0 0 mX10_pressKind 12 [vR 0, vI x1] [] SH v9 Q
  refine T_aload_n dX10_pressKind_12 rfl ?_
  refine T_getR (r := 10) dX10_pressKind_13 fX10_26 rfl SH_0 rfl ?_
  refine T_aload_n dX10_pressKind_16 rfl ?_
  refine T_getR (r := 191) dX10_pressKind_17 fX10_47 rfl SH_0 rfl ?_
  refine T_getR (r := 195) dX10_pressKind_20 fX10_439 rfl SH_191 rfl ?_
  refine U_callV (as := [vR 195]) (st := []) dX10_pressKind_23 kX0_merge lX10_442 SH_10 rfl rfl rfl rfl (Nat.le_of_ble_eq_true rfl) (Nat.le_of_ble_eq_true rfl) (by omega) ?_
  refine W_X0_merge (by omega) isG_at10 h (fun v23 h => ?_)
  show n_T G d 0 0 mX10_pressKind 26 [vR 0, vI x1] [] SH v23 Q
  refine T_aload_n dX10_pressKind_26 rfl ?_
  refine U_callV (as := []) (st := []) dX10_pressKind_27 kX10_changed lX10_137 SH_0 rfl rfl rfl rfl (Nat.le_of_ble_eq_true rfl) (Nat.le_of_ble_eq_true rfl) (by omega) ?_
  refine W_X10_changed (by omega)  h (fun v27 h => ?_)
  show n_T G d 0 0 mX10_pressKind 30 [vR 0, vI x1] [] SH v27 Q
  exact T_vret dX10_pressKind_30 rfl (hQ _ h)

theorem W_X10_press {G : GT} {d : Nat} (hd : 10 ≤ d) {x1 : Int}   {v : VT} {q : Int → VT → Prop} {Q : Option Vl → List Sh → VT → Prop} (h : P_X10_press x1 v q) (hQ : ∀ r w, q r w → Q (some (vI r)) SH w) : n_T G d 0 0 mX10_press 0 [vR 0, vI x1] [] SH v Q := by
  unfold P_X10_press at h
  refine T_aload_n dX10_press_0 rfl ?_
  refine T_iload_n dX10_press_1 rfl ?_
  refine U_callV (as := [vI x1]) (st := []) dX10_press_2 kX10_isKind lX10_255 SH_0 rfl rfl rfl rfl (Nat.le_of_ble_eq_true rfl) (Nat.le_of_ble_eq_true rfl) (by omega) ?_
  refine W_X10_isKind (by omega)  h (fun r2 v2 h => ?_)
  show n_T G d 0 0 mX10_press 5 [vR 0, vI x1] [vI r2] SH v2 Q
  refine U_if_ne (tgt := 14) dX10_press_5 (by decide) (fun hc => ?_) (fun hc => ?_)
  · replace h := h.1 hc
    refine T_aload_n dX10_press_14 rfl ?_
    refine T_getR (r := 16) dX10_press_15 fX10_33 rfl SH_0 rfl ?_
    refine T_aload_n dX10_press_18 rfl ?_
    refine T_getR (r := 10) dX10_press_19 fX10_26 rfl SH_0 rfl ?_
    refine U_callV (as := [vR 10]) (st := []) dX10_press_22 kX3_keep lX10_366 SH_16 rfl rfl rfl rfl (Nat.le_of_ble_eq_true rfl) (Nat.le_of_ble_eq_true rfl) (by omega) ?_
    refine W_X3_keep (by omega)  h (fun v22 h => ?_)
    show n_T G d 0 0 mX10_press 25 [vR 0, vI x1] [] SH v22 Q
    refine T_aload_n dX10_press_25 rfl ?_
    refine T_iload_n dX10_press_26 rfl ?_
    refine U_callV (as := [vI x1]) (st := []) dX10_press_27 kX10_pressKind lX10_385 SH_0 rfl rfl rfl rfl (Nat.le_of_ble_eq_true rfl) (Nat.le_of_ble_eq_true rfl) (by omega) ?_
    refine W_X10_pressKind (by omega)  h (fun v27 h => ?_)
    show n_T G d 0 0 mX10_press 30 [vR 0, vI x1] [] SH v27 Q
    refine T_aload_n dX10_press_30 rfl ?_
    refine T_getR (r := 10) dX10_press_31 fX10_26 rfl SH_0 rfl ?_
    refine T_getI dX10_press_34 fX10_146 rfl SH_10 ?_
    exact T_iret dX10_press_37 rfl (hQ _ _ h)
  · replace h := h.2 hc
    refine T_aload_n dX10_press_8 rfl ?_
    refine T_iconst dX10_press_9 (by decide) ?_
    refine U_callV (as := [vI 3]) (st := []) dX10_press_10 kX10_refuse lX10_108 SH_0 rfl rfl rfl rfl (Nat.le_of_ble_eq_true rfl) (Nat.le_of_ble_eq_true rfl) (by omega) ?_
    refine W_X10_refuse (by omega)  h (fun r10 v10 h => ?_)
    show n_T G d 0 0 mX10_press 13 [vR 0, vI x1] [vI r10] SH v10 Q
    exact T_iret dX10_press_13 rfl (hQ _ _ h)

theorem W_X10_open {G : GT} {d : Nat} (hd : 9 ≤ d) {x1 : Int} {x2 : Int}   {v : VT} {q : Int → VT → Prop} {Q : Option Vl → List Sh → VT → Prop} (h : P_X10_open x1 x2 v q) (hQ : ∀ r w, q r w → Q (some (vI r)) SH w) : n_T G d 0 0 mX10_open 0 [vR 0, vI x1, vI x2] [] SH v Q := by
  unfold P_X10_open at h
  refine T_aload_n dX10_open_0 rfl ?_
  refine T_getR (r := 10) dX10_open_1 fX10_26 rfl SH_0 rfl ?_
  refine T_iload_n dX10_open_4 rfl ?_
  refine T_iload_n dX10_open_5 rfl ?_
  refine U_callV (as := [vI x1, vI x2]) (st := []) dX10_open_6 kX0_canOpen lX10_388 SH_10 rfl rfl rfl rfl (Nat.le_of_ble_eq_true rfl) (Nat.le_of_ble_eq_true rfl) (by omega) ?_
  refine W_X0_canOpen (by omega) isG_at10 h (fun r6 h => ?_)
  show n_T G d 0 0 mX10_open 9 [vR 0, vI x1, vI x2] [vI r6] SH v Q
  refine U_if_ne (tgt := 18) dX10_open_9 (by decide) (fun hc => ?_) (fun hc => ?_)
  · replace h := h.1 hc
    refine T_aload_n dX10_open_18 rfl ?_
    refine T_getR (r := 16) dX10_open_19 fX10_33 rfl SH_0 rfl ?_
    refine T_aload_n dX10_open_22 rfl ?_
    refine T_getR (r := 10) dX10_open_23 fX10_26 rfl SH_0 rfl ?_
    refine U_callV (as := [vR 10]) (st := []) dX10_open_26 kX3_keep lX10_366 SH_16 rfl rfl rfl rfl (Nat.le_of_ble_eq_true rfl) (Nat.le_of_ble_eq_true rfl) (by omega) ?_
    refine W_X3_keep (by omega)  h (fun v26 h => ?_)
    show n_T G d 0 0 mX10_open 29 [vR 0, vI x1, vI x2] [] SH v26 Q
    refine T_aload_n dX10_open_29 rfl ?_
    refine T_getR (r := 10) dX10_open_30 fX10_26 rfl SH_0 rfl ?_
    refine T_iload_n dX10_open_33 rfl ?_
    refine T_iload_n dX10_open_34 rfl ?_
    refine U_callV (as := [vI x1, vI x2]) (st := []) dX10_open_35 kX0_doubleAlong lX10_391 SH_10 rfl rfl rfl rfl (Nat.le_of_ble_eq_true rfl) (Nat.le_of_ble_eq_true rfl) (by omega) ?_
    refine W_X0_doubleAlong (by omega) isG_at10 h (fun v35 h => ?_)
    show n_T G d 0 0 mX10_open 38 [vR 0, vI x1, vI x2] [] SH v35 Q
    refine T_aload_n dX10_open_38 rfl ?_
    refine U_callV (as := []) (st := []) dX10_open_39 kX10_changed lX10_137 SH_0 rfl rfl rfl rfl (Nat.le_of_ble_eq_true rfl) (Nat.le_of_ble_eq_true rfl) (by omega) ?_
    refine W_X10_changed (by omega)  h (fun v39 h => ?_)
    show n_T G d 0 0 mX10_open 42 [vR 0, vI x1, vI x2] [] SH v39 Q
    refine T_aload_n dX10_open_42 rfl ?_
    refine T_getR (r := 10) dX10_open_43 fX10_26 rfl SH_0 rfl ?_
    refine T_getI dX10_open_46 fX10_146 rfl SH_10 ?_
    exact T_iret dX10_open_49 rfl (hQ _ _ h)
  · replace h := h.2 hc
    refine T_aload_n dX10_open_12 rfl ?_
    refine T_iconst dX10_open_13 (by decide) ?_
    refine U_callV (as := [vI 3]) (st := []) dX10_open_14 kX10_refuse lX10_108 SH_0 rfl rfl rfl rfl (Nat.le_of_ble_eq_true rfl) (Nat.le_of_ble_eq_true rfl) (by omega) ?_
    refine W_X10_refuse (by omega)  h (fun r14 v14 h => ?_)
    show n_T G d 0 0 mX10_open 17 [vR 0, vI x1, vI x2] [vI r14] SH v14 Q
    exact T_iret dX10_open_17 rfl (hQ _ _ h)

theorem W_X10_draw {G : GT} {d : Nat} (hd : 1 ≤ d) {x1 : Int}   {v : VT} {q : Int → VT → Prop} {Q : Option Vl → List Sh → VT → Prop} (h : P_X10_draw x1 v q) (hQ : ∀ r w, q r w → Q (some (vI r)) SH w) : n_T G d 0 0 mX10_draw 0 [vR 0, vI x1] [] SH v Q := by
  unfold P_X10_draw at h
  refine T_aload_n dX10_draw_0 rfl ?_
  refine T_ldcw (n := 1103515245) dX10_draw_1 cX10_446 (by unfold r32; omega) ?_
  refine T_aload_n dX10_draw_4 rfl ?_
  refine T_getI dX10_draw_5 fX10_102 rfl SH_0 ?_
  refine T_imul dX10_draw_8 ?_
  refine T_sipush dX10_draw_9 (by decide) ?_
  refine T_iadd dX10_draw_12 ?_
  refine T_ldcw (n := 2147483647) dX10_draw_13 cX10_447 (by unfold r32; omega) ?_
  refine T_iand dX10_draw_16 ?_
  refine U_putI dX10_draw_17 fX10_102 rfl rfl SH_0 (fun v17 ev17 => ?_)
  replace h := h v17 ev17
  refine T_iload_n dX10_draw_20 rfl ?_
  refine U_if_le (tgt := 36) dX10_draw_21 (by decide) (fun hc => ?_) (fun hc => ?_)
  · replace h := h.1 hc
    refine T_iconst dX10_draw_36 (by decide) ?_
    exact T_iret dX10_draw_37 rfl (hQ _ _ h)
  · replace h := h.2 hc
    refine T_aload_n dX10_draw_24 rfl ?_
    refine T_getI dX10_draw_25 fX10_102 rfl SH_0 ?_
    refine T_bipush dX10_draw_28 (by decide) ?_
    refine T_idiv dX10_draw_30 (by decide) ?_
    refine T_iload_n dX10_draw_31 rfl ?_
    refine T_irem dX10_draw_32 h.1 ?_
    replace h := h.2
    refine T_goto (tgt := 37) dX10_draw_33 (by decide) ?_
    exact T_iret dX10_draw_37 rfl (hQ _ _ h)

theorem W_X10_switchLine {G : GT} {d : Nat} (hd : 9 ≤ d) {x1 : Int} {x2 : Int}   {v : VT} {q : VT → Prop} {Q : Option Vl → List Sh → VT → Prop} (h : P_X10_switchLine x1 x2 v q) (hQ : ∀ w, q w → Q none SH w) : n_T G d 0 0 mX10_switchLine 0 [vR 0, vI x1, vI x2, vS 9] [] SH v Q := by
  unfold P_X10_switchLine at h
  refine T_aload_n dX10_switchLine_0 rfl ?_
  refine T_getR (r := 10) dX10_switchLine_1 fX10_26 rfl SH_0 rfl ?_
  refine T_iload_n dX10_switchLine_4 rfl ?_
  refine T_iload_n dX10_switchLine_5 rfl ?_
  refine U_callV (as := [vI x1, vI x2]) (st := []) dX10_switchLine_6 kX0_findLine lX10_454 SH_10 rfl rfl rfl rfl (Nat.le_of_ble_eq_true rfl) (Nat.le_of_ble_eq_true rfl) (by omega) ?_
  refine W_X0_findLine (by omega) isG_at10 h (fun r6 h => ?_)
  show n_T G d 0 0 mX10_switchLine 9 [vR 0, vI x1, vI x2, vS 9] [vI r6] SH v Q
  refine T_istore_n dX10_switchLine_9 (by decide) rfl ?_
  refine T_iload_n dX10_switchLine_10 rfl ?_
  refine T_iconst dX10_switchLine_11 (by decide) ?_
  refine U_icmp_eq (tgt := 30) dX10_switchLine_12 (by decide) (fun hc => ?_) (fun hc => ?_)
  · replace h := h.1 hc
    refine T_aload_n dX10_switchLine_30 rfl ?_
    refine T_getR (r := 10) dX10_switchLine_31 fX10_26 rfl SH_0 rfl ?_
    refine T_iload_n dX10_switchLine_34 rfl ?_
    refine T_iload_n dX10_switchLine_35 rfl ?_
    refine U_callV (as := [vI x1, vI x2]) (st := []) dX10_switchLine_36 kX0_canJoin lX10_363 SH_10 rfl rfl rfl rfl (Nat.le_of_ble_eq_true rfl) (Nat.le_of_ble_eq_true rfl) (by omega) ?_
    refine W_X0_canJoin (by omega) isG_at10 h (fun r36 h => ?_)
    show n_T G d 0 0 mX10_switchLine 39 [vR 0, vI x1, vI x2, vI r6] [vI r36] SH v Q
    refine U_if_eq (tgt := 56) dX10_switchLine_39 (by decide) (fun hc => ?_) (fun hc => ?_)
    · replace h := h.1 hc
      exact T_vret dX10_switchLine_56 rfl (hQ _ h)
    · replace h := h.2 hc
      refine T_aload_n dX10_switchLine_42 rfl ?_
      refine T_getR (r := 10) dX10_switchLine_43 fX10_26 rfl SH_0 rfl ?_
      refine T_iload_n dX10_switchLine_46 rfl ?_
      refine T_iload_n dX10_switchLine_47 rfl ?_
      refine T_iconst dX10_switchLine_48 (by decide) ?_
      refine U_callV (as := [vI x1, vI x2, vI 1]) (st := []) dX10_switchLine_49 kX0_addLine lX10_369 SH_10 rfl rfl rfl rfl (Nat.le_of_ble_eq_true rfl) (Nat.le_of_ble_eq_true rfl) (by omega) ?_
      refine W_X0_addLine (by omega) isG_at10 h (fun v49 h => ?_)
      show n_T G d 0 0 mX10_switchLine 52 [vR 0, vI x1, vI x2, vI r6] [] SH v49 Q
      refine T_aload_n dX10_switchLine_52 rfl ?_
      refine U_callV (as := []) (st := []) dX10_switchLine_53 kX10_changed lX10_137 SH_0 rfl rfl rfl rfl (Nat.le_of_ble_eq_true rfl) (Nat.le_of_ble_eq_true rfl) (by omega) ?_
      refine W_X10_changed (by omega)  h (fun v53 h => ?_)
      show n_T G d 0 0 mX10_switchLine 56 [vR 0, vI x1, vI x2, vI r6] [] SH v53 Q
      exact T_vret dX10_switchLine_56 rfl (hQ _ h)
  · replace h := h.2 hc
    refine T_aload_n dX10_switchLine_15 rfl ?_
    refine T_getR (r := 10) dX10_switchLine_16 fX10_26 rfl SH_0 rfl ?_
    refine T_iload_n dX10_switchLine_19 rfl ?_
    refine U_callV (as := [vI r6]) (st := []) dX10_switchLine_20 kX0_removeLine lX10_373 SH_10 rfl rfl rfl rfl (Nat.le_of_ble_eq_true rfl) (Nat.le_of_ble_eq_true rfl) (by omega) ?_
    refine W_X0_removeLine (by omega) isG_at10 h (fun v20 h => ?_)
    show n_T G d 0 0 mX10_switchLine 23 [vR 0, vI x1, vI x2, vI r6] [] SH v20 Q
    refine T_aload_n dX10_switchLine_23 rfl ?_
    refine U_callV (as := []) (st := []) dX10_switchLine_24 kX10_changed lX10_137 SH_0 rfl rfl rfl rfl (Nat.le_of_ble_eq_true rfl) (Nat.le_of_ble_eq_true rfl) (by omega) ?_
    refine W_X10_changed (by omega)  h (fun v24 h => ?_)
    show n_T G d 0 0 mX10_switchLine 27 [vR 0, vI x1, vI x2, vI r6] [] SH v24 Q
    refine T_goto (tgt := 56) dX10_switchLine_27 (by decide) ?_
    exact T_vret dX10_switchLine_56 rfl (hQ _ h)

theorem W_X10_actBySeed {G : GT} {d : Nat} (hd : 10 ≤ d)    {v : VT} {q : VT → Prop} {Q : Option Vl → List Sh → VT → Prop} (h : P_X10_actBySeed  v q) (hQ : ∀ w, q w → Q none SH w) : n_T G d 0 0 mX10_actBySeed 0 [vR 0, vS 9, vS 9, vS 9] [] SH v Q := by
  unfold P_X10_actBySeed at h
  refine T_aload_n dX10_actBySeed_0 rfl ?_
  refine T_iconst dX10_actBySeed_1 (by decide) ?_
  refine U_callV (as := [vI 4]) (st := []) dX10_actBySeed_2 kX10_draw lX10_448 SH_0 rfl rfl rfl rfl (Nat.le_of_ble_eq_true rfl) (Nat.le_of_ble_eq_true rfl) (by omega) ?_
  refine W_X10_draw (by omega)  h (fun r2 v2 h => ?_)
  show n_T G d 0 0 mX10_actBySeed 5 [vR 0, vS 9, vS 9, vS 9] [vI r2] SH v2 Q
  refine T_istore_n dX10_actBySeed_5 (by decide) rfl ?_
  refine T_iload_n dX10_actBySeed_6 rfl ?_
  refine T_iconst dX10_actBySeed_7 (by decide) ?_
  refine U_icmp_ge (tgt := 49) dX10_actBySeed_8 (by decide) (fun hc => ?_) (fun hc => ?_)
  · replace h := h.1 hc
    refine T_iload_n dX10_actBySeed_49 rfl ?_
    refine T_iconst dX10_actBySeed_50 (by decide) ?_
    refine U_icmp_ne (tgt := 87) dX10_actBySeed_51 (by decide) (fun hc => ?_) (fun hc => ?_)
    · replace h := h.1 hc
      refine T_aload_n dX10_actBySeed_87 rfl ?_
      refine U_callV (as := []) (st := []) dX10_actBySeed_88 kX10_sorted lX10_152 SH_0 rfl rfl rfl rfl (Nat.le_of_ble_eq_true rfl) (Nat.le_of_ble_eq_true rfl) (by omega) ?_
      refine W_X10_sorted (by omega)  h (fun v88 h => ?_)
      show n_T G d 0 0 mX10_actBySeed 91 [vR 0, vI r2, vS 9, vS 9] [vR 191] SH v88 Q
      refine T_getI dX10_actBySeed_91 fX10_156 rfl SH_191 ?_
      refine T_istore_n dX10_actBySeed_94 (by decide) rfl ?_
      refine T_aload_n dX10_actBySeed_95 rfl ?_
      refine T_iconst dX10_actBySeed_96 (by decide) ?_
      refine T_iload_n dX10_actBySeed_97 rfl ?_
      refine U_max dX10_actBySeed_98 lX10_430 (by omega) (Nat.le_of_ble_eq_true rfl) ?_
      refine U_callV (as := [vI (max 1 (v88 191 1))]) (st := []) dX10_actBySeed_101 kX10_draw lX10_448 SH_0 rfl rfl rfl rfl (Nat.le_of_ble_eq_true rfl) (Nat.le_of_ble_eq_true rfl) (by omega) ?_
      refine W_X10_draw (by omega)  h (fun r101 v101 h => ?_)
      show n_T G d 0 0 mX10_actBySeed 104 [vR 0, vI r2, vI (v88 191 1), vS 9] [vI r101] SH v101 Q
      refine T_istore_n dX10_actBySeed_104 (by decide) rfl ?_
      refine T_iload_n dX10_actBySeed_105 rfl ?_
      refine T_iload_n dX10_actBySeed_106 rfl ?_
      refine U_icmp_ge (tgt := 115) dX10_actBySeed_107 (by decide) (fun hc => ?_) (fun hc => ?_)
      · replace h := h.1 hc
        exact T_vret dX10_actBySeed_115 rfl (hQ _ h)
      · replace h := h.2 hc
        refine T_aload_n dX10_actBySeed_110 rfl ?_
        refine T_iload_n dX10_actBySeed_111 rfl ?_
        refine U_callV (as := [vI r101]) (st := []) dX10_actBySeed_112 kX10_pressKind lX10_385 SH_0 rfl rfl rfl rfl (Nat.le_of_ble_eq_true rfl) (Nat.le_of_ble_eq_true rfl) (by omega) ?_
        refine W_X10_pressKind (by omega)  h (fun v112 h => ?_)
        show n_T G d 0 0 mX10_actBySeed 115 [vR 0, vI r2, vI (v88 191 1), vI r101] [] SH v112 Q
        exact T_vret dX10_actBySeed_115 rfl (hQ _ h)
    · replace h := h.2 hc
      refine T_aload_n dX10_actBySeed_54 rfl ?_
      refine T_aload_n dX10_actBySeed_55 rfl ?_
      refine T_getR (r := 10) dX10_actBySeed_56 fX10_26 rfl SH_0 rfl ?_
      refine T_getI dX10_actBySeed_59 fX10_146 rfl SH_10 ?_
      refine U_callV (as := [vI (v2 10 0)]) (st := []) dX10_actBySeed_62 kX10_draw lX10_448 SH_0 rfl rfl rfl rfl (Nat.le_of_ble_eq_true rfl) (Nat.le_of_ble_eq_true rfl) (by omega) ?_
      refine W_X10_draw (by omega)  h (fun r62 v62 h => ?_)
      show n_T G d 0 0 mX10_actBySeed 65 [vR 0, vI r2, vS 9, vS 9] [vI r62] SH v62 Q
      refine T_istore_n dX10_actBySeed_65 (by decide) rfl ?_
      refine T_aload_n dX10_actBySeed_66 rfl ?_
      refine T_aload_n dX10_actBySeed_67 rfl ?_
      refine T_getR (r := 10) dX10_actBySeed_68 fX10_26 rfl SH_0 rfl ?_
      refine T_getI dX10_actBySeed_71 fX10_146 rfl SH_10 ?_
      refine U_callV (as := [vI (v62 10 0)]) (st := []) dX10_actBySeed_74 kX10_draw lX10_448 SH_0 rfl rfl rfl rfl (Nat.le_of_ble_eq_true rfl) (Nat.le_of_ble_eq_true rfl) (by omega) ?_
      refine W_X10_draw (by omega)  h (fun r74 v74 h => ?_)
      show n_T G d 0 0 mX10_actBySeed 77 [vR 0, vI r2, vI r62, vS 9] [vI r74] SH v74 Q
      refine T_istore_n dX10_actBySeed_77 (by decide) rfl ?_
      refine T_aload_n dX10_actBySeed_78 rfl ?_
      refine T_iload_n dX10_actBySeed_79 rfl ?_
      refine T_iload_n dX10_actBySeed_80 rfl ?_
      refine U_callV (as := [vI r62, vI r74]) (st := []) dX10_actBySeed_81 kX10_switchLine lX10_451 SH_0 rfl rfl rfl rfl (Nat.le_of_ble_eq_true rfl) (Nat.le_of_ble_eq_true rfl) (by omega) ?_
      refine W_X10_switchLine (by omega)  h (fun v81 h => ?_)
      show n_T G d 0 0 mX10_actBySeed 84 [vR 0, vI r2, vI r62, vI r74] [] SH v81 Q
      refine T_goto (tgt := 115) dX10_actBySeed_84 (by decide) ?_
      exact T_vret dX10_actBySeed_115 rfl (hQ _ h)
  · replace h := h.2 hc
    refine T_aload_n dX10_actBySeed_11 rfl ?_
    refine T_aload_n dX10_actBySeed_12 rfl ?_
    refine T_getR (r := 10) dX10_actBySeed_13 fX10_26 rfl SH_0 rfl ?_
    refine T_getI dX10_actBySeed_16 fX10_146 rfl SH_10 ?_
    refine U_callV (as := [vI (v2 10 0)]) (st := []) dX10_actBySeed_19 kX10_draw lX10_448 SH_0 rfl rfl rfl rfl (Nat.le_of_ble_eq_true rfl) (Nat.le_of_ble_eq_true rfl) (by omega) ?_
    refine W_X10_draw (by omega)  h (fun r19 v19 h => ?_)
    show n_T G d 0 0 mX10_actBySeed 22 [vR 0, vI r2, vS 9, vS 9] [vI r19] SH v19 Q
    refine T_istore_n dX10_actBySeed_22 (by decide) rfl ?_
    refine T_aload_n dX10_actBySeed_23 rfl ?_
    refine T_getR (r := 10) dX10_actBySeed_24 fX10_26 rfl SH_0 rfl ?_
    refine T_iload_n dX10_actBySeed_27 rfl ?_
    refine U_callV (as := [vI r19]) (st := []) dX10_actBySeed_28 kX0_canGrow lX10_376 SH_10 rfl rfl rfl rfl (Nat.le_of_ble_eq_true rfl) (Nat.le_of_ble_eq_true rfl) (by omega) ?_
    refine W_X0_canGrow (by omega) isG_at10 h (fun r28 h => ?_)
    show n_T G d 0 0 mX10_actBySeed 31 [vR 0, vI r2, vI r19, vS 9] [vI r28] SH v19 Q
    refine U_if_eq (tgt := 46) dX10_actBySeed_31 (by decide) (fun hc => ?_) (fun hc => ?_)
    · replace h := h.1 hc
      refine T_goto (tgt := 115) dX10_actBySeed_46 (by decide) ?_
      exact T_vret dX10_actBySeed_115 rfl (hQ _ h)
    · replace h := h.2 hc
      refine T_aload_n dX10_actBySeed_34 rfl ?_
      refine T_getR (r := 10) dX10_actBySeed_35 fX10_26 rfl SH_0 rfl ?_
      refine T_iload_n dX10_actBySeed_38 rfl ?_
      refine U_callV (as := [vI r19]) (st := []) dX10_actBySeed_39 kX0_addLeaf lX10_379 SH_10 rfl rfl rfl rfl (Nat.le_of_ble_eq_true rfl) (Nat.le_of_ble_eq_true rfl) (by omega) ?_
      refine W_X0_addLeaf (by omega) isG_at10 h (fun v39 h => ?_)
      show n_T G d 0 0 mX10_actBySeed 42 [vR 0, vI r2, vI r19, vS 9] [] SH v39 Q
      refine T_aload_n dX10_actBySeed_42 rfl ?_
      refine U_callV (as := []) (st := []) dX10_actBySeed_43 kX10_changed lX10_137 SH_0 rfl rfl rfl rfl (Nat.le_of_ble_eq_true rfl) (Nat.le_of_ble_eq_true rfl) (by omega) ?_
      refine W_X10_changed (by omega)  h (fun v43 h => ?_)
      show n_T G d 0 0 mX10_actBySeed 46 [vR 0, vI r2, vI r19, vS 9] [] SH v43 Q
      refine T_goto (tgt := 115) dX10_actBySeed_46 (by decide) ?_
      exact T_vret dX10_actBySeed_115 rfl (hQ _ h)

theorem W_X10_chance {G : GT} {d : Nat} (hd : 11 ≤ d) {x1 : Int}   {v : VT} {q : Int → VT → Prop} {Q : Option Vl → List Sh → VT → Prop} (h : P_X10_chance x1 v q) (hQ : ∀ r w, q r w → Q (some (vI r)) SH w) : n_T G d 0 0 mX10_chance 0 [vR 0, vI x1, vS 9] [] SH v Q := by
  unfold P_X10_chance at h
  refine T_iload_n dX10_chance_0 rfl ?_
  refine T_iconst dX10_chance_1 (by decide) ?_
  refine U_icmp_lt (tgt := 21) dX10_chance_2 (by decide) (fun hc => ?_) (fun hc => ?_)
  · replace h := h.1 hc
    refine T_aload_n dX10_chance_21 rfl ?_
    refine T_iconst dX10_chance_22 (by decide) ?_
    refine U_callV (as := [vI 3]) (st := []) dX10_chance_23 kX10_refuse lX10_108 SH_0 rfl rfl rfl rfl (Nat.le_of_ble_eq_true rfl) (Nat.le_of_ble_eq_true rfl) (by omega) ?_
    refine W_X10_refuse (by omega)  h (fun r23 v23 h => ?_)
    show n_T G d 0 0 mX10_chance 26 [vR 0, vI x1, vS 9] [vI r23] SH v23 Q
    exact T_iret dX10_chance_26 rfl (hQ _ _ h)
  · replace h := h.2 hc
    refine T_iload_n dX10_chance_5 rfl ?_
    refine T_bipush dX10_chance_6 (by decide) ?_
    refine U_icmp_gt (tgt := 21) dX10_chance_8 (by decide) (fun hc => ?_) (fun hc => ?_)
    · replace h := h.1 hc
      refine T_aload_n dX10_chance_21 rfl ?_
      refine T_iconst dX10_chance_22 (by decide) ?_
      refine U_callV (as := [vI 3]) (st := []) dX10_chance_23 kX10_refuse lX10_108 SH_0 rfl rfl rfl rfl (Nat.le_of_ble_eq_true rfl) (Nat.le_of_ble_eq_true rfl) (by omega) ?_
      refine W_X10_refuse (by omega)  h (fun r23_1 v23_1 h => ?_)
      show n_T G d 0 0 mX10_chance 26 [vR 0, vI x1, vS 9] [vI r23_1] SH v23_1 Q
      exact T_iret dX10_chance_26 rfl (hQ _ _ h)
    · replace h := h.2 hc
      refine T_aload_n dX10_chance_11 rfl ?_
      refine T_getR (r := 10) dX10_chance_12 fX10_26 rfl SH_0 rfl ?_
      refine T_getI dX10_chance_15 fX10_146 rfl SH_10 ?_
      refine U_if_ne (tgt := 27) dX10_chance_18 (by decide) (fun hc => ?_) (fun hc => ?_)
      · replace h := h.1 hc
        refine T_aload_n dX10_chance_27 rfl ?_
        refine T_getR (r := 16) dX10_chance_28 fX10_33 rfl SH_0 rfl ?_
        refine T_aload_n dX10_chance_31 rfl ?_
        refine T_getR (r := 10) dX10_chance_32 fX10_26 rfl SH_0 rfl ?_
        refine U_callV (as := [vR 10]) (st := []) dX10_chance_35 kX3_keep lX10_366 SH_16 rfl rfl rfl rfl (Nat.le_of_ble_eq_true rfl) (Nat.le_of_ble_eq_true rfl) (by omega) ?_
        refine W_X3_keep (by omega)  h (fun v35 h => ?_)
        show n_T G d 0 0 mX10_chance 38 [vR 0, vI x1, vS 9] [] SH v35 Q
        refine T_iconst dX10_chance_38 (by decide) ?_
        refine T_istore_n dX10_chance_39 (by decide) rfl ?_
        refine T_drop (h (fun (i2 : Int) (v40 : VT) => n_T G d 0 0 mX10_chance 40 [vR 0, vI x1, vI i2] [] SH v40 Q) (fun i2 v40 h => ?_)) ⟨Or.inl rfl, Or.inl rfl, Or.inl rfl, trivial⟩
        refine T_iload_n dX10_chance_40 rfl ?_
        refine T_iload_n dX10_chance_41 rfl ?_
        refine U_icmp_ge (tgt := 55) dX10_chance_42 (by decide) (fun hc => ?_) (fun hc => ?_)
        · replace h := h.1 hc
          refine T_aload_n dX10_chance_55 rfl ?_
          refine T_getR (r := 10) dX10_chance_56 fX10_26 rfl SH_0 rfl ?_
          refine T_getI dX10_chance_59 fX10_146 rfl SH_10 ?_
          exact T_iret dX10_chance_62 rfl (hQ _ _ h)
        · replace h := h.2 hc
          refine T_aload_n dX10_chance_45 rfl ?_
          refine U_callV (as := []) (st := []) dX10_chance_46 kX10_actBySeed lX10_395 SH_0 rfl rfl rfl rfl (Nat.le_of_ble_eq_true rfl) (Nat.le_of_ble_eq_true rfl) (by omega) ?_
          refine W_X10_actBySeed (by omega)  h (fun v46 h => ?_)
          show n_T G d 0 0 mX10_chance 49 [vR 0, vI x1, vI i2] [] SH v46 Q
          refine U_iinc dX10_chance_49 rfl (by decide) rfl h.1 ?_
          replace h := h.2
          refine T_goto (tgt := 40) dX10_chance_52 (by decide) ?_
          exact T_drop h ⟨Or.inl rfl, Or.inl rfl, Or.inl rfl, trivial⟩
      · replace h := h.2 hc
        refine T_aload_n dX10_chance_21 rfl ?_
        refine T_iconst dX10_chance_22 (by decide) ?_
        refine U_callV (as := [vI 3]) (st := []) dX10_chance_23 kX10_refuse lX10_108 SH_0 rfl rfl rfl rfl (Nat.le_of_ble_eq_true rfl) (Nat.le_of_ble_eq_true rfl) (by omega) ?_
        refine W_X10_refuse (by omega)  h (fun r23_2 v23_2 h => ?_)
        show n_T G d 0 0 mX10_chance 26 [vR 0, vI x1, vS 9] [vI r23_2] SH v23_2 Q
        exact T_iret dX10_chance_26 rfl (hQ _ _ h)

theorem W_X10_undo {G : GT} {d : Nat} (hd : 9 ≤ d)    {v : VT} {q : Int → VT → Prop} {Q : Option Vl → List Sh → VT → Prop} (h : P_X10_undo  v q) (hQ : ∀ r w, q r w → Q (some (vI r)) SH w) : n_T G d 0 0 mX10_undo 0 [vR 0] [] SH v Q := by
  unfold P_X10_undo at h
  refine T_aload_n dX10_undo_0 rfl ?_
  refine T_getR (r := 16) dX10_undo_1 fX10_33 rfl SH_0 rfl ?_
  refine T_getI dX10_undo_4 fX10_159 rfl SH_16 ?_
  refine U_if_ne (tgt := 16) dX10_undo_7 (by decide) (fun hc => ?_) (fun hc => ?_)
  · replace h := h.1 hc
    refine T_aload_n dX10_undo_16 rfl ?_
    refine T_getR (r := 16) dX10_undo_17 fX10_33 rfl SH_0 rfl ?_
    refine T_aload_n dX10_undo_20 rfl ?_
    refine T_getR (r := 10) dX10_undo_21 fX10_26 rfl SH_0 rfl ?_
    refine U_callV (as := [vR 10]) (st := []) dX10_undo_24 kX3_bringBack lX10_398 SH_16 rfl rfl rfl rfl (Nat.le_of_ble_eq_true rfl) (Nat.le_of_ble_eq_true rfl) (by omega) ?_
    refine W_X3_bringBack (by omega)  h (fun v24 h => ?_)
    show n_T G d 0 0 mX10_undo 27 [vR 0] [] SH v24 Q
    refine T_aload_n dX10_undo_27 rfl ?_
    refine U_callV (as := []) (st := []) dX10_undo_28 kX10_changed lX10_137 SH_0 rfl rfl rfl rfl (Nat.le_of_ble_eq_true rfl) (Nat.le_of_ble_eq_true rfl) (by omega) ?_
    refine W_X10_changed (by omega)  h (fun v28 h => ?_)
    show n_T G d 0 0 mX10_undo 31 [vR 0] [] SH v28 Q
    refine T_iconst dX10_undo_31 (by decide) ?_
    exact T_zret dX10_undo_32 rfl (by decide) (hQ _ _ h)
  · replace h := h.2 hc
    refine T_aload_n dX10_undo_10 rfl ?_
    refine T_iconst dX10_undo_11 (by decide) ?_
    refine U_callV (as := [vI 4]) (st := []) dX10_undo_12 kX10_deny lX10_116 SH_0 rfl rfl rfl rfl (Nat.le_of_ble_eq_true rfl) (Nat.le_of_ble_eq_true rfl) (by omega) ?_
    refine W_X10_deny (by omega)  h (fun r12 v12 h => ?_)
    show n_T G d 0 0 mX10_undo 15 [vR 0] [vI r12] SH v12 Q
    exact T_zret dX10_undo_15 rfl h.1 (hQ _ _ h.2)

theorem W_X10_seed {G : GT} {d : Nat} (hd : 2 ≤ d) {x1 : Int}   {v : VT} {q : Int → VT → Prop} {Q : Option Vl → List Sh → VT → Prop} (h : P_X10_seed x1 v q) (hQ : ∀ r w, q r w → Q (some (vI r)) SH w) : n_T G d 0 0 mX10_seed 0 [vR 0, vI x1] [] SH v Q := by
  unfold P_X10_seed at h
  refine T_iload_n dX10_seed_0 rfl ?_
  refine U_if_ge (tgt := 10) dX10_seed_1 (by decide) (fun hc => ?_) (fun hc => ?_)
  · replace h := h.1 hc
    refine T_aload_n dX10_seed_10 rfl ?_
    refine T_iload_n dX10_seed_11 rfl ?_
    refine U_putI dX10_seed_12 fX10_102 rfl rfl SH_0 (fun v12 ev12 => ?_)
    replace h := h v12 ev12
    refine T_iconst dX10_seed_15 (by decide) ?_
    exact T_zret dX10_seed_16 rfl (by decide) (hQ _ _ h)
  · replace h := h.2 hc
    refine T_aload_n dX10_seed_4 rfl ?_
    refine T_iconst dX10_seed_5 (by decide) ?_
    refine U_callV (as := [vI 5]) (st := []) dX10_seed_6 kX10_deny lX10_116 SH_0 rfl rfl rfl rfl (Nat.le_of_ble_eq_true rfl) (Nat.le_of_ble_eq_true rfl) (by omega) ?_
    refine W_X10_deny (by omega)  h (fun r6 v6 h => ?_)
    show n_T G d 0 0 mX10_seed 9 [vR 0, vI x1] [vI r6] SH v6 Q
    exact T_zret dX10_seed_9 rfl h.1 (hQ _ _ h.2)

theorem W_X10_image {G : GT} {d : Nat} (hd : 3 ≤ d)    {v : VT} {q : Int → VT → Prop} {Q : Option Vl → List Sh → VT → Prop} (h : P_X10_image  v q) (hQ : ∀ r w, q r w → Q (some (vI r)) SH w) : n_T G d 0 0 mX10_image 0 [vR 0] [] SH v Q := by
  unfold P_X10_image at h
  refine T_aload_n dX10_image_0 rfl ?_
  refine T_getR (r := 205) dX10_image_1 fX10_75 rfl SH_0 rfl ?_
  refine T_aload_n dX10_image_4 rfl ?_
  refine T_getR (r := 10) dX10_image_5 fX10_26 rfl SH_0 rfl ?_
  refine U_callV (as := [vR 10]) (st := []) dX10_image_8 kX4_write lX10_401 SH_205 rfl rfl rfl rfl (Nat.le_of_ble_eq_true rfl) (Nat.le_of_ble_eq_true rfl) (by omega) ?_
  refine W_X4_write (by omega)  h (fun v8 h => ?_)
  show n_T G d 0 0 mX10_image 11 [vR 0] [] SH v8 Q
  refine T_aload_n dX10_image_11 rfl ?_
  refine T_getR (r := 205) dX10_image_12 fX10_75 rfl SH_0 rfl ?_
  refine T_getI dX10_image_15 fX10_404 rfl SH_205 ?_
  exact T_iret dX10_image_18 rfl (hQ _ _ h)

theorem W_X10_octet {G : GT} {d : Nat} (hd : 1 ≤ d) {x1 : Int}   {v : VT} {q : Int → Prop} {Q : Option Vl → List Sh → VT → Prop} (h : P_X10_octet x1 v q) (hQ : ∀ r, q r → Q (some (vI r)) SH v) : n_T G d 0 0 mX10_octet 0 [vR 0, vI x1] [] SH v Q := by
  unfold P_X10_octet at h
  refine T_iload_n dX10_octet_0 rfl ?_
  refine U_if_lt (tgt := 27) dX10_octet_1 (by decide) (fun hc => ?_) (fun hc => ?_)
  · replace h := h.1 hc
    refine T_iconst dX10_octet_27 (by decide) ?_
    exact T_iret dX10_octet_28 rfl (hQ _ h)
  · replace h := h.2 hc
    refine T_iload_n dX10_octet_4 rfl ?_
    refine T_aload_n dX10_octet_5 rfl ?_
    refine T_getR (r := 205) dX10_octet_6 fX10_75 rfl SH_0 rfl ?_
    refine T_getI dX10_octet_9 fX10_404 rfl SH_205 ?_
    refine U_icmp_ge (tgt := 27) dX10_octet_12 (by decide) (fun hc => ?_) (fun hc => ?_)
    · replace h := h.1 hc
      refine T_iconst dX10_octet_27 (by decide) ?_
      exact T_iret dX10_octet_28 rfl (hQ _ h)
    · replace h := h.2 hc
      refine T_aload_n dX10_octet_15 rfl ?_
      refine T_getR (r := 205) dX10_octet_16 fX10_75 rfl SH_0 rfl ?_
      refine T_getR (r := 206) dX10_octet_19 fX10_405 rfl SH_205 rfl ?_
      refine T_iload_n dX10_octet_22 rfl ?_
      refine T_iald dX10_octet_23 SH_206 h.1 ?_
      replace h := h.2
      refine T_goto (tgt := 28) dX10_octet_24 (by decide) ?_
      exact T_iret dX10_octet_28 rfl (hQ _ h)

theorem W_X10_on {G : GT} {d : Nat} (hd : 10 ≤ d)    {v : VT} {q : Int → VT → Prop} {Q : Option Vl → List Sh → VT → Prop} (h : P_X10_on  v q) (hQ : ∀ r w, q r w → Q (some (vI r)) SH w) : n_T G d 0 0 mX10_on 0 [vR 0, vS 9] [] SH v Q := by
  unfold P_X10_on at h
  refine T_aload_n dX10_on_0 rfl ?_
  refine T_getR (r := 205) dX10_on_1 fX10_75 rfl SH_0 rfl ?_
  refine T_aload_n dX10_on_4 rfl ?_
  refine T_getR (r := 1) dX10_on_5 fX10_10 rfl SH_0 rfl ?_
  refine U_callV (as := [vR 1]) (st := []) dX10_on_8 kX4_read lX10_406 SH_205 rfl rfl rfl rfl (Nat.le_of_ble_eq_true rfl) (Nat.le_of_ble_eq_true rfl) (by omega) ?_
  refine W_X4_read (by omega)  h (fun r8 v8 h => ?_)
  show n_T G d 0 0 mX10_on 11 [vR 0, vS 9] [vI r8] SH v8 Q
  refine T_istore_n dX10_on_11 (by decide) rfl ?_
  refine T_aload_n dX10_on_12 rfl ?_
  refine T_getR (r := 1) dX10_on_13 fX10_10 rfl SH_0 rfl ?_
  refine T_iconst dX10_on_16 (by decide) ?_
  refine U_putI dX10_on_17 fX10_105 rfl rfl SH_1 (fun v17 ev17 => ?_)
  replace h := h v17 ev17
  refine T_iload_n dX10_on_20 rfl ?_
  refine U_if_ne (tgt := 30) dX10_on_21 (by decide) (fun hc => ?_) (fun hc => ?_)
  · replace h := h.1 hc
    refine T_aload_n dX10_on_30 rfl ?_
    refine T_getR (r := 10) dX10_on_31 fX10_26 rfl SH_0 rfl ?_
    refine T_aload_n dX10_on_34 rfl ?_
    refine T_getR (r := 205) dX10_on_35 fX10_75 rfl SH_0 rfl ?_
    refine T_getR (r := 207) dX10_on_38 fX10_410 rfl SH_205 rfl ?_
    refine U_callV (as := [vR 207]) (st := []) dX10_on_41 kX0_takeFrom lX10_130 SH_10 rfl rfl rfl rfl (Nat.le_of_ble_eq_true rfl) (Nat.le_of_ble_eq_true rfl) (by omega) ?_
    refine W_X0_takeFrom (by omega) isG_at10 isG_at207 h (fun v41 h => ?_)
    show n_T G d 0 0 mX10_on 44 [vR 0, vI r8] [] SH v41 Q
    refine T_aload_n dX10_on_44 rfl ?_
    refine T_getR (r := 16) dX10_on_45 fX10_33 rfl SH_0 rfl ?_
    refine U_callV (as := []) (st := []) dX10_on_48 kX3_forget lX10_134 SH_16 rfl rfl rfl rfl (Nat.le_of_ble_eq_true rfl) (Nat.le_of_ble_eq_true rfl) (by omega) ?_
    refine W_X3_forget (by omega)  h (fun v48 h => ?_)
    show n_T G d 0 0 mX10_on 51 [vR 0, vI r8] [] SH v48 Q
    refine T_aload_n dX10_on_51 rfl ?_
    refine U_callV (as := []) (st := []) dX10_on_52 kX10_changed lX10_137 SH_0 rfl rfl rfl rfl (Nat.le_of_ble_eq_true rfl) (Nat.le_of_ble_eq_true rfl) (by omega) ?_
    refine W_X10_changed (by omega)  h (fun v52 h => ?_)
    show n_T G d 0 0 mX10_on 55 [vR 0, vI r8] [] SH v52 Q
    refine T_iconst dX10_on_55 (by decide) ?_
    exact T_zret dX10_on_56 rfl (by decide) (hQ _ _ h)
  · replace h := h.2 hc
    refine T_aload_n dX10_on_24 rfl ?_
    refine T_iconst dX10_on_25 (by decide) ?_
    refine U_callV (as := [vI 5]) (st := []) dX10_on_26 kX10_deny lX10_116 SH_0 rfl rfl rfl rfl (Nat.le_of_ble_eq_true rfl) (Nat.le_of_ble_eq_true rfl) (by omega) ?_
    refine W_X10_deny (by omega)  h (fun r26 v26 h => ?_)
    show n_T G d 0 0 mX10_on 29 [vR 0, vI r8] [vI r26] SH v26 Q
    exact T_zret dX10_on_29 rfl h.1 (hQ _ _ h.2)

theorem W_X10_status {G : GT} {d : Nat} (hd : 1 ≤ d) {x1 : Int}   {v : VT} {q : Int → Prop} {Q : Option Vl → List Sh → VT → Prop} (h : P_X10_status x1 v q) (hQ : ∀ r, q r → Q (some (vI r)) SH v) : n_T G d 0 0 mX10_status 0 [vR 0, vI x1] [] SH v Q := by
  unfold P_X10_status at h
  refine T_iload_n dX10_status_0 rfl ?_
  refine U_if_lt (tgt := 19) dX10_status_1 (by decide) (fun hc => ?_) (fun hc => ?_)
  · replace h := h.1 hc
    refine T_iconst dX10_status_19 (by decide) ?_
    exact T_iret dX10_status_20 rfl (hQ _ h)
  · replace h := h.2 hc
    refine T_iload_n dX10_status_4 rfl ?_
    refine T_bipush dX10_status_5 (by decide) ?_
    refine U_icmp_ge (tgt := 19) dX10_status_7 (by decide) (fun hc => ?_) (fun hc => ?_)
    · replace h := h.1 hc
      refine T_iconst dX10_status_19 (by decide) ?_
      exact T_iret dX10_status_20 rfl (hQ _ h)
    · replace h := h.2 hc
      refine T_aload_n dX10_status_10 rfl ?_
      refine T_getR (r := 217) dX10_status_11 fX10_92 rfl SH_0 rfl ?_
      refine T_iload_n dX10_status_14 rfl ?_
      refine T_iald dX10_status_15 SH_217 h.1 ?_
      replace h := h.2
      refine T_goto (tgt := 20) dX10_status_16 (by decide) ?_
      exact T_iret dX10_status_20 rfl (hQ _ h)

